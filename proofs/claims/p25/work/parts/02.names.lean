def RX0 : String := "CursorKeep$Act"
def TX0 : u_T := fun k => match k with
  | 0 => ("CursorKeep$Act", "text", "LCursorKeep$Text;", true)
  | 1 => ("CursorKeep$Act", "letter", "I", true)
  | _ => ("CursorKeep$Act", "typed", "Z", true)
def tyX0 : Nat → FieldType := fun k => match k with
  | 0 => .object "CursorKeep$Text"
  | 1 => .int
  | _ => .boolean
abbrev wsX00 : List Cond := u_ws RX0 TX0 3
theorem nmX0 : ∀ a, a < 3 → ∀ b, b < 3 → a ≠ b → (TX0 a).2.1 ≠ (TX0 b).2.1 := by decide +kernel
theorem tyX0_ok : ∀ k, k < 3 → parseFieldDescriptor (TX0 k).2.2.1 = some (tyX0 k) := by decide +kernel
abbrev cX0_init : ByteArray := prog_2_method_1_code
def yX0_init : MethodName := ⟨RX0, "<init>", "(LCursorKeep$Text;IZ)V"⟩
def RX1 : String := "CursorKeep$Change"
def TX1 : u_T := fun k => match k with
  | 0 => ("CursorKeep$Change", "letter", "I", true)
  | 1 => ("CursorKeep$Change", "had", "C", true)
  | 2 => ("CursorKeep$Change", "wanted", "C", true)
  | 3 => ("CursorKeep$Change", "ahead", "I", true)
  | 4 => ("CursorKeep$Change", "behind", "I", true)
  | _ => ("CursorKeep$Change", "isSpared", "Z", false)
def tyX1 : Nat → FieldType := fun k => match k with
  | 0 => .int
  | 1 => .char
  | 2 => .char
  | 3 => .int
  | 4 => .int
  | _ => .boolean
abbrev wsX10 : List Cond := u_ws RX1 TX1 6
theorem nmX1 : ∀ a, a < 6 → ∀ b, b < 6 → a ≠ b → (TX1 a).2.1 ≠ (TX1 b).2.1 := by decide +kernel
theorem tyX1_ok : ∀ k, k < 6 → parseFieldDescriptor (TX1 k).2.2.1 = some (tyX1 k) := by decide +kernel
abbrev cX1_init : ByteArray := prog_3_method_1_code
def yX1_init : MethodName := ⟨RX1, "<init>", "(ICCII)V"⟩
abbrev cX1_goes : ByteArray := prog_3_method_2_code
def yX1_goes : MethodName := ⟨RX1, "goes", "()Z"⟩
def RX2 : String := "CursorKeep$Deed"
def TX2 : u_T := fun k => match k with
  | 0 => ("CursorKeep$Deed", "kind", "I", true)
  | 1 => ("CursorKeep$Deed", "where", "I", true)
  | _ => ("CursorKeep$Deed", "sign", "C", true)
def tyX2 : Nat → FieldType := fun k => match k with
  | 0 => .int
  | 1 => .int
  | _ => .char
abbrev wsX20 : List Cond := u_ws RX2 TX2 3
theorem nmX2 : ∀ a, a < 3 → ∀ b, b < 3 → a ≠ b → (TX2 a).2.1 ≠ (TX2 b).2.1 := by decide +kernel
theorem tyX2_ok : ∀ k, k < 3 → parseFieldDescriptor (TX2 k).2.2.1 = some (tyX2 k) := by decide +kernel
abbrev cX2_init : ByteArray := prog_4_method_1_code
def yX2_init : MethodName := ⟨RX2, "<init>", "(IIC)V"⟩
abbrev cX2_doTo : ByteArray := prog_4_method_2_code
def yX2_doTo : MethodName := ⟨RX2, "doTo", "(LCursorKeep$Row;)V"⟩
def RX3 : String := "CursorKeep$Format"
def TX3 : u_T := fun k => match k with
  | 0 => ("CursorKeep$Format", "text", "LCursorKeep$Text;", true)
  | 1 => ("CursorKeep$Format", "changes", "Ljava/util/List;", true)
  | 2 => ("CursorKeep$Format", "state", "I", false)
  | _ => ("CursorKeep$Format", "sparedAtEnd", "I", false)
def tyX3 : Nat → FieldType := fun k => match k with
  | 0 => .object "CursorKeep$Text"
  | 1 => .object "java/util/List"
  | 2 => .int
  | _ => .int
abbrev wsX30 : List Cond := u_ws RX3 TX3 4
theorem nmX3 : ∀ a, a < 4 → ∀ b, b < 4 → a ≠ b → (TX3 a).2.1 ≠ (TX3 b).2.1 := by decide +kernel
theorem tyX3_ok : ∀ k, k < 4 → parseFieldDescriptor (TX3 k).2.2.1 = some (tyX3 k) := by decide +kernel
abbrev cX3_init : ByteArray := prog_5_method_1_code
def yX3_init : MethodName := ⟨RX3, "<init>", "(LCursorKeep$Text;Ljava/util/List;)V"⟩
abbrev cX3_end : ByteArray := prog_5_method_2_code
def yX3_end : MethodName := ⟨RX3, "end", "(II)V"⟩
abbrev cX3_judge : ByteArray := prog_5_method_3_code
def yX3_judge : MethodName := ⟨RX3, "judge", "(LCursorKeep$Neighbours;)I"⟩
abbrev cX3_doChanges : ByteArray := prog_5_method_4_code
def yX3_doChanges : MethodName := ⟨RX3, "doChanges", "()V"⟩
abbrev cX3_spares : ByteArray := prog_5_method_5_code
def yX3_spares : MethodName := ⟨RX3, "spares", "(LCursorKeep$Change;LCursorKeep$Neighbours;)Z"⟩
def RX4 : String := "CursorKeep$Hand"
def TX4 : u_T := fun k => match k with
  | 0 => ("CursorKeep$Hand", "acts", "Ljava/util/List;", true)
  | _ => ("CursorKeep$Hand", "standing", "I", false)
def tyX4 : Nat → FieldType := fun k => match k with
  | 0 => .object "java/util/List"
  | _ => .int
abbrev wsX40 : List Cond := u_ws RX4 TX4 2
theorem nmX4 : ∀ a, a < 2 → ∀ b, b < 2 → a ≠ b → (TX4 a).2.1 ≠ (TX4 b).2.1 := by decide +kernel
theorem tyX4_ok : ∀ k, k < 2 → parseFieldDescriptor (TX4 k).2.2.1 = some (tyX4 k) := by decide +kernel
abbrev cX4_init : ByteArray := prog_6_method_1_code
def yX4_init : MethodName := ⟨RX4, "<init>", "()V"⟩
abbrev cX4_remember : ByteArray := prog_6_method_2_code
def yX4_remember : MethodName := ⟨RX4, "remember", "(LCursorKeep$Act;)V"⟩
abbrev cX4_stepBack : ByteArray := prog_6_method_3_code
def yX4_stepBack : MethodName := ⟨RX4, "stepBack", "()LCursorKeep$Act;"⟩
abbrev cX4_stepForth : ByteArray := prog_6_method_4_code
def yX4_stepForth : MethodName := ⟨RX4, "stepForth", "()LCursorKeep$Act;"⟩
def RX5 : String := "CursorKeep$Neighbours"
def TX5 : u_T := fun k => match k with
  | 0 => ("CursorKeep$Neighbours", "going", "[Z", true)
  | 1 => ("CursorKeep$Neighbours", "ahead", "[I", true)
  | _ => ("CursorKeep$Neighbours", "behind", "[I", true)
def tyX5 : Nat → FieldType := fun k => match k with
  | 0 => .array .boolean
  | 1 => .array .int
  | _ => .array .int
abbrev wsX50 : List Cond := u_ws RX5 TX5 3
theorem nmX5 : ∀ a, a < 3 → ∀ b, b < 3 → a ≠ b → (TX5 a).2.1 ≠ (TX5 b).2.1 := by decide +kernel
theorem tyX5_ok : ∀ k, k < 3 → parseFieldDescriptor (TX5 k).2.2.1 = some (tyX5 k) := by decide +kernel
abbrev cX5_init : ByteArray := prog_7_method_1_code
def yX5_init : MethodName := ⟨RX5, "<init>", "()V"⟩
abbrev cX5_forgetGoing : ByteArray := prog_7_method_2_code
def yX5_forgetGoing : MethodName := ⟨RX5, "forgetGoing", "()V"⟩
abbrev cX5_markGoing : ByteArray := prog_7_method_3_code
def yX5_markGoing : MethodName := ⟨RX5, "markGoing", "(I)V"⟩
abbrev cX5_find : ByteArray := prog_7_method_4_code
def yX5_find : MethodName := ⟨RX5, "find", "(LCursorKeep$Row;)V"⟩
abbrev cX5_aheadOf : ByteArray := prog_7_method_5_code
def yX5_aheadOf : MethodName := ⟨RX5, "aheadOf", "(I)I"⟩
abbrev cX5_behindOf : ByteArray := prog_7_method_6_code
def yX5_behindOf : MethodName := ⟨RX5, "behindOf", "(I)I"⟩
abbrev cX5_pass : ByteArray := prog_7_method_7_code
def yX5_pass : MethodName := ⟨RX5, "pass", "(LCursorKeep$Row;II[I)I"⟩
abbrev cX5_isLetter : ByteArray := prog_7_method_8_code
def yX5_isLetter : MethodName := ⟨RX5, "isLetter", "(I)Z"⟩
def RX6 : String := "CursorKeep$Plan"
def TX6 : u_T := fun k => match k with
  | 0 => ("CursorKeep$Plan", "letters", "[I", true)
  | 1 => ("CursorKeep$Plan", "signs", "[C", true)
  | 2 => ("CursorKeep$Plan", "wanted", "[C", true)
  | _ => ("CursorKeep$Plan", "count", "I", false)
def tyX6 : Nat → FieldType := fun k => match k with
  | 0 => .array .int
  | 1 => .array .char
  | 2 => .array .char
  | _ => .int
abbrev wsX60 : List Cond := u_ws RX6 TX6 4
theorem nmX6 : ∀ a, a < 4 → ∀ b, b < 4 → a ≠ b → (TX6 a).2.1 ≠ (TX6 b).2.1 := by decide +kernel
theorem tyX6_ok : ∀ k, k < 4 → parseFieldDescriptor (TX6 k).2.2.1 = some (tyX6 k) := by decide +kernel
abbrev cX6_init : ByteArray := prog_8_method_1_code
def yX6_init : MethodName := ⟨RX6, "<init>", "()V"⟩
abbrev cX6_draw : ByteArray := prog_8_method_2_code
def yX6_draw : MethodName := ⟨RX6, "draw", "(LCursorKeep$Row;II)V"⟩
abbrev cX6_changes : ByteArray := prog_8_method_3_code
def yX6_changes : MethodName := ⟨RX6, "changes", "(LCursorKeep$Row;LCursorKeep$Neighbours;)Ljava/util/List;"⟩
abbrev cX6_look : ByteArray := prog_8_method_4_code
def yX6_look : MethodName := ⟨RX6, "look", "(LCursorKeep$Row;)V"⟩
abbrev cX6_wantSingleSpaces : ByteArray := prog_8_method_5_code
def yX6_wantSingleSpaces : MethodName := ⟨RX6, "wantSingleSpaces", "()V"⟩
abbrev cX6_wantBareEnds : ByteArray := prog_8_method_6_code
def yX6_wantBareEnds : MethodName := ⟨RX6, "wantBareEnds", "()V"⟩
abbrev cX6_wantCapitals : ByteArray := prog_8_method_7_code
def yX6_wantCapitals : MethodName := ⟨RX6, "wantCapitals", "()V"⟩
abbrev cX6_wantWrapped : ByteArray := prog_8_method_8_code
def yX6_wantWrapped : MethodName := ⟨RX6, "wantWrapped", "(I)V"⟩
def RX7 : String := "CursorKeep$Row"
def TX7 : u_T := fun k => match k with
  | 0 => ("CursorKeep$Row", "order", "[I", true)
  | 1 => ("CursorKeep$Row", "signs", "[C", true)
  | 2 => ("CursorKeep$Row", "there", "[Z", true)
  | _ => ("CursorKeep$Row", "count", "I", false)
def tyX7 : Nat → FieldType := fun k => match k with
  | 0 => .array .int
  | 1 => .array .char
  | 2 => .array .boolean
  | _ => .int
abbrev wsX70 : List Cond := u_ws RX7 TX7 4
theorem nmX7 : ∀ a, a < 4 → ∀ b, b < 4 → a ≠ b → (TX7 a).2.1 ≠ (TX7 b).2.1 := by decide +kernel
theorem tyX7_ok : ∀ k, k < 4 → parseFieldDescriptor (TX7 k).2.2.1 = some (tyX7 k) := by decide +kernel
abbrev cX7_init : ByteArray := prog_9_method_1_code
def yX7_init : MethodName := ⟨RX7, "<init>", "()V"⟩
abbrev cX7_empty : ByteArray := prog_9_method_2_code
def yX7_empty : MethodName := ⟨RX7, "empty", "()V"⟩
abbrev cX7_count : ByteArray := prog_9_method_3_code
def yX7_count : MethodName := ⟨RX7, "count", "()I"⟩
abbrev cX7_isFull : ByteArray := prog_9_method_4_code
def yX7_isFull : MethodName := ⟨RX7, "isFull", "()Z"⟩
abbrev cX7_has : ByteArray := prog_9_method_5_code
def yX7_has : MethodName := ⟨RX7, "has", "(I)Z"⟩
abbrev cX7_shows : ByteArray := prog_9_method_6_code
def yX7_shows : MethodName := ⟨RX7, "shows", "(I)Z"⟩
abbrev cX7_signOf : ByteArray := prog_9_method_7_code
def yX7_signOf : MethodName := ⟨RX7, "signOf", "(I)C"⟩
abbrev cX7_letterAt : ByteArray := prog_9_method_8_code
def yX7_letterAt : MethodName := ⟨RX7, "letterAt", "(I)I"⟩
abbrev cX7_spotOf : ByteArray := prog_9_method_9_code
def yX7_spotOf : MethodName := ⟨RX7, "spotOf", "(I)I"⟩
abbrev cX7_nearestShownAhead : ByteArray := prog_9_method_10_code
def yX7_nearestShownAhead : MethodName := ⟨RX7, "nearestShownAhead", "(I)I"⟩
abbrev cX7_nearestShownFrom : ByteArray := prog_9_method_11_code
def yX7_nearestShownFrom : MethodName := ⟨RX7, "nearestShownFrom", "(I)I"⟩
abbrev cX7_shownCount : ByteArray := prog_9_method_12_code
def yX7_shownCount : MethodName := ⟨RX7, "shownCount", "()I"⟩
abbrev cX7_shownCountAhead : ByteArray := prog_9_method_13_code
def yX7_shownCountAhead : MethodName := ⟨RX7, "shownCountAhead", "(I)I"⟩
abbrev cX7_shownLetter : ByteArray := prog_9_method_14_code
def yX7_shownLetter : MethodName := ⟨RX7, "shownLetter", "(I)I"⟩
abbrev cX7_put : ByteArray := prog_9_method_15_code
def yX7_put : MethodName := ⟨RX7, "put", "(IC)V"⟩
abbrev cX7_setThere : ByteArray := prog_9_method_16_code
def yX7_setThere : MethodName := ⟨RX7, "setThere", "(IZ)V"⟩
abbrev cX7_setSign : ByteArray := prog_9_method_17_code
def yX7_setSign : MethodName := ⟨RX7, "setSign", "(IC)V"⟩
def RX8 : String := "CursorKeep$Save"
def TX8 : u_T := fun k => match k with
  | 0 => ("CursorKeep$Save", "number", "I", true)
  | 1 => ("CursorKeep$Save", "text", "LCursorKeep$Text;", true)
  | 2 => ("CursorKeep$Save", "hand", "I", true)
  | _ => ("CursorKeep$Save", "awaited", "LCursorKeep$Format;", true)
def tyX8 : Nat → FieldType := fun k => match k with
  | 0 => .int
  | 1 => .object "CursorKeep$Text"
  | 2 => .int
  | _ => .object "CursorKeep$Format"
abbrev wsX80 : List Cond := u_ws RX8 TX8 4
theorem nmX8 : ∀ a, a < 4 → ∀ b, b < 4 → a ≠ b → (TX8 a).2.1 ≠ (TX8 b).2.1 := by decide +kernel
theorem tyX8_ok : ∀ k, k < 4 → parseFieldDescriptor (TX8 k).2.2.1 = some (tyX8 k) := by decide +kernel
abbrev cX8_init : ByteArray := prog_10_method_1_code
def yX8_init : MethodName := ⟨RX8, "<init>", "(IILCursorKeep$Text;LCursorKeep$Format;)V"⟩
abbrev cX8_isReady : ByteArray := prog_10_method_2_code
def yX8_isReady : MethodName := ⟨RX8, "isReady", "()Z"⟩
def RX9 : String := "CursorKeep$Text"
def TX9 : u_T := fun k => match k with
  | 0 => ("CursorKeep$Text", "number", "I", true)
  | 1 => ("CursorKeep$Text", "row", "LCursorKeep$Row;", true)
  | 2 => ("CursorKeep$Text", "savedSigns", "[C", true)
  | 3 => ("CursorKeep$Text", "version", "I", false)
  | 4 => ("CursorKeep$Text", "lockedBy", "I", false)
  | 5 => ("CursorKeep$Text", "savedVersion", "I", false)
  | 6 => ("CursorKeep$Text", "savedCount", "I", false)
  | 7 => ("CursorKeep$Text", "anew", "LCursorKeep$Row;", true)
  | 8 => ("CursorKeep$Text", "deeds", "Ljava/util/List;", true)
  | _ => ("CursorKeep$Text", "cursors", "[I", true)
def tyX9 : Nat → FieldType := fun k => match k with
  | 0 => .int
  | 1 => .object "CursorKeep$Row"
  | 2 => .array .char
  | 3 => .int
  | 4 => .int
  | 5 => .int
  | 6 => .int
  | 7 => .object "CursorKeep$Row"
  | 8 => .object "java/util/List"
  | _ => .array .int
abbrev wsX90 : List Cond := u_ws RX9 TX9 10
theorem nmX9 : ∀ a, a < 10 → ∀ b, b < 10 → a ≠ b → (TX9 a).2.1 ≠ (TX9 b).2.1 := by decide +kernel
theorem tyX9_ok : ∀ k, k < 10 → parseFieldDescriptor (TX9 k).2.2.1 = some (tyX9 k) := by decide +kernel
abbrev cX9_init : ByteArray := prog_11_method_1_code
def yX9_init : MethodName := ⟨RX9, "<init>", "(I)V"⟩
abbrev cX9_isFreeFor : ByteArray := prog_11_method_2_code
def yX9_isFreeFor : MethodName := ⟨RX9, "isFreeFor", "(I)Z"⟩
abbrev cX9_cursorPlace : ByteArray := prog_11_method_3_code
def yX9_cursorPlace : MethodName := ⟨RX9, "cursorPlace", "(I)I"⟩
abbrev cX9_letterAheadOfCursor : ByteArray := prog_11_method_4_code
def yX9_letterAheadOfCursor : MethodName := ⟨RX9, "letterAheadOfCursor", "(I)I"⟩
abbrev cX9_setCursor : ByteArray := prog_11_method_5_code
def yX9_setCursor : MethodName := ⟨RX9, "setCursor", "(II)V"⟩
abbrev cX9_hasCursorAt : ByteArray := prog_11_method_6_code
def yX9_hasCursorAt : MethodName := ⟨RX9, "hasCursorAt", "(I)Z"⟩
abbrev cX9_putAheadOfCursor : ByteArray := prog_11_method_7_code
def yX9_putAheadOfCursor : MethodName := ⟨RX9, "putAheadOfCursor", "(IC)I"⟩
abbrev cX9_turn : ByteArray := prog_11_method_8_code
def yX9_turn : MethodName := ⟨RX9, "turn", "(IZ)V"⟩
abbrev cX9_letGo : ByteArray := prog_11_method_9_code
def yX9_letGo : MethodName := ⟨RX9, "letGo", "(I)V"⟩
abbrev cX9_become : ByteArray := prog_11_method_10_code
def yX9_become : MethodName := ⟨RX9, "become", "(IC)V"⟩
abbrev cX9_rowAnew : ByteArray := prog_11_method_11_code
def yX9_rowAnew : MethodName := ⟨RX9, "rowAnew", "()LCursorKeep$Row;"⟩
abbrev cX9_keepAsSaved : ByteArray := prog_11_method_12_code
def yX9_keepAsSaved : MethodName := ⟨RX9, "keepAsSaved", "()V"⟩
abbrev cX9_cursorSpot : ByteArray := prog_11_method_13_code
def yX9_cursorSpot : MethodName := ⟨RX9, "cursorSpot", "(I)I"⟩
abbrev cX9_perform : ByteArray := prog_11_method_14_code
def yX9_perform : MethodName := ⟨RX9, "perform", "(LCursorKeep$Deed;)V"⟩
def RX10 : String := "CursorKeep"
def TX10 : u_T := fun k => match k with
  | 0 => ("CursorKeep", "texts", "[LCursorKeep$Text;", true)
  | 1 => ("CursorKeep", "hands", "[LCursorKeep$Hand;", true)
  | 2 => ("CursorKeep", "formats", "Ljava/util/List;", true)
  | 3 => ("CursorKeep", "queue", "Ljava/util/List;", true)
  | 4 => ("CursorKeep", "plan", "LCursorKeep$Plan;", true)
  | 5 => ("CursorKeep", "neighbours", "LCursorKeep$Neighbours;", true)
  | _ => ("CursorKeep", "saves", "I", false)
def tyX10 : Nat → FieldType := fun k => match k with
  | 0 => .array (.object "CursorKeep$Text")
  | 1 => .array (.object "CursorKeep$Hand")
  | 2 => .object "java/util/List"
  | 3 => .object "java/util/List"
  | 4 => .object "CursorKeep$Plan"
  | 5 => .object "CursorKeep$Neighbours"
  | _ => .int
abbrev wsX100 : List Cond := u_ws RX10 TX10 7
theorem nmX10 : ∀ a, a < 7 → ∀ b, b < 7 → a ≠ b → (TX10 a).2.1 ≠ (TX10 b).2.1 := by decide +kernel
theorem tyX10_ok : ∀ k, k < 7 → parseFieldDescriptor (TX10 k).2.2.1 = some (tyX10 k) := by decide +kernel
abbrev cX10_init : ByteArray := prog_1_method_1_code
def yX10_init : MethodName := ⟨RX10, "<init>", "()V"⟩
abbrev cX10_type : ByteArray := prog_1_method_2_code
def yX10_type : MethodName := ⟨RX10, "type", "(IIC)I"⟩
abbrev cX10_erase : ByteArray := prog_1_method_3_code
def yX10_erase : MethodName := ⟨RX10, "erase", "(II)I"⟩
abbrev cX10_moveTo : ByteArray := prog_1_method_4_code
def yX10_moveTo : MethodName := ⟨RX10, "moveTo", "(III)I"⟩
abbrev cX10_undo : ByteArray := prog_1_method_5_code
def yX10_undo : MethodName := ⟨RX10, "undo", "(I)I"⟩
abbrev cX10_redo : ByteArray := prog_1_method_6_code
def yX10_redo : MethodName := ⟨RX10, "redo", "(I)I"⟩
abbrev cX10_place : ByteArray := prog_1_method_7_code
def yX10_place : MethodName := ⟨RX10, "place", "(II)I"⟩
abbrev cX10_length : ByteArray := prog_1_method_8_code
def yX10_length : MethodName := ⟨RX10, "length", "(I)I"⟩
abbrev cX10_letter : ByteArray := prog_1_method_9_code
def yX10_letter : MethodName := ⟨RX10, "letter", "(II)C"⟩
abbrev cX10_letterAnew : ByteArray := prog_1_method_10_code
def yX10_letterAnew : MethodName := ⟨RX10, "letterAnew", "(II)C"⟩
abbrev cX10_version : ByteArray := prog_1_method_11_code
def yX10_version : MethodName := ⟨RX10, "version", "(I)I"⟩
abbrev cX10_ask : ByteArray := prog_1_method_12_code
def yX10_ask : MethodName := ⟨RX10, "ask", "(III)I"⟩
abbrev cX10_come : ByteArray := prog_1_method_13_code
def yX10_come : MethodName := ⟨RX10, "come", "(I)I"⟩
abbrev cX10_drop : ByteArray := prog_1_method_14_code
def yX10_drop : MethodName := ⟨RX10, "drop", "(I)I"⟩
abbrev cX10_state : ByteArray := prog_1_method_15_code
def yX10_state : MethodName := ⟨RX10, "state", "(I)I"⟩
abbrev cX10_spared : ByteArray := prog_1_method_16_code
def yX10_spared : MethodName := ⟨RX10, "spared", "(I)I"⟩
abbrev cX10_lock : ByteArray := prog_1_method_17_code
def yX10_lock : MethodName := ⟨RX10, "lock", "(II)Z"⟩
abbrev cX10_save : ByteArray := prog_1_method_18_code
def yX10_save : MethodName := ⟨RX10, "save", "(III)I"⟩
abbrev cX10_write : ByteArray := prog_1_method_19_code
def yX10_write : MethodName := ⟨RX10, "write", "()I"⟩
abbrev cX10_queued : ByteArray := prog_1_method_20_code
def yX10_queued : MethodName := ⟨RX10, "queued", "()I"⟩
abbrev cX10_savedVersion : ByteArray := prog_1_method_21_code
def yX10_savedVersion : MethodName := ⟨RX10, "savedVersion", "(I)I"⟩
abbrev cX10_savedLength : ByteArray := prog_1_method_22_code
def yX10_savedLength : MethodName := ⟨RX10, "savedLength", "(I)I"⟩
abbrev cX10_savedLetter : ByteArray := prog_1_method_23_code
def yX10_savedLetter : MethodName := ⟨RX10, "savedLetter", "(II)C"⟩
abbrev cX10_handAt : ByteArray := prog_1_method_24_code
def yX10_handAt : MethodName := ⟨RX10, "handAt", "(I)LCursorKeep$Hand;"⟩
abbrev cX10_textAt : ByteArray := prog_1_method_25_code
def yX10_textAt : MethodName := ⟨RX10, "textAt", "(I)LCursorKeep$Text;"⟩
abbrev cX10_formatAt : ByteArray := prog_1_method_26_code
def yX10_formatAt : MethodName := ⟨RX10, "formatAt", "(I)LCursorKeep$Format;"⟩
abbrev cX10_waitingFormatAt : ByteArray := prog_1_method_27_code
def yX10_waitingFormatAt : MethodName := ⟨RX10, "waitingFormatAt", "(I)LCursorKeep$Format;"⟩
abbrev cX10_isFirstForItsText : ByteArray := prog_1_method_28_code
def yX10_isFirstForItsText : MethodName := ⟨RX10, "isFirstForItsText", "(LCursorKeep$Save;)Z"⟩
abbrev cX10_shownSign : ByteArray := prog_1_method_29_code
def yX10_shownSign : MethodName := ⟨RX10, "shownSign", "(LCursorKeep$Row;I)C"⟩
abbrev cX10_canBeTyped : ByteArray := prog_1_method_30_code
def yX10_canBeTyped : MethodName := ⟨RX10, "canBeTyped", "(C)Z"⟩
abbrev cX10_canBeAsked : ByteArray := prog_1_method_31_code
def yX10_canBeAsked : MethodName := ⟨RX10, "canBeAsked", "(II)Z"⟩
def RX11 : String := "CursorKeepModel"
def TX11 : u_T := fun k => match k with
  | _ => ("", "", "", false)
def tyX11 : Nat → FieldType := fun k => match k with
  | _ => .int
abbrev wsX110 : List Cond := u_ws RX11 TX11 0
theorem nmX11 : ∀ a, a < 0 → ∀ b, b < 0 → a ≠ b → (TX11 a).2.1 ≠ (TX11 b).2.1 := by decide +kernel
theorem tyX11_ok : ∀ k, k < 0 → parseFieldDescriptor (TX11 k).2.2.1 = some (tyX11 k) := by decide +kernel
def RJx145de : String := "java/io/Serializable"
def TJx145de : u_T := fun k => match k with
  | _ => ("", "", "", false)
def tyJx145de : Nat → FieldType := fun k => match k with
  | _ => .int
abbrev wsJx145de0 : List Cond := u_ws RJx145de TJx145de 0
theorem nmJx145de : ∀ a, a < 0 → ∀ b, b < 0 → a ≠ b → (TJx145de a).2.1 ≠ (TJx145de b).2.1 := by decide +kernel
theorem tyJx145de_ok : ∀ k, k < 0 → parseFieldDescriptor (TJx145de k).2.2.1 = some (tyJx145de k) := by decide +kernel
def RJx8e188 : String := "java/lang/Cloneable"
def TJx8e188 : u_T := fun k => match k with
  | _ => ("", "", "", false)
def tyJx8e188 : Nat → FieldType := fun k => match k with
  | _ => .int
abbrev wsJx8e1880 : List Cond := u_ws RJx8e188 TJx8e188 0
theorem nmJx8e188 : ∀ a, a < 0 → ∀ b, b < 0 → a ≠ b → (TJx8e188 a).2.1 ≠ (TJx8e188 b).2.1 := by decide +kernel
theorem tyJx8e188_ok : ∀ k, k < 0 → parseFieldDescriptor (TJx8e188 k).2.2.1 = some (tyJx8e188 k) := by decide +kernel
def RJxab1ab : String := "java/lang/Iterable"
def TJxab1ab : u_T := fun k => match k with
  | _ => ("", "", "", false)
def tyJxab1ab : Nat → FieldType := fun k => match k with
  | _ => .int
abbrev wsJxab1ab0 : List Cond := u_ws RJxab1ab TJxab1ab 0
theorem nmJxab1ab : ∀ a, a < 0 → ∀ b, b < 0 → a ≠ b → (TJxab1ab a).2.1 ≠ (TJxab1ab b).2.1 := by decide +kernel
theorem tyJxab1ab_ok : ∀ k, k < 0 → parseFieldDescriptor (TJxab1ab k).2.2.1 = some (tyJxab1ab k) := by decide +kernel
def RJ9 : String := "java/lang/Math"
def TJ9 : u_T := fun k => match k with
  | _ => ("", "", "", false)
def tyJ9 : Nat → FieldType := fun k => match k with
  | _ => .int
abbrev wsJ90 : List Cond := u_ws RJ9 TJ9 0
theorem nmJ9 : ∀ a, a < 0 → ∀ b, b < 0 → a ≠ b → (TJ9 a).2.1 ≠ (TJ9 b).2.1 := by decide +kernel
theorem tyJ9_ok : ∀ k, k < 0 → parseFieldDescriptor (TJ9 k).2.2.1 = some (tyJ9 k) := by decide +kernel
abbrev cJ9_max_7cf53 : ByteArray := prog_21_method_65_code
def yJ9_max_7cf53 : MethodName := ⟨RJ9, "max", "(II)I"⟩
abbrev cJ9_min_7cf53 : ByteArray := prog_21_method_69_code
def yJ9_min_7cf53 : MethodName := ⟨RJ9, "min", "(II)I"⟩
def RJ0 : String := "java/lang/String"
def TJ0 : u_T := fun k => match k with
  | _ => ("", "", "", false)
def tyJ0 : Nat → FieldType := fun k => match k with
  | _ => .int
abbrev wsJ00 : List Cond := u_ws RJ0 TJ0 0
theorem nmJ0 : ∀ a, a < 0 → ∀ b, b < 0 → a ≠ b → (TJ0 a).2.1 ≠ (TJ0 b).2.1 := by decide +kernel
theorem tyJ0_ok : ∀ k, k < 0 → parseFieldDescriptor (TJ0 k).2.2.1 = some (tyJ0 k) := by decide +kernel
def RJ10 : String := "java/lang/System"
def TJ10 : u_T := fun k => match k with
  | _ => ("", "", "", false)
def tyJ10 : Nat → FieldType := fun k => match k with
  | _ => .int
abbrev wsJ100 : List Cond := u_ws RJ10 TJ10 0
theorem nmJ10 : ∀ a, a < 0 → ∀ b, b < 0 → a ≠ b → (TJ10 a).2.1 ≠ (TJ10 b).2.1 := by decide +kernel
theorem tyJ10_ok : ∀ k, k < 0 → parseFieldDescriptor (TJ10 k).2.2.1 = some (tyJ10 k) := by decide +kernel
def RJxa1e45 : String := "java/util/AbstractCollection"
def TJxa1e45 : u_T := fun k => match k with
  | _ => ("", "", "", false)
def tyJxa1e45 : Nat → FieldType := fun k => match k with
  | _ => .int
abbrev wsJxa1e450 : List Cond := u_ws RJxa1e45 TJxa1e45 0
theorem nmJxa1e45 : ∀ a, a < 0 → ∀ b, b < 0 → a ≠ b → (TJxa1e45 a).2.1 ≠ (TJxa1e45 b).2.1 := by decide +kernel
theorem tyJxa1e45_ok : ∀ k, k < 0 → parseFieldDescriptor (TJxa1e45 k).2.2.1 = some (tyJxa1e45 k) := by decide +kernel
abbrev cJxa1e45_init_da8c8 : ByteArray := prog_26_method_1_code
def yJxa1e45_init_da8c8 : MethodName := ⟨RJxa1e45, "<init>", "()V"⟩
def RJxc12de : String := "java/util/AbstractList"
def TJxc12de : u_T := fun k => match k with
  | _ => ("", "", "", false)
def tyJxc12de : Nat → FieldType := fun k => match k with
  | _ => .int
abbrev wsJxc12de0 : List Cond := u_ws RJxc12de TJxc12de 0
theorem nmJxc12de : ∀ a, a < 0 → ∀ b, b < 0 → a ≠ b → (TJxc12de a).2.1 ≠ (TJxc12de b).2.1 := by decide +kernel
theorem tyJxc12de_ok : ∀ k, k < 0 → parseFieldDescriptor (TJxc12de k).2.2.1 = some (tyJxc12de k) := by decide +kernel
abbrev cJxc12de_init_da8c8 : ByteArray := prog_27_method_1_code
def yJxc12de_init_da8c8 : MethodName := ⟨RJxc12de, "<init>", "()V"⟩
def RJx4a65c : String := "java/util/ArrayList"
def TJx4a65c : u_T := fun k => match k with
  | 0 => ("java/util/AbstractList", "modCount", "I", false)
  | 1 => ("java/util/ArrayList", "elementData", "[Ljava/lang/Object;", false)
  | _ => ("java/util/ArrayList", "size", "I", false)
def tyJx4a65c : Nat → FieldType := fun k => match k with
  | 0 => .int
  | 1 => .array (.object "java/lang/Object")
  | _ => .int
abbrev wsJx4a65c0 : List Cond := u_ws RJx4a65c TJx4a65c 3
theorem nmJx4a65c : ∀ a, a < 3 → ∀ b, b < 3 → a ≠ b → (TJx4a65c a).2.1 ≠ (TJx4a65c b).2.1 := by decide +kernel
theorem tyJx4a65c_ok : ∀ k, k < 3 → parseFieldDescriptor (TJx4a65c k).2.2.1 = some (tyJx4a65c k) := by decide +kernel
abbrev cJx4a65c_init_da8c8 : ByteArray := prog_28_method_2_code
def yJx4a65c_init_da8c8 : MethodName := ⟨RJx4a65c, "<init>", "()V"⟩
abbrev cJx4a65c_grow_92f84 : ByteArray := prog_28_method_6_code
def yJx4a65c_grow_92f84 : MethodName := ⟨RJx4a65c, "grow", "(I)[Ljava/lang/Object;"⟩
abbrev cJx4a65c_grow_d5877 : ByteArray := prog_28_method_7_code
def yJx4a65c_grow_d5877 : MethodName := ⟨RJx4a65c, "grow", "()[Ljava/lang/Object;"⟩
abbrev cJx4a65c_size_8abf5 : ByteArray := prog_28_method_8_code
def yJx4a65c_size_8abf5 : MethodName := ⟨RJx4a65c, "size", "()I"⟩
abbrev cJx4a65c_elementData_915e3 : ByteArray := prog_28_method_18_code
def yJx4a65c_elementData_915e3 : MethodName := ⟨RJx4a65c, "elementData", "(I)Ljava/lang/Object;"⟩
abbrev cJx4a65c_get_915e3 : ByteArray := prog_28_method_20_code
def yJx4a65c_get_915e3 : MethodName := ⟨RJx4a65c, "get", "(I)Ljava/lang/Object;"⟩
abbrev cJx4a65c_add_72be8 : ByteArray := prog_28_method_24_code
def yJx4a65c_add_72be8 : MethodName := ⟨RJx4a65c, "add", "(Ljava/lang/Object;[Ljava/lang/Object;I)V"⟩
abbrev cJx4a65c_add_9ea2d : ByteArray := prog_28_method_25_code
def yJx4a65c_add_9ea2d : MethodName := ⟨RJx4a65c, "add", "(Ljava/lang/Object;)Z"⟩
abbrev cJx4a65c_remove_915e3 : ByteArray := prog_28_method_29_code
def yJx4a65c_remove_915e3 : MethodName := ⟨RJx4a65c, "remove", "(I)Ljava/lang/Object;"⟩
abbrev cJx4a65c_fastRemove_b59b0 : ByteArray := prog_28_method_39_code
def yJx4a65c_fastRemove_b59b0 : MethodName := ⟨RJx4a65c, "fastRemove", "([Ljava/lang/Object;I)V"⟩
def RJ7 : String := "java/util/Arrays"
def TJ7 : u_T := fun k => match k with
  | _ => ("", "", "", false)
def tyJ7 : Nat → FieldType := fun k => match k with
  | _ => .int
abbrev wsJ70 : List Cond := u_ws RJ7 TJ7 0
theorem nmJ7 : ∀ a, a < 0 → ∀ b, b < 0 → a ≠ b → (TJ7 a).2.1 ≠ (TJ7 b).2.1 := by decide +kernel
theorem tyJ7_ok : ∀ k, k < 0 → parseFieldDescriptor (TJ7 k).2.2.1 = some (tyJ7 k) := by decide +kernel
abbrev cJ7_copyOf_1904c : ByteArray := prog_29_method_119_code
def yJ7_copyOf_1904c : MethodName := ⟨RJ7, "copyOf", "([Ljava/lang/Object;I)[Ljava/lang/Object;"⟩
abbrev cJ7_copyOf_6403c : ByteArray := prog_29_method_120_code
def yJ7_copyOf_6403c : MethodName := ⟨RJ7, "copyOf", "([Ljava/lang/Object;ILjava/lang/Class;)[Ljava/lang/Object;"⟩
def RJx5ef63 : String := "java/util/Collection"
def TJx5ef63 : u_T := fun k => match k with
  | _ => ("", "", "", false)
def tyJx5ef63 : Nat → FieldType := fun k => match k with
  | _ => .int
abbrev wsJx5ef630 : List Cond := u_ws RJx5ef63 TJx5ef63 0
theorem nmJx5ef63 : ∀ a, a < 0 → ∀ b, b < 0 → a ≠ b → (TJx5ef63 a).2.1 ≠ (TJx5ef63 b).2.1 := by decide +kernel
theorem tyJx5ef63_ok : ∀ k, k < 0 → parseFieldDescriptor (TJx5ef63 k).2.2.1 = some (tyJx5ef63 k) := by decide +kernel
def RJxbd725 : String := "java/util/List"
def TJxbd725 : u_T := fun k => match k with
  | _ => ("", "", "", false)
def tyJxbd725 : Nat → FieldType := fun k => match k with
  | _ => .int
abbrev wsJxbd7250 : List Cond := u_ws RJxbd725 TJxbd725 0
theorem nmJxbd725 : ∀ a, a < 0 → ∀ b, b < 0 → a ≠ b → (TJxbd725 a).2.1 ≠ (TJxbd725 b).2.1 := by decide +kernel
theorem tyJxbd725_ok : ∀ k, k < 0 → parseFieldDescriptor (TJxbd725 k).2.2.1 = some (tyJxbd725 k) := by decide +kernel
def RJ15 : String := "java/util/Objects"
def TJ15 : u_T := fun k => match k with
  | _ => ("", "", "", false)
def tyJ15 : Nat → FieldType := fun k => match k with
  | _ => .int
abbrev wsJ150 : List Cond := u_ws RJ15 TJ15 0
theorem nmJ15 : ∀ a, a < 0 → ∀ b, b < 0 → a ≠ b → (TJ15 a).2.1 ≠ (TJ15 b).2.1 := by decide +kernel
theorem tyJ15_ok : ∀ k, k < 0 → parseFieldDescriptor (TJ15 k).2.2.1 = some (tyJ15 k) := by decide +kernel
abbrev cJ15_checkIndex_7cf53 : ByteArray := prog_32_method_17_code
def yJ15_checkIndex_7cf53 : MethodName := ⟨RJ15, "checkIndex", "(II)I"⟩
def RJxf0a74 : String := "java/util/RandomAccess"
def TJxf0a74 : u_T := fun k => match k with
  | _ => ("", "", "", false)
def tyJxf0a74 : Nat → FieldType := fun k => match k with
  | _ => .int
abbrev wsJxf0a740 : List Cond := u_ws RJxf0a74 TJxf0a74 0
theorem nmJxf0a74 : ∀ a, a < 0 → ∀ b, b < 0 → a ≠ b → (TJxf0a74 a).2.1 ≠ (TJxf0a74 b).2.1 := by decide +kernel
theorem tyJxf0a74_ok : ∀ k, k < 0 → parseFieldDescriptor (TJxf0a74 k).2.2.1 = some (tyJxf0a74 k) := by decide +kernel
def RJxa66e6 : String := "java/util/SequencedCollection"
def TJxa66e6 : u_T := fun k => match k with
  | _ => ("", "", "", false)
def tyJxa66e6 : Nat → FieldType := fun k => match k with
  | _ => .int
abbrev wsJxa66e60 : List Cond := u_ws RJxa66e6 TJxa66e6 0
theorem nmJxa66e6 : ∀ a, a < 0 → ∀ b, b < 0 → a ≠ b → (TJxa66e6 a).2.1 ≠ (TJxa66e6 b).2.1 := by decide +kernel
theorem tyJxa66e6_ok : ∀ k, k < 0 → parseFieldDescriptor (TJxa66e6 k).2.2.1 = some (tyJxa66e6 k) := by decide +kernel
def RJ8 : String := "jdk/internal/util/ArraysSupport"
def TJ8 : u_T := fun k => match k with
  | _ => ("", "", "", false)
def tyJ8 : Nat → FieldType := fun k => match k with
  | _ => .int
abbrev wsJ80 : List Cond := u_ws RJ8 TJ8 0
theorem nmJ8 : ∀ a, a < 0 → ∀ b, b < 0 → a ≠ b → (TJ8 a).2.1 ≠ (TJ8 b).2.1 := by decide +kernel
theorem tyJ8_ok : ∀ k, k < 0 → parseFieldDescriptor (TJ8 k).2.2.1 = some (tyJ8 k) := by decide +kernel
abbrev cJ8_newLength_cabcc : ByteArray := prog_35_method_27_code
def yJ8_newLength_cabcc : MethodName := ⟨RJ8, "newLength", "(III)I"⟩
abbrev cJ8_hugeLength_7cf53 : ByteArray := prog_35_method_28_code
def yJ8_hugeLength_7cf53 : MethodName := ⟨RJ8, "hugeLength", "(II)I"⟩
def RJ3 : String := "jdk/internal/util/Preconditions"
def TJ3 : u_T := fun k => match k with
  | _ => ("", "", "", false)
def tyJ3 : Nat → FieldType := fun k => match k with
  | _ => .int
abbrev wsJ30 : List Cond := u_ws RJ3 TJ3 0
theorem nmJ3 : ∀ a, a < 0 → ∀ b, b < 0 → a ≠ b → (TJ3 a).2.1 ≠ (TJ3 b).2.1 := by decide +kernel
theorem tyJ3_ok : ∀ k, k < 0 → parseFieldDescriptor (TJ3 k).2.2.1 = some (tyJ3 k) := by decide +kernel
abbrev cJ3_checkIndex_8e157 : ByteArray := prog_36_method_11_code
def yJ3_checkIndex_8e157 : MethodName := ⟨RJ3, "checkIndex", "(IILjava/util/function/BiFunction;)I"⟩
def RL : String := "CursorKeepLaw"
abbrev cL_cell : ByteArray := method_2_code
def yL_cell : MethodName := ⟨RL, "cell", "([II)I"⟩
abbrev cL_type : ByteArray := method_3_code
def yL_type : MethodName := ⟨RL, "type", "(LCursorKeep;III)I"⟩
abbrev cL_erase : ByteArray := method_4_code
def yL_erase : MethodName := ⟨RL, "erase", "(LCursorKeep;II)I"⟩
abbrev cL_moves : ByteArray := method_5_code
def yL_moves : MethodName := ⟨RL, "moves", "(LCursorKeep;III)I"⟩
abbrev cL_undo : ByteArray := method_6_code
def yL_undo : MethodName := ⟨RL, "undo", "(LCursorKeep;I)I"⟩
abbrev cL_redo : ByteArray := method_7_code
def yL_redo : MethodName := ⟨RL, "redo", "(LCursorKeep;I)I"⟩
abbrev cL_place : ByteArray := method_8_code
def yL_place : MethodName := ⟨RL, "place", "(LCursorKeep;II)I"⟩
abbrev cL_length : ByteArray := method_9_code
def yL_length : MethodName := ⟨RL, "length", "(LCursorKeep;I)I"⟩
abbrev cL_letter : ByteArray := method_10_code
def yL_letter : MethodName := ⟨RL, "letter", "(LCursorKeep;II)I"⟩
abbrev cL_anew : ByteArray := method_11_code
def yL_anew : MethodName := ⟨RL, "anew", "(LCursorKeep;II)I"⟩
abbrev cL_version : ByteArray := method_12_code
def yL_version : MethodName := ⟨RL, "version", "(LCursorKeep;I)I"⟩
abbrev cL_ask : ByteArray := method_13_code
def yL_ask : MethodName := ⟨RL, "ask", "(LCursorKeep;III)I"⟩
abbrev cL_come : ByteArray := method_14_code
def yL_come : MethodName := ⟨RL, "come", "(LCursorKeep;I)I"⟩
abbrev cL_drop : ByteArray := method_15_code
def yL_drop : MethodName := ⟨RL, "drop", "(LCursorKeep;I)I"⟩
abbrev cL_state : ByteArray := method_16_code
def yL_state : MethodName := ⟨RL, "state", "(LCursorKeep;I)I"⟩
abbrev cL_spared : ByteArray := method_17_code
def yL_spared : MethodName := ⟨RL, "spared", "(LCursorKeep;I)I"⟩
abbrev cL_lock : ByteArray := method_18_code
def yL_lock : MethodName := ⟨RL, "lock", "(LCursorKeep;II)I"⟩
abbrev cL_save : ByteArray := method_19_code
def yL_save : MethodName := ⟨RL, "save", "(LCursorKeep;III)I"⟩
abbrev cL_savedVersion : ByteArray := method_20_code
def yL_savedVersion : MethodName := ⟨RL, "savedVersion", "(LCursorKeep;I)I"⟩
abbrev cL_savedLength : ByteArray := method_21_code
def yL_savedLength : MethodName := ⟨RL, "savedLength", "(LCursorKeep;I)I"⟩
abbrev cL_savedLetter : ByteArray := method_22_code
def yL_savedLetter : MethodName := ⟨RL, "savedLetter", "(LCursorKeep;II)I"⟩
abbrev cL_looks : ByteArray := method_23_code
def yL_looks : MethodName := ⟨RL, "looks", "(LCursorKeep;I)J"⟩
abbrev cL_fits : ByteArray := method_24_code
def yL_fits : MethodName := ⟨RL, "fits", "(LCursorKeep;II)Z"⟩
abbrev cL_isClean : ByteArray := method_25_code
def yL_isClean : MethodName := ⟨RL, "isClean", "(LCursorKeep;III)Z"⟩
abbrev cL_law : ByteArray := code
def yL_law : MethodName := ⟨RL, "law", "([I)Z"⟩
set_option maxRecDepth 20000 in
theorem dX0_init_0 : decode cX0_init 0 = .ok (.aload_n 0, 1) := by decide +kernel
theorem dX0_init_1 : decode cX0_init 1 = .ok (.invokespecial 1, 3) := by decide +kernel
theorem dX0_init_4 : decode cX0_init 4 = .ok (.aload_n 0, 1) := by decide +kernel
theorem dX0_init_5 : decode cX0_init 5 = .ok (.aload_n 1, 1) := by decide +kernel
theorem dX0_init_6 : decode cX0_init 6 = .ok (.putfield 7, 3) := by decide +kernel
theorem dX0_init_9 : decode cX0_init 9 = .ok (.aload_n 0, 1) := by decide +kernel
theorem dX0_init_10 : decode cX0_init 10 = .ok (.iload_n 2, 1) := by decide +kernel
theorem dX0_init_11 : decode cX0_init 11 = .ok (.putfield 13, 3) := by decide +kernel
theorem dX0_init_14 : decode cX0_init 14 = .ok (.aload_n 0, 1) := by decide +kernel
theorem dX0_init_15 : decode cX0_init 15 = .ok (.iload_n 3, 1) := by decide +kernel
theorem dX0_init_16 : decode cX0_init 16 = .ok (.putfield 17, 3) := by decide +kernel
theorem dX0_init_19 : decode cX0_init 19 = .ok (.return_, 1) := by decide +kernel
theorem dX1_init_0 : decode cX1_init 0 = .ok (.aload_n 0, 1) := by decide +kernel
theorem dX1_init_1 : decode cX1_init 1 = .ok (.invokespecial 3, 3) := by decide +kernel
theorem dX1_init_4 : decode cX1_init 4 = .ok (.aload_n 0, 1) := by decide +kernel
theorem dX1_init_5 : decode cX1_init 5 = .ok (.iload_n 1, 1) := by decide +kernel
theorem dX1_init_6 : decode cX1_init 6 = .ok (.putfield 9, 3) := by decide +kernel
theorem dX1_init_9 : decode cX1_init 9 = .ok (.aload_n 0, 1) := by decide +kernel
theorem dX1_init_10 : decode cX1_init 10 = .ok (.iload_n 2, 1) := by decide +kernel
theorem dX1_init_11 : decode cX1_init 11 = .ok (.putfield 15, 3) := by decide +kernel
theorem dX1_init_14 : decode cX1_init 14 = .ok (.aload_n 0, 1) := by decide +kernel
theorem dX1_init_15 : decode cX1_init 15 = .ok (.iload_n 3, 1) := by decide +kernel
theorem dX1_init_16 : decode cX1_init 16 = .ok (.putfield 19, 3) := by decide +kernel
theorem dX1_init_19 : decode cX1_init 19 = .ok (.aload_n 0, 1) := by decide +kernel
theorem dX1_init_20 : decode cX1_init 20 = .ok (.iload 4, 2) := by decide +kernel
theorem dX1_init_22 : decode cX1_init 22 = .ok (.putfield 22, 3) := by decide +kernel
theorem dX1_init_25 : decode cX1_init 25 = .ok (.aload_n 0, 1) := by decide +kernel
theorem dX1_init_26 : decode cX1_init 26 = .ok (.iload 5, 2) := by decide +kernel
theorem dX1_init_28 : decode cX1_init 28 = .ok (.putfield 25, 3) := by decide +kernel
theorem dX1_init_31 : decode cX1_init 31 = .ok (.return_, 1) := by decide +kernel
theorem dX1_goes_0 : decode cX1_goes 0 = .ok (.aload_n 0, 1) := by decide +kernel
theorem dX1_goes_1 : decode cX1_goes 1 = .ok (.getfield 19, 3) := by decide +kernel
theorem dX1_goes_4 : decode cX1_goes 4 = .ok (.iconst 1, 1) := by decide +kernel
theorem dX1_goes_5 : decode cX1_goes 5 = .ok (.if_icmp .ne 7, 3) := by decide +kernel
theorem dX1_goes_8 : decode cX1_goes 8 = .ok (.iconst 1, 1) := by decide +kernel
theorem dX1_goes_9 : decode cX1_goes 9 = .ok (.goto 4, 3) := by decide +kernel
theorem dX1_goes_12 : decode cX1_goes 12 = .ok (.iconst 0, 1) := by decide +kernel
theorem dX1_goes_13 : decode cX1_goes 13 = .ok (.ireturn, 1) := by decide +kernel
theorem dX2_init_0 : decode cX2_init 0 = .ok (.aload_n 0, 1) := by decide +kernel
theorem dX2_init_1 : decode cX2_init 1 = .ok (.invokespecial 1, 3) := by decide +kernel
theorem dX2_init_4 : decode cX2_init 4 = .ok (.aload_n 0, 1) := by decide +kernel
theorem dX2_init_5 : decode cX2_init 5 = .ok (.iload_n 1, 1) := by decide +kernel
theorem dX2_init_6 : decode cX2_init 6 = .ok (.putfield 7, 3) := by decide +kernel
theorem dX2_init_9 : decode cX2_init 9 = .ok (.aload_n 0, 1) := by decide +kernel
theorem dX2_init_10 : decode cX2_init 10 = .ok (.iload_n 2, 1) := by decide +kernel
theorem dX2_init_11 : decode cX2_init 11 = .ok (.putfield 13, 3) := by decide +kernel
theorem dX2_init_14 : decode cX2_init 14 = .ok (.aload_n 0, 1) := by decide +kernel
theorem dX2_init_15 : decode cX2_init 15 = .ok (.iload_n 3, 1) := by decide +kernel
theorem dX2_init_16 : decode cX2_init 16 = .ok (.putfield 16, 3) := by decide +kernel
theorem dX2_init_19 : decode cX2_init 19 = .ok (.return_, 1) := by decide +kernel
theorem dX2_doTo_0 : decode cX2_doTo 0 = .ok (.aload_n 0, 1) := by decide +kernel
theorem dX2_doTo_1 : decode cX2_doTo 1 = .ok (.getfield 7, 3) := by decide +kernel
theorem dX2_doTo_4 : decode cX2_doTo 4 = .ok (.tableswitch 67 0 2 #[28, 43, 55], 28) := by decide +kernel
theorem dX2_doTo_32 : decode cX2_doTo 32 = .ok (.aload_n 1, 1) := by decide +kernel
theorem dX2_doTo_33 : decode cX2_doTo 33 = .ok (.aload_n 0, 1) := by decide +kernel
theorem dX2_doTo_34 : decode cX2_doTo 34 = .ok (.getfield 13, 3) := by decide +kernel
theorem dX2_doTo_37 : decode cX2_doTo 37 = .ok (.aload_n 0, 1) := by decide +kernel
theorem dX2_doTo_38 : decode cX2_doTo 38 = .ok (.getfield 16, 3) := by decide +kernel
theorem dX2_doTo_41 : decode cX2_doTo 41 = .ok (.invokevirtual 20, 3) := by decide +kernel
theorem dX2_doTo_44 : decode cX2_doTo 44 = .ok (.goto 39, 3) := by decide +kernel
theorem dX2_doTo_47 : decode cX2_doTo 47 = .ok (.aload_n 1, 1) := by decide +kernel
theorem dX2_doTo_48 : decode cX2_doTo 48 = .ok (.aload_n 0, 1) := by decide +kernel
theorem dX2_doTo_49 : decode cX2_doTo 49 = .ok (.getfield 13, 3) := by decide +kernel
theorem dX2_doTo_52 : decode cX2_doTo 52 = .ok (.iconst 0, 1) := by decide +kernel
theorem dX2_doTo_53 : decode cX2_doTo 53 = .ok (.invokevirtual 26, 3) := by decide +kernel
theorem dX2_doTo_56 : decode cX2_doTo 56 = .ok (.goto 27, 3) := by decide +kernel
theorem dX2_doTo_59 : decode cX2_doTo 59 = .ok (.aload_n 1, 1) := by decide +kernel
theorem dX2_doTo_60 : decode cX2_doTo 60 = .ok (.aload_n 0, 1) := by decide +kernel
theorem dX2_doTo_61 : decode cX2_doTo 61 = .ok (.getfield 13, 3) := by decide +kernel
theorem dX2_doTo_64 : decode cX2_doTo 64 = .ok (.iconst 1, 1) := by decide +kernel
theorem dX2_doTo_65 : decode cX2_doTo 65 = .ok (.invokevirtual 26, 3) := by decide +kernel
theorem dX2_doTo_68 : decode cX2_doTo 68 = .ok (.goto 15, 3) := by decide +kernel
theorem dX2_doTo_71 : decode cX2_doTo 71 = .ok (.aload_n 1, 1) := by decide +kernel
theorem dX2_doTo_72 : decode cX2_doTo 72 = .ok (.aload_n 0, 1) := by decide +kernel
theorem dX2_doTo_73 : decode cX2_doTo 73 = .ok (.getfield 13, 3) := by decide +kernel
theorem dX2_doTo_76 : decode cX2_doTo 76 = .ok (.aload_n 0, 1) := by decide +kernel
theorem dX2_doTo_77 : decode cX2_doTo 77 = .ok (.getfield 16, 3) := by decide +kernel
theorem dX2_doTo_80 : decode cX2_doTo 80 = .ok (.invokevirtual 30, 3) := by decide +kernel
theorem dX2_doTo_83 : decode cX2_doTo 83 = .ok (.return_, 1) := by decide +kernel
theorem dX3_init_0 : decode cX3_init 0 = .ok (.aload_n 0, 1) := by decide +kernel
theorem dX3_init_1 : decode cX3_init 1 = .ok (.invokespecial 3, 3) := by decide +kernel
theorem dX3_init_4 : decode cX3_init 4 = .ok (.aload_n 0, 1) := by decide +kernel
theorem dX3_init_5 : decode cX3_init 5 = .ok (.iconst 0, 1) := by decide +kernel
theorem dX3_init_6 : decode cX3_init 6 = .ok (.putfield 9, 3) := by decide +kernel
theorem dX3_init_9 : decode cX3_init 9 = .ok (.aload_n 0, 1) := by decide +kernel
theorem dX3_init_10 : decode cX3_init 10 = .ok (.aload_n 1, 1) := by decide +kernel
theorem dX3_init_11 : decode cX3_init 11 = .ok (.putfield 15, 3) := by decide +kernel
theorem dX3_init_14 : decode cX3_init 14 = .ok (.aload_n 0, 1) := by decide +kernel
theorem dX3_init_15 : decode cX3_init 15 = .ok (.aload_n 2, 1) := by decide +kernel
theorem dX3_init_16 : decode cX3_init 16 = .ok (.putfield 19, 3) := by decide +kernel
theorem dX3_init_19 : decode cX3_init 19 = .ok (.return_, 1) := by decide +kernel
theorem dX3_end_0 : decode cX3_end 0 = .ok (.aload_n 0, 1) := by decide +kernel
theorem dX3_end_1 : decode cX3_end 1 = .ok (.iload_n 1, 1) := by decide +kernel
theorem dX3_end_2 : decode cX3_end 2 = .ok (.putfield 9, 3) := by decide +kernel
theorem dX3_end_5 : decode cX3_end 5 = .ok (.aload_n 0, 1) := by decide +kernel
theorem dX3_end_6 : decode cX3_end 6 = .ok (.iload_n 2, 1) := by decide +kernel
theorem dX3_end_7 : decode cX3_end 7 = .ok (.putfield 23, 3) := by decide +kernel
theorem dX3_end_10 : decode cX3_end 10 = .ok (.return_, 1) := by decide +kernel
theorem dX3_judge_0 : decode cX3_judge 0 = .ok (.aload_n 1, 1) := by decide +kernel
theorem dX3_judge_1 : decode cX3_judge 1 = .ok (.invokevirtual 26, 3) := by decide +kernel
theorem dX3_judge_4 : decode cX3_judge 4 = .ok (.iconst 0, 1) := by decide +kernel
theorem dX3_judge_5 : decode cX3_judge 5 = .ok (.istore_n 2, 1) := by decide +kernel
theorem dX3_judge_6 : decode cX3_judge 6 = .ok (.iload_n 2, 1) := by decide +kernel
theorem dX3_judge_7 : decode cX3_judge 7 = .ok (.aload_n 0, 1) := by decide +kernel
theorem dX3_judge_8 : decode cX3_judge 8 = .ok (.getfield 19, 3) := by decide +kernel
theorem dX3_judge_11 : decode cX3_judge 11 = .ok (.invokeinterface 31 1, 5) := by decide +kernel
theorem dX3_judge_16 : decode cX3_judge 16 = .ok (.if_icmp .ge 48, 3) := by decide +kernel
theorem dX3_judge_19 : decode cX3_judge 19 = .ok (.aload_n 0, 1) := by decide +kernel
theorem dX3_judge_20 : decode cX3_judge 20 = .ok (.getfield 19, 3) := by decide +kernel
theorem dX3_judge_23 : decode cX3_judge 23 = .ok (.iload_n 2, 1) := by decide +kernel
theorem dX3_judge_24 : decode cX3_judge 24 = .ok (.invokeinterface 37 2, 5) := by decide +kernel
theorem dX3_judge_29 : decode cX3_judge 29 = .ok (.checkcast 41, 3) := by decide +kernel
theorem dX3_judge_32 : decode cX3_judge 32 = .ok (.invokevirtual 43, 3) := by decide +kernel
theorem dX3_judge_35 : decode cX3_judge 35 = .ok (.ifCond .eq 23, 3) := by decide +kernel
theorem dX3_judge_38 : decode cX3_judge 38 = .ok (.aload_n 1, 1) := by decide +kernel
theorem dX3_judge_39 : decode cX3_judge 39 = .ok (.aload_n 0, 1) := by decide +kernel
theorem dX3_judge_40 : decode cX3_judge 40 = .ok (.getfield 19, 3) := by decide +kernel
theorem dX3_judge_43 : decode cX3_judge 43 = .ok (.iload_n 2, 1) := by decide +kernel
theorem dX3_judge_44 : decode cX3_judge 44 = .ok (.invokeinterface 37 2, 5) := by decide +kernel
theorem dX3_judge_49 : decode cX3_judge 49 = .ok (.checkcast 41, 3) := by decide +kernel
theorem dX3_judge_52 : decode cX3_judge 52 = .ok (.getfield 47, 3) := by decide +kernel
theorem dX3_judge_55 : decode cX3_judge 55 = .ok (.invokevirtual 50, 3) := by decide +kernel
theorem dX3_judge_58 : decode cX3_judge 58 = .ok (.iinc 2 1, 3) := by decide +kernel
theorem dX3_judge_61 : decode cX3_judge 61 = .ok (.goto (-55), 3) := by decide +kernel
theorem dX3_judge_64 : decode cX3_judge 64 = .ok (.aload_n 1, 1) := by decide +kernel
theorem dX3_judge_65 : decode cX3_judge 65 = .ok (.aload_n 0, 1) := by decide +kernel
theorem dX3_judge_66 : decode cX3_judge 66 = .ok (.getfield 15, 3) := by decide +kernel
theorem dX3_judge_69 : decode cX3_judge 69 = .ok (.getfield 54, 3) := by decide +kernel
theorem dX3_judge_72 : decode cX3_judge 72 = .ok (.invokevirtual 60, 3) := by decide +kernel
theorem dX3_judge_75 : decode cX3_judge 75 = .ok (.iconst 0, 1) := by decide +kernel
theorem dX3_judge_76 : decode cX3_judge 76 = .ok (.istore_n 2, 1) := by decide +kernel
theorem dX3_judge_77 : decode cX3_judge 77 = .ok (.iconst 0, 1) := by decide +kernel
theorem dX3_judge_78 : decode cX3_judge 78 = .ok (.istore_n 3, 1) := by decide +kernel
theorem dX3_judge_79 : decode cX3_judge 79 = .ok (.iload_n 3, 1) := by decide +kernel
theorem dX3_judge_80 : decode cX3_judge 80 = .ok (.aload_n 0, 1) := by decide +kernel
theorem dX3_judge_81 : decode cX3_judge 81 = .ok (.getfield 19, 3) := by decide +kernel
theorem dX3_judge_84 : decode cX3_judge 84 = .ok (.invokeinterface 31 1, 5) := by decide +kernel
theorem dX3_judge_89 : decode cX3_judge 89 = .ok (.if_icmp .ge 47, 3) := by decide +kernel
theorem dX3_judge_92 : decode cX3_judge 92 = .ok (.aload_n 0, 1) := by decide +kernel
theorem dX3_judge_93 : decode cX3_judge 93 = .ok (.getfield 19, 3) := by decide +kernel
theorem dX3_judge_96 : decode cX3_judge 96 = .ok (.iload_n 3, 1) := by decide +kernel
theorem dX3_judge_97 : decode cX3_judge 97 = .ok (.invokeinterface 37 2, 5) := by decide +kernel
theorem dX3_judge_102 : decode cX3_judge 102 = .ok (.checkcast 41, 3) := by decide +kernel
theorem dX3_judge_105 : decode cX3_judge 105 = .ok (.astore 4, 2) := by decide +kernel
theorem dX3_judge_107 : decode cX3_judge 107 = .ok (.aload 4, 2) := by decide +kernel
theorem dX3_judge_109 : decode cX3_judge 109 = .ok (.aload_n 0, 1) := by decide +kernel
theorem dX3_judge_110 : decode cX3_judge 110 = .ok (.aload 4, 2) := by decide +kernel
theorem dX3_judge_112 : decode cX3_judge 112 = .ok (.aload_n 1, 1) := by decide +kernel
theorem dX3_judge_113 : decode cX3_judge 113 = .ok (.invokevirtual 64, 3) := by decide +kernel
theorem dX3_judge_116 : decode cX3_judge 116 = .ok (.putfield 68, 3) := by decide +kernel
theorem dX3_judge_119 : decode cX3_judge 119 = .ok (.aload 4, 2) := by decide +kernel
theorem dX3_judge_121 : decode cX3_judge 121 = .ok (.getfield 68, 3) := by decide +kernel
theorem dX3_judge_124 : decode cX3_judge 124 = .ok (.ifCond .eq 6, 3) := by decide +kernel
theorem dX3_judge_127 : decode cX3_judge 127 = .ok (.iinc 2 1, 3) := by decide +kernel
theorem dX3_judge_130 : decode cX3_judge 130 = .ok (.iinc 3 1, 3) := by decide +kernel
theorem dX3_judge_133 : decode cX3_judge 133 = .ok (.goto (-54), 3) := by decide +kernel
theorem dX3_judge_136 : decode cX3_judge 136 = .ok (.iload_n 2, 1) := by decide +kernel
theorem dX3_judge_137 : decode cX3_judge 137 = .ok (.ireturn, 1) := by decide +kernel
theorem dX3_doChanges_0 : decode cX3_doChanges 0 = .ok (.iconst 0, 1) := by decide +kernel
theorem dX3_doChanges_1 : decode cX3_doChanges 1 = .ok (.istore_n 1, 1) := by decide +kernel
theorem dX3_doChanges_2 : decode cX3_doChanges 2 = .ok (.iconst 0, 1) := by decide +kernel
theorem dX3_doChanges_3 : decode cX3_doChanges 3 = .ok (.istore_n 2, 1) := by decide +kernel
theorem dX3_doChanges_4 : decode cX3_doChanges 4 = .ok (.iload_n 2, 1) := by decide +kernel
theorem dX3_doChanges_5 : decode cX3_doChanges 5 = .ok (.aload_n 0, 1) := by decide +kernel
theorem dX3_doChanges_6 : decode cX3_doChanges 6 = .ok (.getfield 19, 3) := by decide +kernel
theorem dX3_doChanges_9 : decode cX3_doChanges 9 = .ok (.invokeinterface 31 1, 5) := by decide +kernel
theorem dX3_doChanges_14 : decode cX3_doChanges 14 = .ok (.if_icmp .ge 71, 3) := by decide +kernel
theorem dX3_doChanges_17 : decode cX3_doChanges 17 = .ok (.aload_n 0, 1) := by decide +kernel
theorem dX3_doChanges_18 : decode cX3_doChanges 18 = .ok (.getfield 19, 3) := by decide +kernel
theorem dX3_doChanges_21 : decode cX3_doChanges 21 = .ok (.iload_n 2, 1) := by decide +kernel
theorem dX3_doChanges_22 : decode cX3_doChanges 22 = .ok (.invokeinterface 37 2, 5) := by decide +kernel
theorem dX3_doChanges_27 : decode cX3_doChanges 27 = .ok (.checkcast 41, 3) := by decide +kernel
theorem dX3_doChanges_30 : decode cX3_doChanges 30 = .ok (.astore_n 3, 1) := by decide +kernel
theorem dX3_doChanges_31 : decode cX3_doChanges 31 = .ok (.aload_n 3, 1) := by decide +kernel
theorem dX3_doChanges_32 : decode cX3_doChanges 32 = .ok (.getfield 68, 3) := by decide +kernel
theorem dX3_doChanges_35 : decode cX3_doChanges 35 = .ok (.ifCond .eq 6, 3) := by decide +kernel
theorem dX3_doChanges_38 : decode cX3_doChanges 38 = .ok (.goto 41, 3) := by decide +kernel
theorem dX3_doChanges_41 : decode cX3_doChanges 41 = .ok (.iconst 1, 1) := by decide +kernel
theorem dX3_doChanges_42 : decode cX3_doChanges 42 = .ok (.istore_n 1, 1) := by decide +kernel
theorem dX3_doChanges_43 : decode cX3_doChanges 43 = .ok (.aload_n 3, 1) := by decide +kernel
theorem dX3_doChanges_44 : decode cX3_doChanges 44 = .ok (.invokevirtual 43, 3) := by decide +kernel
theorem dX3_doChanges_47 : decode cX3_doChanges 47 = .ok (.ifCond .eq 17, 3) := by decide +kernel
theorem dX3_doChanges_50 : decode cX3_doChanges 50 = .ok (.aload_n 0, 1) := by decide +kernel
theorem dX3_doChanges_51 : decode cX3_doChanges 51 = .ok (.getfield 15, 3) := by decide +kernel
theorem dX3_doChanges_54 : decode cX3_doChanges 54 = .ok (.aload_n 3, 1) := by decide +kernel
theorem dX3_doChanges_55 : decode cX3_doChanges 55 = .ok (.getfield 47, 3) := by decide +kernel
theorem dX3_doChanges_58 : decode cX3_doChanges 58 = .ok (.invokevirtual 72, 3) := by decide +kernel
theorem dX3_doChanges_61 : decode cX3_doChanges 61 = .ok (.goto 18, 3) := by decide +kernel
theorem dX3_doChanges_64 : decode cX3_doChanges 64 = .ok (.aload_n 0, 1) := by decide +kernel
theorem dX3_doChanges_65 : decode cX3_doChanges 65 = .ok (.getfield 15, 3) := by decide +kernel
theorem dX3_doChanges_68 : decode cX3_doChanges 68 = .ok (.aload_n 3, 1) := by decide +kernel
theorem dX3_doChanges_69 : decode cX3_doChanges 69 = .ok (.getfield 47, 3) := by decide +kernel
theorem dX3_doChanges_72 : decode cX3_doChanges 72 = .ok (.aload_n 3, 1) := by decide +kernel
theorem dX3_doChanges_73 : decode cX3_doChanges 73 = .ok (.getfield 75, 3) := by decide +kernel
theorem dX3_doChanges_76 : decode cX3_doChanges 76 = .ok (.invokevirtual 79, 3) := by decide +kernel
theorem dX3_doChanges_79 : decode cX3_doChanges 79 = .ok (.iinc 2 1, 3) := by decide +kernel
theorem dX3_doChanges_82 : decode cX3_doChanges 82 = .ok (.goto (-78), 3) := by decide +kernel
theorem dX3_doChanges_85 : decode cX3_doChanges 85 = .ok (.iload_n 1, 1) := by decide +kernel
theorem dX3_doChanges_86 : decode cX3_doChanges 86 = .ok (.ifCond .eq 16, 3) := by decide +kernel
theorem dX3_doChanges_89 : decode cX3_doChanges 89 = .ok (.aload_n 0, 1) := by decide +kernel
theorem dX3_doChanges_90 : decode cX3_doChanges 90 = .ok (.getfield 15, 3) := by decide +kernel
theorem dX3_doChanges_93 : decode cX3_doChanges 93 = .ok (.dup, 1) := by decide +kernel
theorem dX3_doChanges_94 : decode cX3_doChanges 94 = .ok (.getfield 83, 3) := by decide +kernel
theorem dX3_doChanges_97 : decode cX3_doChanges 97 = .ok (.iconst 1, 1) := by decide +kernel
theorem dX3_doChanges_98 : decode cX3_doChanges 98 = .ok (.iadd, 1) := by decide +kernel
theorem dX3_doChanges_99 : decode cX3_doChanges 99 = .ok (.putfield 83, 3) := by decide +kernel
theorem dX3_doChanges_102 : decode cX3_doChanges 102 = .ok (.return_, 1) := by decide +kernel
theorem dX3_spares_0 : decode cX3_spares 0 = .ok (.aload_n 1, 1) := by decide +kernel
theorem dX3_spares_1 : decode cX3_spares 1 = .ok (.getfield 47, 3) := by decide +kernel
theorem dX3_spares_4 : decode cX3_spares 4 = .ok (.istore_n 3, 1) := by decide +kernel
theorem dX3_spares_5 : decode cX3_spares 5 = .ok (.aload_n 0, 1) := by decide +kernel
theorem dX3_spares_6 : decode cX3_spares 6 = .ok (.getfield 15, 3) := by decide +kernel
theorem dX3_spares_9 : decode cX3_spares 9 = .ok (.getfield 54, 3) := by decide +kernel
theorem dX3_spares_12 : decode cX3_spares 12 = .ok (.iload_n 3, 1) := by decide +kernel
theorem dX3_spares_13 : decode cX3_spares 13 = .ok (.invokevirtual 86, 3) := by decide +kernel
theorem dX3_spares_16 : decode cX3_spares 16 = .ok (.ifCond .eq 63, 3) := by decide +kernel
theorem dX3_spares_19 : decode cX3_spares 19 = .ok (.aload_n 0, 1) := by decide +kernel
theorem dX3_spares_20 : decode cX3_spares 20 = .ok (.getfield 15, 3) := by decide +kernel
theorem dX3_spares_23 : decode cX3_spares 23 = .ok (.getfield 54, 3) := by decide +kernel
theorem dX3_spares_26 : decode cX3_spares 26 = .ok (.iload_n 3, 1) := by decide +kernel
theorem dX3_spares_27 : decode cX3_spares 27 = .ok (.invokevirtual 92, 3) := by decide +kernel
theorem dX3_spares_30 : decode cX3_spares 30 = .ok (.aload_n 1, 1) := by decide +kernel
theorem dX3_spares_31 : decode cX3_spares 31 = .ok (.getfield 96, 3) := by decide +kernel
theorem dX3_spares_34 : decode cX3_spares 34 = .ok (.if_icmp .ne 45, 3) := by decide +kernel
theorem dX3_spares_37 : decode cX3_spares 37 = .ok (.aload_n 1, 1) := by decide +kernel
theorem dX3_spares_38 : decode cX3_spares 38 = .ok (.invokevirtual 43, 3) := by decide +kernel
theorem dX3_spares_41 : decode cX3_spares 41 = .ok (.ifCond .eq 14, 3) := by decide +kernel
theorem dX3_spares_44 : decode cX3_spares 44 = .ok (.aload_n 0, 1) := by decide +kernel
theorem dX3_spares_45 : decode cX3_spares 45 = .ok (.getfield 15, 3) := by decide +kernel
theorem dX3_spares_48 : decode cX3_spares 48 = .ok (.iload_n 3, 1) := by decide +kernel
theorem dX3_spares_49 : decode cX3_spares 49 = .ok (.invokevirtual 99, 3) := by decide +kernel
theorem dX3_spares_52 : decode cX3_spares 52 = .ok (.ifCond .ne 27, 3) := by decide +kernel
theorem dX3_spares_55 : decode cX3_spares 55 = .ok (.aload_n 2, 1) := by decide +kernel
theorem dX3_spares_56 : decode cX3_spares 56 = .ok (.iload_n 3, 1) := by decide +kernel
theorem dX3_spares_57 : decode cX3_spares 57 = .ok (.invokevirtual 102, 3) := by decide +kernel
theorem dX3_spares_60 : decode cX3_spares 60 = .ok (.aload_n 1, 1) := by decide +kernel
theorem dX3_spares_61 : decode cX3_spares 61 = .ok (.getfield 106, 3) := by decide +kernel
theorem dX3_spares_64 : decode cX3_spares 64 = .ok (.if_icmp .ne 15, 3) := by decide +kernel
theorem dX3_spares_67 : decode cX3_spares 67 = .ok (.aload_n 2, 1) := by decide +kernel
theorem dX3_spares_68 : decode cX3_spares 68 = .ok (.iload_n 3, 1) := by decide +kernel
theorem dX3_spares_69 : decode cX3_spares 69 = .ok (.invokevirtual 109, 3) := by decide +kernel
theorem dX3_spares_72 : decode cX3_spares 72 = .ok (.aload_n 1, 1) := by decide +kernel
theorem dX3_spares_73 : decode cX3_spares 73 = .ok (.getfield 112, 3) := by decide +kernel
theorem dX3_spares_76 : decode cX3_spares 76 = .ok (.if_icmp .eq 7, 3) := by decide +kernel
theorem dX3_spares_79 : decode cX3_spares 79 = .ok (.iconst 1, 1) := by decide +kernel
theorem dX3_spares_80 : decode cX3_spares 80 = .ok (.goto 4, 3) := by decide +kernel
theorem dX3_spares_83 : decode cX3_spares 83 = .ok (.iconst 0, 1) := by decide +kernel
theorem dX3_spares_84 : decode cX3_spares 84 = .ok (.ireturn, 1) := by decide +kernel
theorem dX4_init_0 : decode cX4_init 0 = .ok (.aload_n 0, 1) := by decide +kernel
theorem dX4_init_1 : decode cX4_init 1 = .ok (.invokespecial 3, 3) := by decide +kernel
theorem dX4_init_4 : decode cX4_init 4 = .ok (.aload_n 0, 1) := by decide +kernel
theorem dX4_init_5 : decode cX4_init 5 = .ok (.new 9, 3) := by decide +kernel
theorem dX4_init_8 : decode cX4_init 8 = .ok (.dup, 1) := by decide +kernel
theorem dX4_init_9 : decode cX4_init 9 = .ok (.invokespecial 11, 3) := by decide +kernel
theorem dX4_init_12 : decode cX4_init 12 = .ok (.putfield 12, 3) := by decide +kernel
theorem dX4_init_15 : decode cX4_init 15 = .ok (.return_, 1) := by decide +kernel
theorem dX4_remember_0 : decode cX4_remember 0 = .ok (.aload_n 0, 1) := by decide +kernel
theorem dX4_remember_1 : decode cX4_remember 1 = .ok (.getfield 12, 3) := by decide +kernel
theorem dX4_remember_4 : decode cX4_remember 4 = .ok (.invokeinterface 18 1, 5) := by decide +kernel
theorem dX4_remember_9 : decode cX4_remember 9 = .ok (.iconst 1, 1) := by decide +kernel
theorem dX4_remember_10 : decode cX4_remember 10 = .ok (.isub, 1) := by decide +kernel
theorem dX4_remember_11 : decode cX4_remember 11 = .ok (.istore_n 2, 1) := by decide +kernel
theorem dX4_remember_12 : decode cX4_remember 12 = .ok (.iload_n 2, 1) := by decide +kernel
theorem dX4_remember_13 : decode cX4_remember 13 = .ok (.aload_n 0, 1) := by decide +kernel
theorem dX4_remember_14 : decode cX4_remember 14 = .ok (.getfield 24, 3) := by decide +kernel
theorem dX4_remember_17 : decode cX4_remember 17 = .ok (.if_icmp .lt 20, 3) := by decide +kernel
theorem dX4_remember_20 : decode cX4_remember 20 = .ok (.aload_n 0, 1) := by decide +kernel
theorem dX4_remember_21 : decode cX4_remember 21 = .ok (.getfield 12, 3) := by decide +kernel
theorem dX4_remember_24 : decode cX4_remember 24 = .ok (.iload_n 2, 1) := by decide +kernel
theorem dX4_remember_25 : decode cX4_remember 25 = .ok (.invokeinterface 28 2, 5) := by decide +kernel
theorem dX4_remember_30 : decode cX4_remember 30 = .ok (.pop, 1) := by decide +kernel
theorem dX4_remember_31 : decode cX4_remember 31 = .ok (.iinc 2 (-1), 3) := by decide +kernel
theorem dX4_remember_34 : decode cX4_remember 34 = .ok (.goto (-22), 3) := by decide +kernel
theorem dX4_remember_37 : decode cX4_remember 37 = .ok (.aload_n 0, 1) := by decide +kernel
theorem dX4_remember_38 : decode cX4_remember 38 = .ok (.getfield 12, 3) := by decide +kernel
theorem dX4_remember_41 : decode cX4_remember 41 = .ok (.invokeinterface 18 1, 5) := by decide +kernel
theorem dX4_remember_46 : decode cX4_remember 46 = .ok (.sipush 512, 3) := by decide +kernel
theorem dX4_remember_49 : decode cX4_remember 49 = .ok (.if_icmp .ge 14, 3) := by decide +kernel
theorem dX4_remember_52 : decode cX4_remember 52 = .ok (.aload_n 0, 1) := by decide +kernel
theorem dX4_remember_53 : decode cX4_remember 53 = .ok (.getfield 12, 3) := by decide +kernel
theorem dX4_remember_56 : decode cX4_remember 56 = .ok (.aload_n 1, 1) := by decide +kernel
theorem dX4_remember_57 : decode cX4_remember 57 = .ok (.invokeinterface 32 2, 5) := by decide +kernel
theorem dX4_remember_62 : decode cX4_remember 62 = .ok (.pop, 1) := by decide +kernel
theorem dX4_remember_63 : decode cX4_remember 63 = .ok (.aload_n 0, 1) := by decide +kernel
theorem dX4_remember_64 : decode cX4_remember 64 = .ok (.aload_n 0, 1) := by decide +kernel
theorem dX4_remember_65 : decode cX4_remember 65 = .ok (.getfield 12, 3) := by decide +kernel
theorem dX4_remember_68 : decode cX4_remember 68 = .ok (.invokeinterface 18 1, 5) := by decide +kernel
theorem dX4_remember_73 : decode cX4_remember 73 = .ok (.putfield 24, 3) := by decide +kernel
theorem dX4_remember_76 : decode cX4_remember 76 = .ok (.return_, 1) := by decide +kernel
theorem dX4_stepBack_0 : decode cX4_stepBack 0 = .ok (.aload_n 0, 1) := by decide +kernel
theorem dX4_stepBack_1 : decode cX4_stepBack 1 = .ok (.getfield 24, 3) := by decide +kernel
theorem dX4_stepBack_4 : decode cX4_stepBack 4 = .ok (.ifCond .le 19, 3) := by decide +kernel
theorem dX4_stepBack_7 : decode cX4_stepBack 7 = .ok (.aload_n 0, 1) := by decide +kernel
theorem dX4_stepBack_8 : decode cX4_stepBack 8 = .ok (.getfield 24, 3) := by decide +kernel
theorem dX4_stepBack_11 : decode cX4_stepBack 11 = .ok (.aload_n 0, 1) := by decide +kernel
theorem dX4_stepBack_12 : decode cX4_stepBack 12 = .ok (.getfield 12, 3) := by decide +kernel
theorem dX4_stepBack_15 : decode cX4_stepBack 15 = .ok (.invokeinterface 18 1, 5) := by decide +kernel
theorem dX4_stepBack_20 : decode cX4_stepBack 20 = .ok (.if_icmp .le 5, 3) := by decide +kernel
theorem dX4_stepBack_23 : decode cX4_stepBack 23 = .ok (.aconst_null, 1) := by decide +kernel
theorem dX4_stepBack_24 : decode cX4_stepBack 24 = .ok (.areturn, 1) := by decide +kernel
theorem dX4_stepBack_25 : decode cX4_stepBack 25 = .ok (.aload_n 0, 1) := by decide +kernel
theorem dX4_stepBack_26 : decode cX4_stepBack 26 = .ok (.dup, 1) := by decide +kernel
theorem dX4_stepBack_27 : decode cX4_stepBack 27 = .ok (.getfield 24, 3) := by decide +kernel
theorem dX4_stepBack_30 : decode cX4_stepBack 30 = .ok (.iconst 1, 1) := by decide +kernel
theorem dX4_stepBack_31 : decode cX4_stepBack 31 = .ok (.isub, 1) := by decide +kernel
theorem dX4_stepBack_32 : decode cX4_stepBack 32 = .ok (.putfield 24, 3) := by decide +kernel
theorem dX4_stepBack_35 : decode cX4_stepBack 35 = .ok (.aload_n 0, 1) := by decide +kernel
theorem dX4_stepBack_36 : decode cX4_stepBack 36 = .ok (.getfield 12, 3) := by decide +kernel
theorem dX4_stepBack_39 : decode cX4_stepBack 39 = .ok (.aload_n 0, 1) := by decide +kernel
theorem dX4_stepBack_40 : decode cX4_stepBack 40 = .ok (.getfield 24, 3) := by decide +kernel
theorem dX4_stepBack_43 : decode cX4_stepBack 43 = .ok (.invokeinterface 36 2, 5) := by decide +kernel
theorem dX4_stepBack_48 : decode cX4_stepBack 48 = .ok (.checkcast 39, 3) := by decide +kernel
theorem dX4_stepBack_51 : decode cX4_stepBack 51 = .ok (.areturn, 1) := by decide +kernel
theorem dX4_stepForth_0 : decode cX4_stepForth 0 = .ok (.aload_n 0, 1) := by decide +kernel
theorem dX4_stepForth_1 : decode cX4_stepForth 1 = .ok (.getfield 24, 3) := by decide +kernel
theorem dX4_stepForth_4 : decode cX4_stepForth 4 = .ok (.ifCond .lt 19, 3) := by decide +kernel
theorem dX4_stepForth_7 : decode cX4_stepForth 7 = .ok (.aload_n 0, 1) := by decide +kernel
theorem dX4_stepForth_8 : decode cX4_stepForth 8 = .ok (.getfield 24, 3) := by decide +kernel
theorem dX4_stepForth_11 : decode cX4_stepForth 11 = .ok (.aload_n 0, 1) := by decide +kernel
theorem dX4_stepForth_12 : decode cX4_stepForth 12 = .ok (.getfield 12, 3) := by decide +kernel
theorem dX4_stepForth_15 : decode cX4_stepForth 15 = .ok (.invokeinterface 18 1, 5) := by decide +kernel
theorem dX4_stepForth_20 : decode cX4_stepForth 20 = .ok (.if_icmp .lt 5, 3) := by decide +kernel
theorem dX4_stepForth_23 : decode cX4_stepForth 23 = .ok (.aconst_null, 1) := by decide +kernel
theorem dX4_stepForth_24 : decode cX4_stepForth 24 = .ok (.areturn, 1) := by decide +kernel
theorem dX4_stepForth_25 : decode cX4_stepForth 25 = .ok (.aload_n 0, 1) := by decide +kernel
theorem dX4_stepForth_26 : decode cX4_stepForth 26 = .ok (.dup, 1) := by decide +kernel
theorem dX4_stepForth_27 : decode cX4_stepForth 27 = .ok (.getfield 24, 3) := by decide +kernel
theorem dX4_stepForth_30 : decode cX4_stepForth 30 = .ok (.iconst 1, 1) := by decide +kernel
theorem dX4_stepForth_31 : decode cX4_stepForth 31 = .ok (.iadd, 1) := by decide +kernel
theorem dX4_stepForth_32 : decode cX4_stepForth 32 = .ok (.putfield 24, 3) := by decide +kernel
theorem dX4_stepForth_35 : decode cX4_stepForth 35 = .ok (.aload_n 0, 1) := by decide +kernel
theorem dX4_stepForth_36 : decode cX4_stepForth 36 = .ok (.getfield 12, 3) := by decide +kernel
theorem dX4_stepForth_39 : decode cX4_stepForth 39 = .ok (.aload_n 0, 1) := by decide +kernel
theorem dX4_stepForth_40 : decode cX4_stepForth 40 = .ok (.getfield 24, 3) := by decide +kernel
theorem dX4_stepForth_43 : decode cX4_stepForth 43 = .ok (.iconst 1, 1) := by decide +kernel
theorem dX4_stepForth_44 : decode cX4_stepForth 44 = .ok (.isub, 1) := by decide +kernel
theorem dX4_stepForth_45 : decode cX4_stepForth 45 = .ok (.invokeinterface 36 2, 5) := by decide +kernel
theorem dX4_stepForth_50 : decode cX4_stepForth 50 = .ok (.checkcast 39, 3) := by decide +kernel
theorem dX4_stepForth_53 : decode cX4_stepForth 53 = .ok (.areturn, 1) := by decide +kernel
theorem dX5_init_0 : decode cX5_init 0 = .ok (.aload_n 0, 1) := by decide +kernel
theorem dX5_init_1 : decode cX5_init 1 = .ok (.invokespecial 3, 3) := by decide +kernel
theorem dX5_init_4 : decode cX5_init 4 = .ok (.aload_n 0, 1) := by decide +kernel
theorem dX5_init_5 : decode cX5_init 5 = .ok (.sipush 150, 3) := by decide +kernel
theorem dX5_init_8 : decode cX5_init 8 = .ok (.newarray .boolean, 2) := by decide +kernel
theorem dX5_init_10 : decode cX5_init 10 = .ok (.putfield 9, 3) := by decide +kernel
theorem dX5_init_13 : decode cX5_init 13 = .ok (.aload_n 0, 1) := by decide +kernel
theorem dX5_init_14 : decode cX5_init 14 = .ok (.sipush 150, 3) := by decide +kernel
theorem dX5_init_17 : decode cX5_init 17 = .ok (.newarray .int, 2) := by decide +kernel
theorem dX5_init_19 : decode cX5_init 19 = .ok (.putfield 15, 3) := by decide +kernel
theorem dX5_init_22 : decode cX5_init 22 = .ok (.aload_n 0, 1) := by decide +kernel
theorem dX5_init_23 : decode cX5_init 23 = .ok (.sipush 150, 3) := by decide +kernel
theorem dX5_init_26 : decode cX5_init 26 = .ok (.newarray .int, 2) := by decide +kernel
theorem dX5_init_28 : decode cX5_init 28 = .ok (.putfield 19, 3) := by decide +kernel
theorem dX5_init_31 : decode cX5_init 31 = .ok (.return_, 1) := by decide +kernel
theorem dX5_forgetGoing_0 : decode cX5_forgetGoing 0 = .ok (.iconst 0, 1) := by decide +kernel
theorem dX5_forgetGoing_1 : decode cX5_forgetGoing 1 = .ok (.istore_n 1, 1) := by decide +kernel
theorem dX5_forgetGoing_2 : decode cX5_forgetGoing 2 = .ok (.iload_n 1, 1) := by decide +kernel
theorem dX5_forgetGoing_3 : decode cX5_forgetGoing 3 = .ok (.sipush 150, 3) := by decide +kernel
theorem dX5_forgetGoing_6 : decode cX5_forgetGoing 6 = .ok (.if_icmp .ge 16, 3) := by decide +kernel
theorem dX5_forgetGoing_9 : decode cX5_forgetGoing 9 = .ok (.aload_n 0, 1) := by decide +kernel
theorem dX5_forgetGoing_10 : decode cX5_forgetGoing 10 = .ok (.getfield 9, 3) := by decide +kernel
theorem dX5_forgetGoing_13 : decode cX5_forgetGoing 13 = .ok (.iload_n 1, 1) := by decide +kernel
theorem dX5_forgetGoing_14 : decode cX5_forgetGoing 14 = .ok (.iconst 0, 1) := by decide +kernel
theorem dX5_forgetGoing_15 : decode cX5_forgetGoing 15 = .ok (.bastore, 1) := by decide +kernel
theorem dX5_forgetGoing_16 : decode cX5_forgetGoing 16 = .ok (.iinc 1 1, 3) := by decide +kernel
theorem dX5_forgetGoing_19 : decode cX5_forgetGoing 19 = .ok (.goto (-17), 3) := by decide +kernel
theorem dX5_forgetGoing_22 : decode cX5_forgetGoing 22 = .ok (.return_, 1) := by decide +kernel
theorem dX5_markGoing_0 : decode cX5_markGoing 0 = .ok (.iload_n 1, 1) := by decide +kernel
theorem dX5_markGoing_1 : decode cX5_markGoing 1 = .ok (.invokestatic 22, 3) := by decide +kernel
theorem dX5_markGoing_4 : decode cX5_markGoing 4 = .ok (.ifCond .eq 10, 3) := by decide +kernel
theorem dX5_markGoing_7 : decode cX5_markGoing 7 = .ok (.aload_n 0, 1) := by decide +kernel
theorem dX5_markGoing_8 : decode cX5_markGoing 8 = .ok (.getfield 9, 3) := by decide +kernel
theorem dX5_markGoing_11 : decode cX5_markGoing 11 = .ok (.iload_n 1, 1) := by decide +kernel
theorem dX5_markGoing_12 : decode cX5_markGoing 12 = .ok (.iconst 1, 1) := by decide +kernel
theorem dX5_markGoing_13 : decode cX5_markGoing 13 = .ok (.bastore, 1) := by decide +kernel
theorem dX5_markGoing_14 : decode cX5_markGoing 14 = .ok (.return_, 1) := by decide +kernel
theorem dX5_find_0 : decode cX5_find 0 = .ok (.iconst (-1), 1) := by decide +kernel
theorem dX5_find_1 : decode cX5_find 1 = .ok (.istore_n 2, 1) := by decide +kernel
theorem dX5_find_2 : decode cX5_find 2 = .ok (.iconst 0, 1) := by decide +kernel
theorem dX5_find_3 : decode cX5_find 3 = .ok (.istore_n 3, 1) := by decide +kernel
theorem dX5_find_4 : decode cX5_find 4 = .ok (.iload_n 3, 1) := by decide +kernel
theorem dX5_find_5 : decode cX5_find 5 = .ok (.aload_n 1, 1) := by decide +kernel
theorem dX5_find_6 : decode cX5_find 6 = .ok (.invokevirtual 26, 3) := by decide +kernel
theorem dX5_find_9 : decode cX5_find 9 = .ok (.if_icmp .ge 25, 3) := by decide +kernel
theorem dX5_find_12 : decode cX5_find 12 = .ok (.aload_n 0, 1) := by decide +kernel
theorem dX5_find_13 : decode cX5_find 13 = .ok (.aload_n 1, 1) := by decide +kernel
theorem dX5_find_14 : decode cX5_find 14 = .ok (.aload_n 1, 1) := by decide +kernel
theorem dX5_find_15 : decode cX5_find 15 = .ok (.iload_n 3, 1) := by decide +kernel
theorem dX5_find_16 : decode cX5_find 16 = .ok (.invokevirtual 32, 3) := by decide +kernel
theorem dX5_find_19 : decode cX5_find 19 = .ok (.iload_n 2, 1) := by decide +kernel
theorem dX5_find_20 : decode cX5_find 20 = .ok (.aload_n 0, 1) := by decide +kernel
theorem dX5_find_21 : decode cX5_find 21 = .ok (.getfield 15, 3) := by decide +kernel
theorem dX5_find_24 : decode cX5_find 24 = .ok (.invokevirtual 36, 3) := by decide +kernel
theorem dX5_find_27 : decode cX5_find 27 = .ok (.istore_n 2, 1) := by decide +kernel
theorem dX5_find_28 : decode cX5_find 28 = .ok (.iinc 3 1, 3) := by decide +kernel
theorem dX5_find_31 : decode cX5_find 31 = .ok (.goto (-27), 3) := by decide +kernel
theorem dX5_find_34 : decode cX5_find 34 = .ok (.iconst (-1), 1) := by decide +kernel
theorem dX5_find_35 : decode cX5_find 35 = .ok (.istore_n 2, 1) := by decide +kernel
theorem dX5_find_36 : decode cX5_find 36 = .ok (.aload_n 1, 1) := by decide +kernel
theorem dX5_find_37 : decode cX5_find 37 = .ok (.invokevirtual 26, 3) := by decide +kernel
theorem dX5_find_40 : decode cX5_find 40 = .ok (.iconst 1, 1) := by decide +kernel
theorem dX5_find_41 : decode cX5_find 41 = .ok (.isub, 1) := by decide +kernel
theorem dX5_find_42 : decode cX5_find 42 = .ok (.istore_n 3, 1) := by decide +kernel
theorem dX5_find_43 : decode cX5_find 43 = .ok (.iload_n 3, 1) := by decide +kernel
theorem dX5_find_44 : decode cX5_find 44 = .ok (.ifCond .lt 25, 3) := by decide +kernel
theorem dX5_find_47 : decode cX5_find 47 = .ok (.aload_n 0, 1) := by decide +kernel
theorem dX5_find_48 : decode cX5_find 48 = .ok (.aload_n 1, 1) := by decide +kernel
theorem dX5_find_49 : decode cX5_find 49 = .ok (.aload_n 1, 1) := by decide +kernel
theorem dX5_find_50 : decode cX5_find 50 = .ok (.iload_n 3, 1) := by decide +kernel
theorem dX5_find_51 : decode cX5_find 51 = .ok (.invokevirtual 32, 3) := by decide +kernel
theorem dX5_find_54 : decode cX5_find 54 = .ok (.iload_n 2, 1) := by decide +kernel
theorem dX5_find_55 : decode cX5_find 55 = .ok (.aload_n 0, 1) := by decide +kernel
theorem dX5_find_56 : decode cX5_find 56 = .ok (.getfield 19, 3) := by decide +kernel
theorem dX5_find_59 : decode cX5_find 59 = .ok (.invokevirtual 36, 3) := by decide +kernel
theorem dX5_find_62 : decode cX5_find 62 = .ok (.istore_n 2, 1) := by decide +kernel
theorem dX5_find_63 : decode cX5_find 63 = .ok (.iinc 3 (-1), 3) := by decide +kernel
theorem dX5_find_66 : decode cX5_find 66 = .ok (.goto (-23), 3) := by decide +kernel
theorem dX5_find_69 : decode cX5_find 69 = .ok (.return_, 1) := by decide +kernel
theorem dX5_aheadOf_0 : decode cX5_aheadOf 0 = .ok (.iload_n 1, 1) := by decide +kernel
theorem dX5_aheadOf_1 : decode cX5_aheadOf 1 = .ok (.invokestatic 22, 3) := by decide +kernel
theorem dX5_aheadOf_4 : decode cX5_aheadOf 4 = .ok (.ifCond .eq 12, 3) := by decide +kernel
theorem dX5_aheadOf_7 : decode cX5_aheadOf 7 = .ok (.aload_n 0, 1) := by decide +kernel
theorem dX5_aheadOf_8 : decode cX5_aheadOf 8 = .ok (.getfield 15, 3) := by decide +kernel
theorem dX5_aheadOf_11 : decode cX5_aheadOf 11 = .ok (.iload_n 1, 1) := by decide +kernel
theorem dX5_aheadOf_12 : decode cX5_aheadOf 12 = .ok (.iaload, 1) := by decide +kernel
theorem dX5_aheadOf_13 : decode cX5_aheadOf 13 = .ok (.goto 4, 3) := by decide +kernel
theorem dX5_aheadOf_16 : decode cX5_aheadOf 16 = .ok (.iconst (-1), 1) := by decide +kernel
theorem dX5_aheadOf_17 : decode cX5_aheadOf 17 = .ok (.ireturn, 1) := by decide +kernel
theorem dX5_behindOf_0 : decode cX5_behindOf 0 = .ok (.iload_n 1, 1) := by decide +kernel
theorem dX5_behindOf_1 : decode cX5_behindOf 1 = .ok (.invokestatic 22, 3) := by decide +kernel
theorem dX5_behindOf_4 : decode cX5_behindOf 4 = .ok (.ifCond .eq 12, 3) := by decide +kernel
theorem dX5_behindOf_7 : decode cX5_behindOf 7 = .ok (.aload_n 0, 1) := by decide +kernel
theorem dX5_behindOf_8 : decode cX5_behindOf 8 = .ok (.getfield 19, 3) := by decide +kernel
theorem dX5_behindOf_11 : decode cX5_behindOf 11 = .ok (.iload_n 1, 1) := by decide +kernel
theorem dX5_behindOf_12 : decode cX5_behindOf 12 = .ok (.iaload, 1) := by decide +kernel
theorem dX5_behindOf_13 : decode cX5_behindOf 13 = .ok (.goto 4, 3) := by decide +kernel
theorem dX5_behindOf_16 : decode cX5_behindOf 16 = .ok (.iconst (-1), 1) := by decide +kernel
theorem dX5_behindOf_17 : decode cX5_behindOf 17 = .ok (.ireturn, 1) := by decide +kernel
theorem dX5_pass_0 : decode cX5_pass 0 = .ok (.iload_n 2, 1) := by decide +kernel
theorem dX5_pass_1 : decode cX5_pass 1 = .ok (.invokestatic 22, 3) := by decide +kernel
theorem dX5_pass_4 : decode cX5_pass 4 = .ok (.ifCond .eq 10, 3) := by decide +kernel
theorem dX5_pass_7 : decode cX5_pass 7 = .ok (.iload_n 2, 1) := by decide +kernel
theorem dX5_pass_8 : decode cX5_pass 8 = .ok (.aload 4, 2) := by decide +kernel
theorem dX5_pass_10 : decode cX5_pass 10 = .ok (.arraylength, 1) := by decide +kernel
theorem dX5_pass_11 : decode cX5_pass 11 = .ok (.if_icmp .lt 5, 3) := by decide +kernel
theorem dX5_pass_14 : decode cX5_pass 14 = .ok (.iload_n 3, 1) := by decide +kernel
theorem dX5_pass_15 : decode cX5_pass 15 = .ok (.ireturn, 1) := by decide +kernel
theorem dX5_pass_16 : decode cX5_pass 16 = .ok (.aload 4, 2) := by decide +kernel
theorem dX5_pass_18 : decode cX5_pass 18 = .ok (.iload_n 2, 1) := by decide +kernel
theorem dX5_pass_19 : decode cX5_pass 19 = .ok (.iload_n 3, 1) := by decide +kernel
theorem dX5_pass_20 : decode cX5_pass 20 = .ok (.iastore, 1) := by decide +kernel
theorem dX5_pass_21 : decode cX5_pass 21 = .ok (.aload_n 1, 1) := by decide +kernel
theorem dX5_pass_22 : decode cX5_pass 22 = .ok (.iload_n 2, 1) := by decide +kernel
theorem dX5_pass_23 : decode cX5_pass 23 = .ok (.invokevirtual 40, 3) := by decide +kernel
theorem dX5_pass_26 : decode cX5_pass 26 = .ok (.ifCond .eq 16, 3) := by decide +kernel
theorem dX5_pass_29 : decode cX5_pass 29 = .ok (.aload_n 0, 1) := by decide +kernel
theorem dX5_pass_30 : decode cX5_pass 30 = .ok (.getfield 9, 3) := by decide +kernel
theorem dX5_pass_33 : decode cX5_pass 33 = .ok (.iload_n 2, 1) := by decide +kernel
theorem dX5_pass_34 : decode cX5_pass 34 = .ok (.baload, 1) := by decide +kernel
theorem dX5_pass_35 : decode cX5_pass 35 = .ok (.ifCond .ne 7, 3) := by decide +kernel
theorem dX5_pass_38 : decode cX5_pass 38 = .ok (.iload_n 2, 1) := by decide +kernel
theorem dX5_pass_39 : decode cX5_pass 39 = .ok (.goto 4, 3) := by decide +kernel
theorem dX5_pass_42 : decode cX5_pass 42 = .ok (.iload_n 3, 1) := by decide +kernel
theorem dX5_pass_43 : decode cX5_pass 43 = .ok (.ireturn, 1) := by decide +kernel
theorem dX5_isLetter_0 : decode cX5_isLetter 0 = .ok (.iload_n 0, 1) := by decide +kernel
theorem dX5_isLetter_1 : decode cX5_isLetter 1 = .ok (.ifCond .lt 14, 3) := by decide +kernel
theorem dX5_isLetter_4 : decode cX5_isLetter 4 = .ok (.iload_n 0, 1) := by decide +kernel
theorem dX5_isLetter_5 : decode cX5_isLetter 5 = .ok (.sipush 150, 3) := by decide +kernel
theorem dX5_isLetter_8 : decode cX5_isLetter 8 = .ok (.if_icmp .ge 7, 3) := by decide +kernel
theorem dX5_isLetter_11 : decode cX5_isLetter 11 = .ok (.iconst 1, 1) := by decide +kernel
theorem dX5_isLetter_12 : decode cX5_isLetter 12 = .ok (.goto 4, 3) := by decide +kernel
theorem dX5_isLetter_15 : decode cX5_isLetter 15 = .ok (.iconst 0, 1) := by decide +kernel
theorem dX5_isLetter_16 : decode cX5_isLetter 16 = .ok (.ireturn, 1) := by decide +kernel
theorem dX6_init_0 : decode cX6_init 0 = .ok (.aload_n 0, 1) := by decide +kernel
theorem dX6_init_1 : decode cX6_init 1 = .ok (.invokespecial 3, 3) := by decide +kernel
theorem dX6_init_4 : decode cX6_init 4 = .ok (.aload_n 0, 1) := by decide +kernel
theorem dX6_init_5 : decode cX6_init 5 = .ok (.sipush 150, 3) := by decide +kernel
theorem dX6_init_8 : decode cX6_init 8 = .ok (.newarray .int, 2) := by decide +kernel
theorem dX6_init_10 : decode cX6_init 10 = .ok (.putfield 9, 3) := by decide +kernel
theorem dX6_init_13 : decode cX6_init 13 = .ok (.aload_n 0, 1) := by decide +kernel
theorem dX6_init_14 : decode cX6_init 14 = .ok (.sipush 150, 3) := by decide +kernel
theorem dX6_init_17 : decode cX6_init 17 = .ok (.newarray .char, 2) := by decide +kernel
theorem dX6_init_19 : decode cX6_init 19 = .ok (.putfield 15, 3) := by decide +kernel
theorem dX6_init_22 : decode cX6_init 22 = .ok (.aload_n 0, 1) := by decide +kernel
theorem dX6_init_23 : decode cX6_init 23 = .ok (.sipush 150, 3) := by decide +kernel
theorem dX6_init_26 : decode cX6_init 26 = .ok (.newarray .char, 2) := by decide +kernel
theorem dX6_init_28 : decode cX6_init 28 = .ok (.putfield 19, 3) := by decide +kernel
theorem dX6_init_31 : decode cX6_init 31 = .ok (.return_, 1) := by decide +kernel
theorem dX6_draw_0 : decode cX6_draw 0 = .ok (.aload_n 0, 1) := by decide +kernel
theorem dX6_draw_1 : decode cX6_draw 1 = .ok (.aload_n 1, 1) := by decide +kernel
theorem dX6_draw_2 : decode cX6_draw 2 = .ok (.invokevirtual 22, 3) := by decide +kernel
theorem dX6_draw_5 : decode cX6_draw 5 = .ok (.iload_n 2, 1) := by decide +kernel
theorem dX6_draw_6 : decode cX6_draw 6 = .ok (.tableswitch 47 0 2 #[26, 33, 40], 26) := by decide +kernel
theorem dX6_draw_32 : decode cX6_draw 32 = .ok (.aload_n 0, 1) := by decide +kernel
theorem dX6_draw_33 : decode cX6_draw 33 = .ok (.invokevirtual 26, 3) := by decide +kernel
theorem dX6_draw_36 : decode cX6_draw 36 = .ok (.goto 22, 3) := by decide +kernel
theorem dX6_draw_39 : decode cX6_draw 39 = .ok (.aload_n 0, 1) := by decide +kernel
theorem dX6_draw_40 : decode cX6_draw 40 = .ok (.invokevirtual 29, 3) := by decide +kernel
theorem dX6_draw_43 : decode cX6_draw 43 = .ok (.goto 15, 3) := by decide +kernel
theorem dX6_draw_46 : decode cX6_draw 46 = .ok (.aload_n 0, 1) := by decide +kernel
theorem dX6_draw_47 : decode cX6_draw 47 = .ok (.invokevirtual 32, 3) := by decide +kernel
theorem dX6_draw_50 : decode cX6_draw 50 = .ok (.goto 8, 3) := by decide +kernel
theorem dX6_draw_53 : decode cX6_draw 53 = .ok (.aload_n 0, 1) := by decide +kernel
theorem dX6_draw_54 : decode cX6_draw 54 = .ok (.iload_n 3, 1) := by decide +kernel
theorem dX6_draw_55 : decode cX6_draw 55 = .ok (.invokevirtual 35, 3) := by decide +kernel
theorem dX6_draw_58 : decode cX6_draw 58 = .ok (.return_, 1) := by decide +kernel
theorem dX6_changes_0 : decode cX6_changes 0 = .ok (.aload_n 2, 1) := by decide +kernel
theorem dX6_changes_1 : decode cX6_changes 1 = .ok (.invokevirtual 39, 3) := by decide +kernel
theorem dX6_changes_4 : decode cX6_changes 4 = .ok (.iconst 0, 1) := by decide +kernel
theorem dX6_changes_5 : decode cX6_changes 5 = .ok (.istore_n 3, 1) := by decide +kernel
theorem dX6_changes_6 : decode cX6_changes 6 = .ok (.iload_n 3, 1) := by decide +kernel
theorem dX6_changes_7 : decode cX6_changes 7 = .ok (.aload_n 0, 1) := by decide +kernel
theorem dX6_changes_8 : decode cX6_changes 8 = .ok (.getfield 44, 3) := by decide +kernel
theorem dX6_changes_11 : decode cX6_changes 11 = .ok (.if_icmp .ge 29, 3) := by decide +kernel
theorem dX6_changes_14 : decode cX6_changes 14 = .ok (.aload_n 0, 1) := by decide +kernel
theorem dX6_changes_15 : decode cX6_changes 15 = .ok (.getfield 19, 3) := by decide +kernel
theorem dX6_changes_18 : decode cX6_changes 18 = .ok (.iload_n 3, 1) := by decide +kernel
theorem dX6_changes_19 : decode cX6_changes 19 = .ok (.caload, 1) := by decide +kernel
theorem dX6_changes_20 : decode cX6_changes 20 = .ok (.iconst 1, 1) := by decide +kernel
theorem dX6_changes_21 : decode cX6_changes 21 = .ok (.if_icmp .ne 13, 3) := by decide +kernel
theorem dX6_changes_24 : decode cX6_changes 24 = .ok (.aload_n 2, 1) := by decide +kernel
theorem dX6_changes_25 : decode cX6_changes 25 = .ok (.aload_n 0, 1) := by decide +kernel
theorem dX6_changes_26 : decode cX6_changes 26 = .ok (.getfield 9, 3) := by decide +kernel
theorem dX6_changes_29 : decode cX6_changes 29 = .ok (.iload_n 3, 1) := by decide +kernel
theorem dX6_changes_30 : decode cX6_changes 30 = .ok (.iaload, 1) := by decide +kernel
theorem dX6_changes_31 : decode cX6_changes 31 = .ok (.invokevirtual 48, 3) := by decide +kernel
theorem dX6_changes_34 : decode cX6_changes 34 = .ok (.iinc 3 1, 3) := by decide +kernel
theorem dX6_changes_37 : decode cX6_changes 37 = .ok (.goto (-31), 3) := by decide +kernel
theorem dX6_changes_40 : decode cX6_changes 40 = .ok (.aload_n 2, 1) := by decide +kernel
theorem dX6_changes_41 : decode cX6_changes 41 = .ok (.aload_n 1, 1) := by decide +kernel
theorem dX6_changes_42 : decode cX6_changes 42 = .ok (.invokevirtual 51, 3) := by decide +kernel
theorem dX6_changes_45 : decode cX6_changes 45 = .ok (.new 54, 3) := by decide +kernel
theorem dX6_changes_48 : decode cX6_changes 48 = .ok (.dup, 1) := by decide +kernel
theorem dX6_changes_49 : decode cX6_changes 49 = .ok (.invokespecial 56, 3) := by decide +kernel
theorem dX6_changes_52 : decode cX6_changes 52 = .ok (.astore_n 3, 1) := by decide +kernel
theorem dX6_changes_53 : decode cX6_changes 53 = .ok (.iconst 0, 1) := by decide +kernel
theorem dX6_changes_54 : decode cX6_changes 54 = .ok (.istore 4, 2) := by decide +kernel
theorem dX6_changes_56 : decode cX6_changes 56 = .ok (.iload 4, 2) := by decide +kernel
theorem dX6_changes_58 : decode cX6_changes 58 = .ok (.aload_n 0, 1) := by decide +kernel
theorem dX6_changes_59 : decode cX6_changes 59 = .ok (.getfield 44, 3) := by decide +kernel
theorem dX6_changes_62 : decode cX6_changes 62 = .ok (.if_icmp .ge 70, 3) := by decide +kernel
theorem dX6_changes_65 : decode cX6_changes 65 = .ok (.aload_n 0, 1) := by decide +kernel
theorem dX6_changes_66 : decode cX6_changes 66 = .ok (.getfield 19, 3) := by decide +kernel
theorem dX6_changes_69 : decode cX6_changes 69 = .ok (.iload 4, 2) := by decide +kernel
theorem dX6_changes_71 : decode cX6_changes 71 = .ok (.caload, 1) := by decide +kernel
theorem dX6_changes_72 : decode cX6_changes 72 = .ok (.ifCond .eq 54, 3) := by decide +kernel
theorem dX6_changes_75 : decode cX6_changes 75 = .ok (.aload_n 0, 1) := by decide +kernel
theorem dX6_changes_76 : decode cX6_changes 76 = .ok (.getfield 9, 3) := by decide +kernel
theorem dX6_changes_79 : decode cX6_changes 79 = .ok (.iload 4, 2) := by decide +kernel
theorem dX6_changes_81 : decode cX6_changes 81 = .ok (.iaload, 1) := by decide +kernel
theorem dX6_changes_82 : decode cX6_changes 82 = .ok (.istore 5, 2) := by decide +kernel
theorem dX6_changes_84 : decode cX6_changes 84 = .ok (.aload_n 3, 1) := by decide +kernel
theorem dX6_changes_85 : decode cX6_changes 85 = .ok (.new 57, 3) := by decide +kernel
theorem dX6_changes_88 : decode cX6_changes 88 = .ok (.dup, 1) := by decide +kernel
theorem dX6_changes_89 : decode cX6_changes 89 = .ok (.iload 5, 2) := by decide +kernel
theorem dX6_changes_91 : decode cX6_changes 91 = .ok (.aload_n 0, 1) := by decide +kernel
theorem dX6_changes_92 : decode cX6_changes 92 = .ok (.getfield 15, 3) := by decide +kernel
theorem dX6_changes_95 : decode cX6_changes 95 = .ok (.iload 4, 2) := by decide +kernel
theorem dX6_changes_97 : decode cX6_changes 97 = .ok (.caload, 1) := by decide +kernel
theorem dX6_changes_98 : decode cX6_changes 98 = .ok (.aload_n 0, 1) := by decide +kernel
theorem dX6_changes_99 : decode cX6_changes 99 = .ok (.getfield 19, 3) := by decide +kernel
theorem dX6_changes_102 : decode cX6_changes 102 = .ok (.iload 4, 2) := by decide +kernel
theorem dX6_changes_104 : decode cX6_changes 104 = .ok (.caload, 1) := by decide +kernel
theorem dX6_changes_105 : decode cX6_changes 105 = .ok (.aload_n 2, 1) := by decide +kernel
theorem dX6_changes_106 : decode cX6_changes 106 = .ok (.iload 5, 2) := by decide +kernel
theorem dX6_changes_108 : decode cX6_changes 108 = .ok (.invokevirtual 59, 3) := by decide +kernel
theorem dX6_changes_111 : decode cX6_changes 111 = .ok (.aload_n 2, 1) := by decide +kernel
theorem dX6_changes_112 : decode cX6_changes 112 = .ok (.iload 5, 2) := by decide +kernel
theorem dX6_changes_114 : decode cX6_changes 114 = .ok (.invokevirtual 63, 3) := by decide +kernel
theorem dX6_changes_117 : decode cX6_changes 117 = .ok (.invokespecial 66, 3) := by decide +kernel
theorem dX6_changes_120 : decode cX6_changes 120 = .ok (.invokeinterface 69 2, 5) := by decide +kernel
theorem dX6_changes_125 : decode cX6_changes 125 = .ok (.pop, 1) := by decide +kernel
theorem dX6_changes_126 : decode cX6_changes 126 = .ok (.iinc 4 1, 3) := by decide +kernel
theorem dX6_changes_129 : decode cX6_changes 129 = .ok (.goto (-73), 3) := by decide +kernel
theorem dX6_changes_132 : decode cX6_changes 132 = .ok (.aload_n 3, 1) := by decide +kernel
theorem dX6_changes_133 : decode cX6_changes 133 = .ok (.areturn, 1) := by decide +kernel
theorem dX6_look_0 : decode cX6_look 0 = .ok (.aload_n 0, 1) := by decide +kernel
theorem dX6_look_1 : decode cX6_look 1 = .ok (.iconst 0, 1) := by decide +kernel
theorem dX6_look_2 : decode cX6_look 2 = .ok (.putfield 44, 3) := by decide +kernel
theorem dX6_look_5 : decode cX6_look 5 = .ok (.iconst 0, 1) := by decide +kernel
theorem dX6_look_6 : decode cX6_look 6 = .ok (.istore_n 2, 1) := by decide +kernel
theorem dX6_look_7 : decode cX6_look 7 = .ok (.iload_n 2, 1) := by decide +kernel
theorem dX6_look_8 : decode cX6_look 8 = .ok (.aload_n 1, 1) := by decide +kernel
theorem dX6_look_9 : decode cX6_look 9 = .ok (.invokevirtual 75, 3) := by decide +kernel
theorem dX6_look_12 : decode cX6_look 12 = .ok (.if_icmp .ge 77, 3) := by decide +kernel
theorem dX6_look_15 : decode cX6_look 15 = .ok (.aload_n 1, 1) := by decide +kernel
theorem dX6_look_16 : decode cX6_look 16 = .ok (.iload_n 2, 1) := by decide +kernel
theorem dX6_look_17 : decode cX6_look 17 = .ok (.invokevirtual 80, 3) := by decide +kernel
theorem dX6_look_20 : decode cX6_look 20 = .ok (.istore_n 3, 1) := by decide +kernel
theorem dX6_look_21 : decode cX6_look 21 = .ok (.aload_n 1, 1) := by decide +kernel
theorem dX6_look_22 : decode cX6_look 22 = .ok (.iload_n 3, 1) := by decide +kernel
theorem dX6_look_23 : decode cX6_look 23 = .ok (.invokevirtual 83, 3) := by decide +kernel
theorem dX6_look_26 : decode cX6_look 26 = .ok (.ifCond .eq 57, 3) := by decide +kernel
theorem dX6_look_29 : decode cX6_look 29 = .ok (.aload_n 0, 1) := by decide +kernel
theorem dX6_look_30 : decode cX6_look 30 = .ok (.getfield 44, 3) := by decide +kernel
theorem dX6_look_33 : decode cX6_look 33 = .ok (.sipush 150, 3) := by decide +kernel
theorem dX6_look_36 : decode cX6_look 36 = .ok (.if_icmp .ge 47, 3) := by decide +kernel
theorem dX6_look_39 : decode cX6_look 39 = .ok (.aload_n 0, 1) := by decide +kernel
theorem dX6_look_40 : decode cX6_look 40 = .ok (.getfield 9, 3) := by decide +kernel
theorem dX6_look_43 : decode cX6_look 43 = .ok (.aload_n 0, 1) := by decide +kernel
theorem dX6_look_44 : decode cX6_look 44 = .ok (.getfield 44, 3) := by decide +kernel
theorem dX6_look_47 : decode cX6_look 47 = .ok (.iload_n 3, 1) := by decide +kernel
theorem dX6_look_48 : decode cX6_look 48 = .ok (.iastore, 1) := by decide +kernel
theorem dX6_look_49 : decode cX6_look 49 = .ok (.aload_n 0, 1) := by decide +kernel
theorem dX6_look_50 : decode cX6_look 50 = .ok (.getfield 15, 3) := by decide +kernel
theorem dX6_look_53 : decode cX6_look 53 = .ok (.aload_n 0, 1) := by decide +kernel
theorem dX6_look_54 : decode cX6_look 54 = .ok (.getfield 44, 3) := by decide +kernel
theorem dX6_look_57 : decode cX6_look 57 = .ok (.aload_n 1, 1) := by decide +kernel
theorem dX6_look_58 : decode cX6_look 58 = .ok (.iload_n 3, 1) := by decide +kernel
theorem dX6_look_59 : decode cX6_look 59 = .ok (.invokevirtual 87, 3) := by decide +kernel
theorem dX6_look_62 : decode cX6_look 62 = .ok (.castore, 1) := by decide +kernel
theorem dX6_look_63 : decode cX6_look 63 = .ok (.aload_n 0, 1) := by decide +kernel
theorem dX6_look_64 : decode cX6_look 64 = .ok (.getfield 19, 3) := by decide +kernel
theorem dX6_look_67 : decode cX6_look 67 = .ok (.aload_n 0, 1) := by decide +kernel
theorem dX6_look_68 : decode cX6_look 68 = .ok (.getfield 44, 3) := by decide +kernel
theorem dX6_look_71 : decode cX6_look 71 = .ok (.iconst 0, 1) := by decide +kernel
theorem dX6_look_72 : decode cX6_look 72 = .ok (.castore, 1) := by decide +kernel
theorem dX6_look_73 : decode cX6_look 73 = .ok (.aload_n 0, 1) := by decide +kernel
theorem dX6_look_74 : decode cX6_look 74 = .ok (.dup, 1) := by decide +kernel
theorem dX6_look_75 : decode cX6_look 75 = .ok (.getfield 44, 3) := by decide +kernel
theorem dX6_look_78 : decode cX6_look 78 = .ok (.iconst 1, 1) := by decide +kernel
theorem dX6_look_79 : decode cX6_look 79 = .ok (.iadd, 1) := by decide +kernel
theorem dX6_look_80 : decode cX6_look 80 = .ok (.putfield 44, 3) := by decide +kernel
theorem dX6_look_83 : decode cX6_look 83 = .ok (.iinc 2 1, 3) := by decide +kernel
theorem dX6_look_86 : decode cX6_look 86 = .ok (.goto (-79), 3) := by decide +kernel
theorem dX6_look_89 : decode cX6_look 89 = .ok (.return_, 1) := by decide +kernel
theorem dX6_wantSingleSpaces_0 : decode cX6_wantSingleSpaces 0 = .ok (.iconst 1, 1) := by decide +kernel
theorem dX6_wantSingleSpaces_1 : decode cX6_wantSingleSpaces 1 = .ok (.istore_n 1, 1) := by decide +kernel
theorem dX6_wantSingleSpaces_2 : decode cX6_wantSingleSpaces 2 = .ok (.iload_n 1, 1) := by decide +kernel
theorem dX6_wantSingleSpaces_3 : decode cX6_wantSingleSpaces 3 = .ok (.aload_n 0, 1) := by decide +kernel
theorem dX6_wantSingleSpaces_4 : decode cX6_wantSingleSpaces 4 = .ok (.getfield 44, 3) := by decide +kernel
theorem dX6_wantSingleSpaces_7 : decode cX6_wantSingleSpaces 7 = .ok (.if_icmp .ge 40, 3) := by decide +kernel
theorem dX6_wantSingleSpaces_10 : decode cX6_wantSingleSpaces 10 = .ok (.aload_n 0, 1) := by decide +kernel
theorem dX6_wantSingleSpaces_11 : decode cX6_wantSingleSpaces 11 = .ok (.getfield 15, 3) := by decide +kernel
theorem dX6_wantSingleSpaces_14 : decode cX6_wantSingleSpaces 14 = .ok (.iload_n 1, 1) := by decide +kernel
theorem dX6_wantSingleSpaces_15 : decode cX6_wantSingleSpaces 15 = .ok (.caload, 1) := by decide +kernel
theorem dX6_wantSingleSpaces_16 : decode cX6_wantSingleSpaces 16 = .ok (.bipush 32, 2) := by decide +kernel
theorem dX6_wantSingleSpaces_18 : decode cX6_wantSingleSpaces 18 = .ok (.if_icmp .ne 23, 3) := by decide +kernel
theorem dX6_wantSingleSpaces_21 : decode cX6_wantSingleSpaces 21 = .ok (.aload_n 0, 1) := by decide +kernel
theorem dX6_wantSingleSpaces_22 : decode cX6_wantSingleSpaces 22 = .ok (.getfield 15, 3) := by decide +kernel
theorem dX6_wantSingleSpaces_25 : decode cX6_wantSingleSpaces 25 = .ok (.iload_n 1, 1) := by decide +kernel
theorem dX6_wantSingleSpaces_26 : decode cX6_wantSingleSpaces 26 = .ok (.iconst 1, 1) := by decide +kernel
theorem dX6_wantSingleSpaces_27 : decode cX6_wantSingleSpaces 27 = .ok (.isub, 1) := by decide +kernel
theorem dX6_wantSingleSpaces_28 : decode cX6_wantSingleSpaces 28 = .ok (.caload, 1) := by decide +kernel
theorem dX6_wantSingleSpaces_29 : decode cX6_wantSingleSpaces 29 = .ok (.bipush 32, 2) := by decide +kernel
theorem dX6_wantSingleSpaces_31 : decode cX6_wantSingleSpaces 31 = .ok (.if_icmp .ne 10, 3) := by decide +kernel
theorem dX6_wantSingleSpaces_34 : decode cX6_wantSingleSpaces 34 = .ok (.aload_n 0, 1) := by decide +kernel
theorem dX6_wantSingleSpaces_35 : decode cX6_wantSingleSpaces 35 = .ok (.getfield 19, 3) := by decide +kernel
theorem dX6_wantSingleSpaces_38 : decode cX6_wantSingleSpaces 38 = .ok (.iload_n 1, 1) := by decide +kernel
theorem dX6_wantSingleSpaces_39 : decode cX6_wantSingleSpaces 39 = .ok (.iconst 1, 1) := by decide +kernel
theorem dX6_wantSingleSpaces_40 : decode cX6_wantSingleSpaces 40 = .ok (.castore, 1) := by decide +kernel
theorem dX6_wantSingleSpaces_41 : decode cX6_wantSingleSpaces 41 = .ok (.iinc 1 1, 3) := by decide +kernel
theorem dX6_wantSingleSpaces_44 : decode cX6_wantSingleSpaces 44 = .ok (.goto (-42), 3) := by decide +kernel
theorem dX6_wantSingleSpaces_47 : decode cX6_wantSingleSpaces 47 = .ok (.return_, 1) := by decide +kernel
theorem dX6_wantBareEnds_0 : decode cX6_wantBareEnds 0 = .ok (.iconst 1, 1) := by decide +kernel
theorem dX6_wantBareEnds_1 : decode cX6_wantBareEnds 1 = .ok (.istore_n 1, 1) := by decide +kernel
theorem dX6_wantBareEnds_2 : decode cX6_wantBareEnds 2 = .ok (.aload_n 0, 1) := by decide +kernel
theorem dX6_wantBareEnds_3 : decode cX6_wantBareEnds 3 = .ok (.getfield 44, 3) := by decide +kernel
theorem dX6_wantBareEnds_6 : decode cX6_wantBareEnds 6 = .ok (.iconst 1, 1) := by decide +kernel
theorem dX6_wantBareEnds_7 : decode cX6_wantBareEnds 7 = .ok (.isub, 1) := by decide +kernel
theorem dX6_wantBareEnds_8 : decode cX6_wantBareEnds 8 = .ok (.istore_n 2, 1) := by decide +kernel
theorem dX6_wantBareEnds_9 : decode cX6_wantBareEnds 9 = .ok (.iload_n 2, 1) := by decide +kernel
theorem dX6_wantBareEnds_10 : decode cX6_wantBareEnds 10 = .ok (.ifCond .lt 51, 3) := by decide +kernel
theorem dX6_wantBareEnds_13 : decode cX6_wantBareEnds 13 = .ok (.aload_n 0, 1) := by decide +kernel
theorem dX6_wantBareEnds_14 : decode cX6_wantBareEnds 14 = .ok (.getfield 15, 3) := by decide +kernel
theorem dX6_wantBareEnds_17 : decode cX6_wantBareEnds 17 = .ok (.iload_n 2, 1) := by decide +kernel
theorem dX6_wantBareEnds_18 : decode cX6_wantBareEnds 18 = .ok (.caload, 1) := by decide +kernel
theorem dX6_wantBareEnds_19 : decode cX6_wantBareEnds 19 = .ok (.bipush 32, 2) := by decide +kernel
theorem dX6_wantBareEnds_21 : decode cX6_wantBareEnds 21 = .ok (.if_icmp .eq 23, 3) := by decide +kernel
theorem dX6_wantBareEnds_24 : decode cX6_wantBareEnds 24 = .ok (.aload_n 0, 1) := by decide +kernel
theorem dX6_wantBareEnds_25 : decode cX6_wantBareEnds 25 = .ok (.getfield 15, 3) := by decide +kernel
theorem dX6_wantBareEnds_28 : decode cX6_wantBareEnds 28 = .ok (.iload_n 2, 1) := by decide +kernel
theorem dX6_wantBareEnds_29 : decode cX6_wantBareEnds 29 = .ok (.caload, 1) := by decide +kernel
theorem dX6_wantBareEnds_30 : decode cX6_wantBareEnds 30 = .ok (.bipush 47, 2) := by decide +kernel
theorem dX6_wantBareEnds_32 : decode cX6_wantBareEnds 32 = .ok (.if_icmp .ne 7, 3) := by decide +kernel
theorem dX6_wantBareEnds_35 : decode cX6_wantBareEnds 35 = .ok (.iconst 1, 1) := by decide +kernel
theorem dX6_wantBareEnds_36 : decode cX6_wantBareEnds 36 = .ok (.goto 4, 3) := by decide +kernel
theorem dX6_wantBareEnds_39 : decode cX6_wantBareEnds 39 = .ok (.iconst 0, 1) := by decide +kernel
theorem dX6_wantBareEnds_40 : decode cX6_wantBareEnds 40 = .ok (.istore_n 1, 1) := by decide +kernel
theorem dX6_wantBareEnds_41 : decode cX6_wantBareEnds 41 = .ok (.goto 14, 3) := by decide +kernel
theorem dX6_wantBareEnds_44 : decode cX6_wantBareEnds 44 = .ok (.iload_n 1, 1) := by decide +kernel
theorem dX6_wantBareEnds_45 : decode cX6_wantBareEnds 45 = .ok (.ifCond .eq 10, 3) := by decide +kernel
theorem dX6_wantBareEnds_48 : decode cX6_wantBareEnds 48 = .ok (.aload_n 0, 1) := by decide +kernel
theorem dX6_wantBareEnds_49 : decode cX6_wantBareEnds 49 = .ok (.getfield 19, 3) := by decide +kernel
theorem dX6_wantBareEnds_52 : decode cX6_wantBareEnds 52 = .ok (.iload_n 2, 1) := by decide +kernel
theorem dX6_wantBareEnds_53 : decode cX6_wantBareEnds 53 = .ok (.iconst 1, 1) := by decide +kernel
theorem dX6_wantBareEnds_54 : decode cX6_wantBareEnds 54 = .ok (.castore, 1) := by decide +kernel
theorem dX6_wantBareEnds_55 : decode cX6_wantBareEnds 55 = .ok (.iinc 2 (-1), 3) := by decide +kernel
theorem dX6_wantBareEnds_58 : decode cX6_wantBareEnds 58 = .ok (.goto (-49), 3) := by decide +kernel
theorem dX6_wantBareEnds_61 : decode cX6_wantBareEnds 61 = .ok (.return_, 1) := by decide +kernel
theorem dX6_wantCapitals_0 : decode cX6_wantCapitals 0 = .ok (.iconst 1, 1) := by decide +kernel
theorem dX6_wantCapitals_1 : decode cX6_wantCapitals 1 = .ok (.istore_n 1, 1) := by decide +kernel
theorem dX6_wantCapitals_2 : decode cX6_wantCapitals 2 = .ok (.iconst 0, 1) := by decide +kernel
theorem dX6_wantCapitals_3 : decode cX6_wantCapitals 3 = .ok (.istore_n 2, 1) := by decide +kernel
theorem dX6_wantCapitals_4 : decode cX6_wantCapitals 4 = .ok (.iload_n 2, 1) := by decide +kernel
theorem dX6_wantCapitals_5 : decode cX6_wantCapitals 5 = .ok (.aload_n 0, 1) := by decide +kernel
theorem dX6_wantCapitals_6 : decode cX6_wantCapitals 6 = .ok (.getfield 44, 3) := by decide +kernel
theorem dX6_wantCapitals_9 : decode cX6_wantCapitals 9 = .ok (.if_icmp .ge 71, 3) := by decide +kernel
theorem dX6_wantCapitals_12 : decode cX6_wantCapitals 12 = .ok (.iload_n 1, 1) := by decide +kernel
theorem dX6_wantCapitals_13 : decode cX6_wantCapitals 13 = .ok (.ifCond .eq 44, 3) := by decide +kernel
theorem dX6_wantCapitals_16 : decode cX6_wantCapitals 16 = .ok (.aload_n 0, 1) := by decide +kernel
theorem dX6_wantCapitals_17 : decode cX6_wantCapitals 17 = .ok (.getfield 15, 3) := by decide +kernel
theorem dX6_wantCapitals_20 : decode cX6_wantCapitals 20 = .ok (.iload_n 2, 1) := by decide +kernel
theorem dX6_wantCapitals_21 : decode cX6_wantCapitals 21 = .ok (.caload, 1) := by decide +kernel
theorem dX6_wantCapitals_22 : decode cX6_wantCapitals 22 = .ok (.bipush 97, 2) := by decide +kernel
theorem dX6_wantCapitals_24 : decode cX6_wantCapitals 24 = .ok (.if_icmp .lt 33, 3) := by decide +kernel
theorem dX6_wantCapitals_27 : decode cX6_wantCapitals 27 = .ok (.aload_n 0, 1) := by decide +kernel
theorem dX6_wantCapitals_28 : decode cX6_wantCapitals 28 = .ok (.getfield 15, 3) := by decide +kernel
theorem dX6_wantCapitals_31 : decode cX6_wantCapitals 31 = .ok (.iload_n 2, 1) := by decide +kernel
theorem dX6_wantCapitals_32 : decode cX6_wantCapitals 32 = .ok (.caload, 1) := by decide +kernel
theorem dX6_wantCapitals_33 : decode cX6_wantCapitals 33 = .ok (.bipush 122, 2) := by decide +kernel
theorem dX6_wantCapitals_35 : decode cX6_wantCapitals 35 = .ok (.if_icmp .gt 22, 3) := by decide +kernel
theorem dX6_wantCapitals_38 : decode cX6_wantCapitals 38 = .ok (.aload_n 0, 1) := by decide +kernel
theorem dX6_wantCapitals_39 : decode cX6_wantCapitals 39 = .ok (.getfield 19, 3) := by decide +kernel
theorem dX6_wantCapitals_42 : decode cX6_wantCapitals 42 = .ok (.iload_n 2, 1) := by decide +kernel
theorem dX6_wantCapitals_43 : decode cX6_wantCapitals 43 = .ok (.aload_n 0, 1) := by decide +kernel
theorem dX6_wantCapitals_44 : decode cX6_wantCapitals 44 = .ok (.getfield 15, 3) := by decide +kernel
theorem dX6_wantCapitals_47 : decode cX6_wantCapitals 47 = .ok (.iload_n 2, 1) := by decide +kernel
theorem dX6_wantCapitals_48 : decode cX6_wantCapitals 48 = .ok (.caload, 1) := by decide +kernel
theorem dX6_wantCapitals_49 : decode cX6_wantCapitals 49 = .ok (.bipush 97, 2) := by decide +kernel
theorem dX6_wantCapitals_51 : decode cX6_wantCapitals 51 = .ok (.isub, 1) := by decide +kernel
theorem dX6_wantCapitals_52 : decode cX6_wantCapitals 52 = .ok (.bipush 65, 2) := by decide +kernel
theorem dX6_wantCapitals_54 : decode cX6_wantCapitals 54 = .ok (.iadd, 1) := by decide +kernel
theorem dX6_wantCapitals_55 : decode cX6_wantCapitals 55 = .ok (.i2c, 1) := by decide +kernel
theorem dX6_wantCapitals_56 : decode cX6_wantCapitals 56 = .ok (.castore, 1) := by decide +kernel
theorem dX6_wantCapitals_57 : decode cX6_wantCapitals 57 = .ok (.aload_n 0, 1) := by decide +kernel
theorem dX6_wantCapitals_58 : decode cX6_wantCapitals 58 = .ok (.getfield 15, 3) := by decide +kernel
theorem dX6_wantCapitals_61 : decode cX6_wantCapitals 61 = .ok (.iload_n 2, 1) := by decide +kernel
theorem dX6_wantCapitals_62 : decode cX6_wantCapitals 62 = .ok (.caload, 1) := by decide +kernel
theorem dX6_wantCapitals_63 : decode cX6_wantCapitals 63 = .ok (.bipush 47, 2) := by decide +kernel
theorem dX6_wantCapitals_65 : decode cX6_wantCapitals 65 = .ok (.if_icmp .ne 7, 3) := by decide +kernel
theorem dX6_wantCapitals_68 : decode cX6_wantCapitals 68 = .ok (.iconst 1, 1) := by decide +kernel
theorem dX6_wantCapitals_69 : decode cX6_wantCapitals 69 = .ok (.goto 4, 3) := by decide +kernel
theorem dX6_wantCapitals_72 : decode cX6_wantCapitals 72 = .ok (.iconst 0, 1) := by decide +kernel
theorem dX6_wantCapitals_73 : decode cX6_wantCapitals 73 = .ok (.istore_n 1, 1) := by decide +kernel
theorem dX6_wantCapitals_74 : decode cX6_wantCapitals 74 = .ok (.iinc 2 1, 3) := by decide +kernel
theorem dX6_wantCapitals_77 : decode cX6_wantCapitals 77 = .ok (.goto (-73), 3) := by decide +kernel
theorem dX6_wantCapitals_80 : decode cX6_wantCapitals 80 = .ok (.return_, 1) := by decide +kernel
theorem dX6_wantWrapped_0 : decode cX6_wantWrapped 0 = .ok (.iconst 0, 1) := by decide +kernel
theorem dX6_wantWrapped_1 : decode cX6_wantWrapped 1 = .ok (.istore_n 2, 1) := by decide +kernel
theorem dX6_wantWrapped_2 : decode cX6_wantWrapped 2 = .ok (.iconst (-1), 1) := by decide +kernel
theorem dX6_wantWrapped_3 : decode cX6_wantWrapped 3 = .ok (.istore_n 3, 1) := by decide +kernel
theorem dX6_wantWrapped_4 : decode cX6_wantWrapped 4 = .ok (.iconst 0, 1) := by decide +kernel
theorem dX6_wantWrapped_5 : decode cX6_wantWrapped 5 = .ok (.istore 4, 2) := by decide +kernel
theorem dX6_wantWrapped_7 : decode cX6_wantWrapped 7 = .ok (.iload 4, 2) := by decide +kernel
theorem dX6_wantWrapped_9 : decode cX6_wantWrapped 9 = .ok (.aload_n 0, 1) := by decide +kernel
theorem dX6_wantWrapped_10 : decode cX6_wantWrapped 10 = .ok (.getfield 44, 3) := by decide +kernel
theorem dX6_wantWrapped_13 : decode cX6_wantWrapped 13 = .ok (.if_icmp .ge 72, 3) := by decide +kernel
theorem dX6_wantWrapped_16 : decode cX6_wantWrapped 16 = .ok (.aload_n 0, 1) := by decide +kernel
theorem dX6_wantWrapped_17 : decode cX6_wantWrapped 17 = .ok (.getfield 15, 3) := by decide +kernel
theorem dX6_wantWrapped_20 : decode cX6_wantWrapped 20 = .ok (.iload 4, 2) := by decide +kernel
theorem dX6_wantWrapped_22 : decode cX6_wantWrapped 22 = .ok (.caload, 1) := by decide +kernel
theorem dX6_wantWrapped_23 : decode cX6_wantWrapped 23 = .ok (.bipush 47, 2) := by decide +kernel
theorem dX6_wantWrapped_25 : decode cX6_wantWrapped 25 = .ok (.if_icmp .ne 13, 3) := by decide +kernel
theorem dX6_wantWrapped_28 : decode cX6_wantWrapped 28 = .ok (.iload 4, 2) := by decide +kernel
theorem dX6_wantWrapped_30 : decode cX6_wantWrapped 30 = .ok (.iconst 1, 1) := by decide +kernel
theorem dX6_wantWrapped_31 : decode cX6_wantWrapped 31 = .ok (.iadd, 1) := by decide +kernel
theorem dX6_wantWrapped_32 : decode cX6_wantWrapped 32 = .ok (.istore_n 2, 1) := by decide +kernel
theorem dX6_wantWrapped_33 : decode cX6_wantWrapped 33 = .ok (.iconst (-1), 1) := by decide +kernel
theorem dX6_wantWrapped_34 : decode cX6_wantWrapped 34 = .ok (.istore_n 3, 1) := by decide +kernel
theorem dX6_wantWrapped_35 : decode cX6_wantWrapped 35 = .ok (.goto 44, 3) := by decide +kernel
theorem dX6_wantWrapped_38 : decode cX6_wantWrapped 38 = .ok (.aload_n 0, 1) := by decide +kernel
theorem dX6_wantWrapped_39 : decode cX6_wantWrapped 39 = .ok (.getfield 15, 3) := by decide +kernel
theorem dX6_wantWrapped_42 : decode cX6_wantWrapped 42 = .ok (.iload 4, 2) := by decide +kernel
theorem dX6_wantWrapped_44 : decode cX6_wantWrapped 44 = .ok (.caload, 1) := by decide +kernel
theorem dX6_wantWrapped_45 : decode cX6_wantWrapped 45 = .ok (.bipush 32, 2) := by decide +kernel
theorem dX6_wantWrapped_47 : decode cX6_wantWrapped 47 = .ok (.if_icmp .ne 6, 3) := by decide +kernel
theorem dX6_wantWrapped_50 : decode cX6_wantWrapped 50 = .ok (.iload 4, 2) := by decide +kernel
theorem dX6_wantWrapped_52 : decode cX6_wantWrapped 52 = .ok (.istore_n 3, 1) := by decide +kernel
theorem dX6_wantWrapped_53 : decode cX6_wantWrapped 53 = .ok (.iload 4, 2) := by decide +kernel
theorem dX6_wantWrapped_55 : decode cX6_wantWrapped 55 = .ok (.iload_n 2, 1) := by decide +kernel
theorem dX6_wantWrapped_56 : decode cX6_wantWrapped 56 = .ok (.isub, 1) := by decide +kernel
theorem dX6_wantWrapped_57 : decode cX6_wantWrapped 57 = .ok (.iload_n 1, 1) := by decide +kernel
theorem dX6_wantWrapped_58 : decode cX6_wantWrapped 58 = .ok (.if_icmp .ne 21, 3) := by decide +kernel
theorem dX6_wantWrapped_61 : decode cX6_wantWrapped 61 = .ok (.iload_n 3, 1) := by decide +kernel
theorem dX6_wantWrapped_62 : decode cX6_wantWrapped 62 = .ok (.ifCond .lt 17, 3) := by decide +kernel
theorem dX6_wantWrapped_65 : decode cX6_wantWrapped 65 = .ok (.aload_n 0, 1) := by decide +kernel
theorem dX6_wantWrapped_66 : decode cX6_wantWrapped 66 = .ok (.getfield 19, 3) := by decide +kernel
theorem dX6_wantWrapped_69 : decode cX6_wantWrapped 69 = .ok (.iload_n 3, 1) := by decide +kernel
theorem dX6_wantWrapped_70 : decode cX6_wantWrapped 70 = .ok (.bipush 47, 2) := by decide +kernel
theorem dX6_wantWrapped_72 : decode cX6_wantWrapped 72 = .ok (.castore, 1) := by decide +kernel
theorem dX6_wantWrapped_73 : decode cX6_wantWrapped 73 = .ok (.iload_n 3, 1) := by decide +kernel
theorem dX6_wantWrapped_74 : decode cX6_wantWrapped 74 = .ok (.iconst 1, 1) := by decide +kernel
theorem dX6_wantWrapped_75 : decode cX6_wantWrapped 75 = .ok (.iadd, 1) := by decide +kernel
theorem dX6_wantWrapped_76 : decode cX6_wantWrapped 76 = .ok (.istore_n 2, 1) := by decide +kernel
theorem dX6_wantWrapped_77 : decode cX6_wantWrapped 77 = .ok (.iconst (-1), 1) := by decide +kernel
theorem dX6_wantWrapped_78 : decode cX6_wantWrapped 78 = .ok (.istore_n 3, 1) := by decide +kernel
theorem dX6_wantWrapped_79 : decode cX6_wantWrapped 79 = .ok (.iinc 4 1, 3) := by decide +kernel
theorem dX6_wantWrapped_82 : decode cX6_wantWrapped 82 = .ok (.goto (-75), 3) := by decide +kernel
theorem dX6_wantWrapped_85 : decode cX6_wantWrapped 85 = .ok (.return_, 1) := by decide +kernel
theorem dX7_init_0 : decode cX7_init 0 = .ok (.aload_n 0, 1) := by decide +kernel
theorem dX7_init_1 : decode cX7_init 1 = .ok (.invokespecial 3, 3) := by decide +kernel
theorem dX7_init_4 : decode cX7_init 4 = .ok (.aload_n 0, 1) := by decide +kernel
theorem dX7_init_5 : decode cX7_init 5 = .ok (.sipush 150, 3) := by decide +kernel
theorem dX7_init_8 : decode cX7_init 8 = .ok (.newarray .int, 2) := by decide +kernel
theorem dX7_init_10 : decode cX7_init 10 = .ok (.putfield 9, 3) := by decide +kernel
theorem dX7_init_13 : decode cX7_init 13 = .ok (.aload_n 0, 1) := by decide +kernel
theorem dX7_init_14 : decode cX7_init 14 = .ok (.sipush 150, 3) := by decide +kernel
theorem dX7_init_17 : decode cX7_init 17 = .ok (.newarray .char, 2) := by decide +kernel
theorem dX7_init_19 : decode cX7_init 19 = .ok (.putfield 15, 3) := by decide +kernel
theorem dX7_init_22 : decode cX7_init 22 = .ok (.aload_n 0, 1) := by decide +kernel
theorem dX7_init_23 : decode cX7_init 23 = .ok (.sipush 150, 3) := by decide +kernel
theorem dX7_init_26 : decode cX7_init 26 = .ok (.newarray .boolean, 2) := by decide +kernel
theorem dX7_init_28 : decode cX7_init 28 = .ok (.putfield 19, 3) := by decide +kernel
theorem dX7_init_31 : decode cX7_init 31 = .ok (.return_, 1) := by decide +kernel
theorem dX7_empty_0 : decode cX7_empty 0 = .ok (.aload_n 0, 1) := by decide +kernel
theorem dX7_empty_1 : decode cX7_empty 1 = .ok (.iconst 0, 1) := by decide +kernel
theorem dX7_empty_2 : decode cX7_empty 2 = .ok (.putfield 23, 3) := by decide +kernel
theorem dX7_empty_5 : decode cX7_empty 5 = .ok (.return_, 1) := by decide +kernel
theorem dX7_count_0 : decode cX7_count 0 = .ok (.aload_n 0, 1) := by decide +kernel
theorem dX7_count_1 : decode cX7_count 1 = .ok (.getfield 23, 3) := by decide +kernel
theorem dX7_count_4 : decode cX7_count 4 = .ok (.ireturn, 1) := by decide +kernel
theorem dX7_isFull_0 : decode cX7_isFull 0 = .ok (.aload_n 0, 1) := by decide +kernel
theorem dX7_isFull_1 : decode cX7_isFull 1 = .ok (.getfield 23, 3) := by decide +kernel
theorem dX7_isFull_4 : decode cX7_isFull 4 = .ok (.sipush 150, 3) := by decide +kernel
theorem dX7_isFull_7 : decode cX7_isFull 7 = .ok (.if_icmp .lt 7, 3) := by decide +kernel
theorem dX7_isFull_10 : decode cX7_isFull 10 = .ok (.iconst 1, 1) := by decide +kernel
theorem dX7_isFull_11 : decode cX7_isFull 11 = .ok (.goto 4, 3) := by decide +kernel
theorem dX7_isFull_14 : decode cX7_isFull 14 = .ok (.iconst 0, 1) := by decide +kernel
theorem dX7_isFull_15 : decode cX7_isFull 15 = .ok (.ireturn, 1) := by decide +kernel
theorem dX7_has_0 : decode cX7_has 0 = .ok (.iload_n 1, 1) := by decide +kernel
theorem dX7_has_1 : decode cX7_has 1 = .ok (.ifCond .lt 15, 3) := by decide +kernel
theorem dX7_has_4 : decode cX7_has 4 = .ok (.iload_n 1, 1) := by decide +kernel
theorem dX7_has_5 : decode cX7_has 5 = .ok (.aload_n 0, 1) := by decide +kernel
theorem dX7_has_6 : decode cX7_has 6 = .ok (.getfield 23, 3) := by decide +kernel
theorem dX7_has_9 : decode cX7_has 9 = .ok (.if_icmp .ge 7, 3) := by decide +kernel
theorem dX7_has_12 : decode cX7_has 12 = .ok (.iconst 1, 1) := by decide +kernel
theorem dX7_has_13 : decode cX7_has 13 = .ok (.goto 4, 3) := by decide +kernel
theorem dX7_has_16 : decode cX7_has 16 = .ok (.iconst 0, 1) := by decide +kernel
theorem dX7_has_17 : decode cX7_has 17 = .ok (.ireturn, 1) := by decide +kernel
theorem dX7_shows_0 : decode cX7_shows 0 = .ok (.aload_n 0, 1) := by decide +kernel
theorem dX7_shows_1 : decode cX7_shows 1 = .ok (.iload_n 1, 1) := by decide +kernel
theorem dX7_shows_2 : decode cX7_shows 2 = .ok (.invokevirtual 27, 3) := by decide +kernel
theorem dX7_shows_5 : decode cX7_shows 5 = .ok (.ifCond .eq 16, 3) := by decide +kernel
theorem dX7_shows_8 : decode cX7_shows 8 = .ok (.aload_n 0, 1) := by decide +kernel
theorem dX7_shows_9 : decode cX7_shows 9 = .ok (.getfield 19, 3) := by decide +kernel
theorem dX7_shows_12 : decode cX7_shows 12 = .ok (.iload_n 1, 1) := by decide +kernel
theorem dX7_shows_13 : decode cX7_shows 13 = .ok (.baload, 1) := by decide +kernel
theorem dX7_shows_14 : decode cX7_shows 14 = .ok (.ifCond .eq 7, 3) := by decide +kernel
theorem dX7_shows_17 : decode cX7_shows 17 = .ok (.iconst 1, 1) := by decide +kernel
theorem dX7_shows_18 : decode cX7_shows 18 = .ok (.goto 4, 3) := by decide +kernel
theorem dX7_shows_21 : decode cX7_shows 21 = .ok (.iconst 0, 1) := by decide +kernel
theorem dX7_shows_22 : decode cX7_shows 22 = .ok (.ireturn, 1) := by decide +kernel
theorem dX7_signOf_0 : decode cX7_signOf 0 = .ok (.aload_n 0, 1) := by decide +kernel
theorem dX7_signOf_1 : decode cX7_signOf 1 = .ok (.iload_n 1, 1) := by decide +kernel
theorem dX7_signOf_2 : decode cX7_signOf 2 = .ok (.invokevirtual 27, 3) := by decide +kernel
theorem dX7_signOf_5 : decode cX7_signOf 5 = .ok (.ifCond .eq 12, 3) := by decide +kernel
theorem dX7_signOf_8 : decode cX7_signOf 8 = .ok (.aload_n 0, 1) := by decide +kernel
theorem dX7_signOf_9 : decode cX7_signOf 9 = .ok (.getfield 15, 3) := by decide +kernel
theorem dX7_signOf_12 : decode cX7_signOf 12 = .ok (.iload_n 1, 1) := by decide +kernel
theorem dX7_signOf_13 : decode cX7_signOf 13 = .ok (.caload, 1) := by decide +kernel
theorem dX7_signOf_14 : decode cX7_signOf 14 = .ok (.goto 4, 3) := by decide +kernel
theorem dX7_signOf_17 : decode cX7_signOf 17 = .ok (.iconst 0, 1) := by decide +kernel
theorem dX7_signOf_18 : decode cX7_signOf 18 = .ok (.ireturn, 1) := by decide +kernel
theorem dX7_letterAt_0 : decode cX7_letterAt 0 = .ok (.iload_n 1, 1) := by decide +kernel
theorem dX7_letterAt_1 : decode cX7_letterAt 1 = .ok (.ifCond .lt 20, 3) := by decide +kernel
theorem dX7_letterAt_4 : decode cX7_letterAt 4 = .ok (.iload_n 1, 1) := by decide +kernel
theorem dX7_letterAt_5 : decode cX7_letterAt 5 = .ok (.aload_n 0, 1) := by decide +kernel
theorem dX7_letterAt_6 : decode cX7_letterAt 6 = .ok (.getfield 23, 3) := by decide +kernel
theorem dX7_letterAt_9 : decode cX7_letterAt 9 = .ok (.if_icmp .ge 12, 3) := by decide +kernel
theorem dX7_letterAt_12 : decode cX7_letterAt 12 = .ok (.aload_n 0, 1) := by decide +kernel
theorem dX7_letterAt_13 : decode cX7_letterAt 13 = .ok (.getfield 9, 3) := by decide +kernel
theorem dX7_letterAt_16 : decode cX7_letterAt 16 = .ok (.iload_n 1, 1) := by decide +kernel
theorem dX7_letterAt_17 : decode cX7_letterAt 17 = .ok (.iaload, 1) := by decide +kernel
theorem dX7_letterAt_18 : decode cX7_letterAt 18 = .ok (.goto 4, 3) := by decide +kernel
theorem dX7_letterAt_21 : decode cX7_letterAt 21 = .ok (.iconst (-1), 1) := by decide +kernel
theorem dX7_letterAt_22 : decode cX7_letterAt 22 = .ok (.ireturn, 1) := by decide +kernel
theorem dX7_spotOf_0 : decode cX7_spotOf 0 = .ok (.iconst 0, 1) := by decide +kernel
theorem dX7_spotOf_1 : decode cX7_spotOf 1 = .ok (.istore_n 2, 1) := by decide +kernel
theorem dX7_spotOf_2 : decode cX7_spotOf 2 = .ok (.iload_n 2, 1) := by decide +kernel
theorem dX7_spotOf_3 : decode cX7_spotOf 3 = .ok (.aload_n 0, 1) := by decide +kernel
theorem dX7_spotOf_4 : decode cX7_spotOf 4 = .ok (.getfield 23, 3) := by decide +kernel
theorem dX7_spotOf_7 : decode cX7_spotOf 7 = .ok (.if_icmp .ge 21, 3) := by decide +kernel
theorem dX7_spotOf_10 : decode cX7_spotOf 10 = .ok (.aload_n 0, 1) := by decide +kernel
theorem dX7_spotOf_11 : decode cX7_spotOf 11 = .ok (.getfield 9, 3) := by decide +kernel
theorem dX7_spotOf_14 : decode cX7_spotOf 14 = .ok (.iload_n 2, 1) := by decide +kernel
theorem dX7_spotOf_15 : decode cX7_spotOf 15 = .ok (.iaload, 1) := by decide +kernel
theorem dX7_spotOf_16 : decode cX7_spotOf 16 = .ok (.iload_n 1, 1) := by decide +kernel
theorem dX7_spotOf_17 : decode cX7_spotOf 17 = .ok (.if_icmp .ne 5, 3) := by decide +kernel
theorem dX7_spotOf_20 : decode cX7_spotOf 20 = .ok (.iload_n 2, 1) := by decide +kernel
theorem dX7_spotOf_21 : decode cX7_spotOf 21 = .ok (.ireturn, 1) := by decide +kernel
theorem dX7_spotOf_22 : decode cX7_spotOf 22 = .ok (.iinc 2 1, 3) := by decide +kernel
theorem dX7_spotOf_25 : decode cX7_spotOf 25 = .ok (.goto (-23), 3) := by decide +kernel
theorem dX7_spotOf_28 : decode cX7_spotOf 28 = .ok (.aload_n 0, 1) := by decide +kernel
theorem dX7_spotOf_29 : decode cX7_spotOf 29 = .ok (.getfield 23, 3) := by decide +kernel
theorem dX7_spotOf_32 : decode cX7_spotOf 32 = .ok (.ireturn, 1) := by decide +kernel
theorem dX7_nearestShownAhead_0 : decode cX7_nearestShownAhead 0 = .ok (.iload_n 1, 1) := by decide +kernel
theorem dX7_nearestShownAhead_1 : decode cX7_nearestShownAhead 1 = .ok (.iconst 1, 1) := by decide +kernel
theorem dX7_nearestShownAhead_2 : decode cX7_nearestShownAhead 2 = .ok (.isub, 1) := by decide +kernel
theorem dX7_nearestShownAhead_3 : decode cX7_nearestShownAhead 3 = .ok (.istore_n 2, 1) := by decide +kernel
theorem dX7_nearestShownAhead_4 : decode cX7_nearestShownAhead 4 = .ok (.iload_n 2, 1) := by decide +kernel
theorem dX7_nearestShownAhead_5 : decode cX7_nearestShownAhead 5 = .ok (.ifCond .lt 27, 3) := by decide +kernel
theorem dX7_nearestShownAhead_8 : decode cX7_nearestShownAhead 8 = .ok (.aload_n 0, 1) := by decide +kernel
theorem dX7_nearestShownAhead_9 : decode cX7_nearestShownAhead 9 = .ok (.aload_n 0, 1) := by decide +kernel
theorem dX7_nearestShownAhead_10 : decode cX7_nearestShownAhead 10 = .ok (.iload_n 2, 1) := by decide +kernel
theorem dX7_nearestShownAhead_11 : decode cX7_nearestShownAhead 11 = .ok (.invokevirtual 31, 3) := by decide +kernel
theorem dX7_nearestShownAhead_14 : decode cX7_nearestShownAhead 14 = .ok (.invokevirtual 35, 3) := by decide +kernel
theorem dX7_nearestShownAhead_17 : decode cX7_nearestShownAhead 17 = .ok (.ifCond .eq 9, 3) := by decide +kernel
theorem dX7_nearestShownAhead_20 : decode cX7_nearestShownAhead 20 = .ok (.aload_n 0, 1) := by decide +kernel
theorem dX7_nearestShownAhead_21 : decode cX7_nearestShownAhead 21 = .ok (.iload_n 2, 1) := by decide +kernel
theorem dX7_nearestShownAhead_22 : decode cX7_nearestShownAhead 22 = .ok (.invokevirtual 31, 3) := by decide +kernel
theorem dX7_nearestShownAhead_25 : decode cX7_nearestShownAhead 25 = .ok (.ireturn, 1) := by decide +kernel
theorem dX7_nearestShownAhead_26 : decode cX7_nearestShownAhead 26 = .ok (.iinc 2 (-1), 3) := by decide +kernel
theorem dX7_nearestShownAhead_29 : decode cX7_nearestShownAhead 29 = .ok (.goto (-25), 3) := by decide +kernel
theorem dX7_nearestShownAhead_32 : decode cX7_nearestShownAhead 32 = .ok (.iconst (-1), 1) := by decide +kernel
theorem dX7_nearestShownAhead_33 : decode cX7_nearestShownAhead 33 = .ok (.ireturn, 1) := by decide +kernel
theorem dX7_nearestShownFrom_0 : decode cX7_nearestShownFrom 0 = .ok (.iload_n 1, 1) := by decide +kernel
theorem dX7_nearestShownFrom_1 : decode cX7_nearestShownFrom 1 = .ok (.istore_n 2, 1) := by decide +kernel
theorem dX7_nearestShownFrom_2 : decode cX7_nearestShownFrom 2 = .ok (.iload_n 2, 1) := by decide +kernel
theorem dX7_nearestShownFrom_3 : decode cX7_nearestShownFrom 3 = .ok (.aload_n 0, 1) := by decide +kernel
theorem dX7_nearestShownFrom_4 : decode cX7_nearestShownFrom 4 = .ok (.getfield 23, 3) := by decide +kernel
theorem dX7_nearestShownFrom_7 : decode cX7_nearestShownFrom 7 = .ok (.if_icmp .ge 27, 3) := by decide +kernel
theorem dX7_nearestShownFrom_10 : decode cX7_nearestShownFrom 10 = .ok (.aload_n 0, 1) := by decide +kernel
theorem dX7_nearestShownFrom_11 : decode cX7_nearestShownFrom 11 = .ok (.aload_n 0, 1) := by decide +kernel
theorem dX7_nearestShownFrom_12 : decode cX7_nearestShownFrom 12 = .ok (.iload_n 2, 1) := by decide +kernel
theorem dX7_nearestShownFrom_13 : decode cX7_nearestShownFrom 13 = .ok (.invokevirtual 31, 3) := by decide +kernel
theorem dX7_nearestShownFrom_16 : decode cX7_nearestShownFrom 16 = .ok (.invokevirtual 35, 3) := by decide +kernel
theorem dX7_nearestShownFrom_19 : decode cX7_nearestShownFrom 19 = .ok (.ifCond .eq 9, 3) := by decide +kernel
theorem dX7_nearestShownFrom_22 : decode cX7_nearestShownFrom 22 = .ok (.aload_n 0, 1) := by decide +kernel
theorem dX7_nearestShownFrom_23 : decode cX7_nearestShownFrom 23 = .ok (.iload_n 2, 1) := by decide +kernel
theorem dX7_nearestShownFrom_24 : decode cX7_nearestShownFrom 24 = .ok (.invokevirtual 31, 3) := by decide +kernel
theorem dX7_nearestShownFrom_27 : decode cX7_nearestShownFrom 27 = .ok (.ireturn, 1) := by decide +kernel
theorem dX7_nearestShownFrom_28 : decode cX7_nearestShownFrom 28 = .ok (.iinc 2 1, 3) := by decide +kernel
theorem dX7_nearestShownFrom_31 : decode cX7_nearestShownFrom 31 = .ok (.goto (-29), 3) := by decide +kernel
theorem dX7_nearestShownFrom_34 : decode cX7_nearestShownFrom 34 = .ok (.iconst (-1), 1) := by decide +kernel
theorem dX7_nearestShownFrom_35 : decode cX7_nearestShownFrom 35 = .ok (.ireturn, 1) := by decide +kernel
theorem dX7_shownCount_0 : decode cX7_shownCount 0 = .ok (.aload_n 0, 1) := by decide +kernel
theorem dX7_shownCount_1 : decode cX7_shownCount 1 = .ok (.aload_n 0, 1) := by decide +kernel
theorem dX7_shownCount_2 : decode cX7_shownCount 2 = .ok (.getfield 23, 3) := by decide +kernel
theorem dX7_shownCount_5 : decode cX7_shownCount 5 = .ok (.invokevirtual 38, 3) := by decide +kernel
theorem dX7_shownCount_8 : decode cX7_shownCount 8 = .ok (.ireturn, 1) := by decide +kernel
theorem dX7_shownCountAhead_0 : decode cX7_shownCountAhead 0 = .ok (.iconst 0, 1) := by decide +kernel
theorem dX7_shownCountAhead_1 : decode cX7_shownCountAhead 1 = .ok (.istore_n 2, 1) := by decide +kernel
theorem dX7_shownCountAhead_2 : decode cX7_shownCountAhead 2 = .ok (.iconst 0, 1) := by decide +kernel
theorem dX7_shownCountAhead_3 : decode cX7_shownCountAhead 3 = .ok (.istore_n 3, 1) := by decide +kernel
theorem dX7_shownCountAhead_4 : decode cX7_shownCountAhead 4 = .ok (.iload_n 3, 1) := by decide +kernel
theorem dX7_shownCountAhead_5 : decode cX7_shownCountAhead 5 = .ok (.iload_n 1, 1) := by decide +kernel
theorem dX7_shownCountAhead_6 : decode cX7_shownCountAhead 6 = .ok (.if_icmp .ge 24, 3) := by decide +kernel
theorem dX7_shownCountAhead_9 : decode cX7_shownCountAhead 9 = .ok (.aload_n 0, 1) := by decide +kernel
theorem dX7_shownCountAhead_10 : decode cX7_shownCountAhead 10 = .ok (.aload_n 0, 1) := by decide +kernel
theorem dX7_shownCountAhead_11 : decode cX7_shownCountAhead 11 = .ok (.iload_n 3, 1) := by decide +kernel
theorem dX7_shownCountAhead_12 : decode cX7_shownCountAhead 12 = .ok (.invokevirtual 31, 3) := by decide +kernel
theorem dX7_shownCountAhead_15 : decode cX7_shownCountAhead 15 = .ok (.invokevirtual 35, 3) := by decide +kernel
theorem dX7_shownCountAhead_18 : decode cX7_shownCountAhead 18 = .ok (.ifCond .eq 6, 3) := by decide +kernel
theorem dX7_shownCountAhead_21 : decode cX7_shownCountAhead 21 = .ok (.iinc 2 1, 3) := by decide +kernel
theorem dX7_shownCountAhead_24 : decode cX7_shownCountAhead 24 = .ok (.iinc 3 1, 3) := by decide +kernel
theorem dX7_shownCountAhead_27 : decode cX7_shownCountAhead 27 = .ok (.goto (-23), 3) := by decide +kernel
theorem dX7_shownCountAhead_30 : decode cX7_shownCountAhead 30 = .ok (.iload_n 2, 1) := by decide +kernel
theorem dX7_shownCountAhead_31 : decode cX7_shownCountAhead 31 = .ok (.ireturn, 1) := by decide +kernel
theorem dX7_shownLetter_0 : decode cX7_shownLetter 0 = .ok (.iconst 0, 1) := by decide +kernel
theorem dX7_shownLetter_1 : decode cX7_shownLetter 1 = .ok (.istore_n 2, 1) := by decide +kernel
theorem dX7_shownLetter_2 : decode cX7_shownLetter 2 = .ok (.iconst 0, 1) := by decide +kernel
theorem dX7_shownLetter_3 : decode cX7_shownLetter 3 = .ok (.istore_n 3, 1) := by decide +kernel
theorem dX7_shownLetter_4 : decode cX7_shownLetter 4 = .ok (.iload_n 3, 1) := by decide +kernel
theorem dX7_shownLetter_5 : decode cX7_shownLetter 5 = .ok (.aload_n 0, 1) := by decide +kernel
theorem dX7_shownLetter_6 : decode cX7_shownLetter 6 = .ok (.getfield 23, 3) := by decide +kernel
theorem dX7_shownLetter_9 : decode cX7_shownLetter 9 = .ok (.if_icmp .ge 37, 3) := by decide +kernel
theorem dX7_shownLetter_12 : decode cX7_shownLetter 12 = .ok (.aload_n 0, 1) := by decide +kernel
theorem dX7_shownLetter_13 : decode cX7_shownLetter 13 = .ok (.aload_n 0, 1) := by decide +kernel
theorem dX7_shownLetter_14 : decode cX7_shownLetter 14 = .ok (.getfield 9, 3) := by decide +kernel
theorem dX7_shownLetter_17 : decode cX7_shownLetter 17 = .ok (.iload_n 3, 1) := by decide +kernel
theorem dX7_shownLetter_18 : decode cX7_shownLetter 18 = .ok (.iaload, 1) := by decide +kernel
theorem dX7_shownLetter_19 : decode cX7_shownLetter 19 = .ok (.invokevirtual 35, 3) := by decide +kernel
theorem dX7_shownLetter_22 : decode cX7_shownLetter 22 = .ok (.ifCond .eq 18, 3) := by decide +kernel
theorem dX7_shownLetter_25 : decode cX7_shownLetter 25 = .ok (.iload_n 2, 1) := by decide +kernel
theorem dX7_shownLetter_26 : decode cX7_shownLetter 26 = .ok (.iload_n 1, 1) := by decide +kernel
theorem dX7_shownLetter_27 : decode cX7_shownLetter 27 = .ok (.if_icmp .ne 10, 3) := by decide +kernel
theorem dX7_shownLetter_30 : decode cX7_shownLetter 30 = .ok (.aload_n 0, 1) := by decide +kernel
theorem dX7_shownLetter_31 : decode cX7_shownLetter 31 = .ok (.getfield 9, 3) := by decide +kernel
theorem dX7_shownLetter_34 : decode cX7_shownLetter 34 = .ok (.iload_n 3, 1) := by decide +kernel
theorem dX7_shownLetter_35 : decode cX7_shownLetter 35 = .ok (.iaload, 1) := by decide +kernel
theorem dX7_shownLetter_36 : decode cX7_shownLetter 36 = .ok (.ireturn, 1) := by decide +kernel
theorem dX7_shownLetter_37 : decode cX7_shownLetter 37 = .ok (.iinc 2 1, 3) := by decide +kernel
theorem dX7_shownLetter_40 : decode cX7_shownLetter 40 = .ok (.iinc 3 1, 3) := by decide +kernel
theorem dX7_shownLetter_43 : decode cX7_shownLetter 43 = .ok (.goto (-39), 3) := by decide +kernel
theorem dX7_shownLetter_46 : decode cX7_shownLetter 46 = .ok (.iconst (-1), 1) := by decide +kernel
theorem dX7_shownLetter_47 : decode cX7_shownLetter 47 = .ok (.ireturn, 1) := by decide +kernel
theorem dX7_put_0 : decode cX7_put 0 = .ok (.aload_n 0, 1) := by decide +kernel
theorem dX7_put_1 : decode cX7_put 1 = .ok (.invokevirtual 41, 3) := by decide +kernel
theorem dX7_put_4 : decode cX7_put 4 = .ok (.ifCond .ne 15, 3) := by decide +kernel
theorem dX7_put_7 : decode cX7_put 7 = .ok (.iload_n 1, 1) := by decide +kernel
theorem dX7_put_8 : decode cX7_put 8 = .ok (.ifCond .lt 11, 3) := by decide +kernel
theorem dX7_put_11 : decode cX7_put 11 = .ok (.iload_n 1, 1) := by decide +kernel
theorem dX7_put_12 : decode cX7_put 12 = .ok (.aload_n 0, 1) := by decide +kernel
theorem dX7_put_13 : decode cX7_put 13 = .ok (.getfield 23, 3) := by decide +kernel
theorem dX7_put_16 : decode cX7_put 16 = .ok (.if_icmp .le 4, 3) := by decide +kernel
theorem dX7_put_19 : decode cX7_put 19 = .ok (.return_, 1) := by decide +kernel
theorem dX7_put_20 : decode cX7_put 20 = .ok (.aload_n 0, 1) := by decide +kernel
theorem dX7_put_21 : decode cX7_put 21 = .ok (.getfield 9, 3) := by decide +kernel
theorem dX7_put_24 : decode cX7_put 24 = .ok (.iload_n 1, 1) := by decide +kernel
theorem dX7_put_25 : decode cX7_put 25 = .ok (.aload_n 0, 1) := by decide +kernel
theorem dX7_put_26 : decode cX7_put 26 = .ok (.getfield 9, 3) := by decide +kernel
theorem dX7_put_29 : decode cX7_put 29 = .ok (.iload_n 1, 1) := by decide +kernel
theorem dX7_put_30 : decode cX7_put 30 = .ok (.iconst 1, 1) := by decide +kernel
theorem dX7_put_31 : decode cX7_put 31 = .ok (.iadd, 1) := by decide +kernel
theorem dX7_put_32 : decode cX7_put 32 = .ok (.aload_n 0, 1) := by decide +kernel
theorem dX7_put_33 : decode cX7_put 33 = .ok (.getfield 23, 3) := by decide +kernel
theorem dX7_put_36 : decode cX7_put 36 = .ok (.iload_n 1, 1) := by decide +kernel
theorem dX7_put_37 : decode cX7_put 37 = .ok (.isub, 1) := by decide +kernel
theorem dX7_put_38 : decode cX7_put 38 = .ok (.invokestatic 45, 3) := by decide +kernel
theorem dX7_put_41 : decode cX7_put 41 = .ok (.aload_n 0, 1) := by decide +kernel
theorem dX7_put_42 : decode cX7_put 42 = .ok (.getfield 9, 3) := by decide +kernel
theorem dX7_put_45 : decode cX7_put 45 = .ok (.iload_n 1, 1) := by decide +kernel
theorem dX7_put_46 : decode cX7_put 46 = .ok (.aload_n 0, 1) := by decide +kernel
theorem dX7_put_47 : decode cX7_put 47 = .ok (.getfield 23, 3) := by decide +kernel
theorem dX7_put_50 : decode cX7_put 50 = .ok (.iastore, 1) := by decide +kernel
theorem dX7_put_51 : decode cX7_put 51 = .ok (.aload_n 0, 1) := by decide +kernel
theorem dX7_put_52 : decode cX7_put 52 = .ok (.getfield 15, 3) := by decide +kernel
theorem dX7_put_55 : decode cX7_put 55 = .ok (.aload_n 0, 1) := by decide +kernel
theorem dX7_put_56 : decode cX7_put 56 = .ok (.getfield 23, 3) := by decide +kernel
theorem dX7_put_59 : decode cX7_put 59 = .ok (.iload_n 2, 1) := by decide +kernel
theorem dX7_put_60 : decode cX7_put 60 = .ok (.castore, 1) := by decide +kernel
theorem dX7_put_61 : decode cX7_put 61 = .ok (.aload_n 0, 1) := by decide +kernel
theorem dX7_put_62 : decode cX7_put 62 = .ok (.getfield 19, 3) := by decide +kernel
theorem dX7_put_65 : decode cX7_put 65 = .ok (.aload_n 0, 1) := by decide +kernel
theorem dX7_put_66 : decode cX7_put 66 = .ok (.getfield 23, 3) := by decide +kernel
theorem dX7_put_69 : decode cX7_put 69 = .ok (.iconst 1, 1) := by decide +kernel
theorem dX7_put_70 : decode cX7_put 70 = .ok (.bastore, 1) := by decide +kernel
theorem dX7_put_71 : decode cX7_put 71 = .ok (.aload_n 0, 1) := by decide +kernel
theorem dX7_put_72 : decode cX7_put 72 = .ok (.dup, 1) := by decide +kernel
theorem dX7_put_73 : decode cX7_put 73 = .ok (.getfield 23, 3) := by decide +kernel
theorem dX7_put_76 : decode cX7_put 76 = .ok (.iconst 1, 1) := by decide +kernel
theorem dX7_put_77 : decode cX7_put 77 = .ok (.iadd, 1) := by decide +kernel
theorem dX7_put_78 : decode cX7_put 78 = .ok (.putfield 23, 3) := by decide +kernel
theorem dX7_put_81 : decode cX7_put 81 = .ok (.return_, 1) := by decide +kernel
theorem dX7_setThere_0 : decode cX7_setThere 0 = .ok (.aload_n 0, 1) := by decide +kernel
theorem dX7_setThere_1 : decode cX7_setThere 1 = .ok (.iload_n 1, 1) := by decide +kernel
theorem dX7_setThere_2 : decode cX7_setThere 2 = .ok (.invokevirtual 27, 3) := by decide +kernel
theorem dX7_setThere_5 : decode cX7_setThere 5 = .ok (.ifCond .eq 10, 3) := by decide +kernel
theorem dX7_setThere_8 : decode cX7_setThere 8 = .ok (.aload_n 0, 1) := by decide +kernel
theorem dX7_setThere_9 : decode cX7_setThere 9 = .ok (.getfield 19, 3) := by decide +kernel
theorem dX7_setThere_12 : decode cX7_setThere 12 = .ok (.iload_n 1, 1) := by decide +kernel
theorem dX7_setThere_13 : decode cX7_setThere 13 = .ok (.iload_n 2, 1) := by decide +kernel
theorem dX7_setThere_14 : decode cX7_setThere 14 = .ok (.bastore, 1) := by decide +kernel
theorem dX7_setThere_15 : decode cX7_setThere 15 = .ok (.return_, 1) := by decide +kernel
theorem dX7_setSign_0 : decode cX7_setSign 0 = .ok (.aload_n 0, 1) := by decide +kernel
theorem dX7_setSign_1 : decode cX7_setSign 1 = .ok (.iload_n 1, 1) := by decide +kernel
theorem dX7_setSign_2 : decode cX7_setSign 2 = .ok (.invokevirtual 27, 3) := by decide +kernel
theorem dX7_setSign_5 : decode cX7_setSign 5 = .ok (.ifCond .eq 10, 3) := by decide +kernel
theorem dX7_setSign_8 : decode cX7_setSign 8 = .ok (.aload_n 0, 1) := by decide +kernel
theorem dX7_setSign_9 : decode cX7_setSign 9 = .ok (.getfield 15, 3) := by decide +kernel
theorem dX7_setSign_12 : decode cX7_setSign 12 = .ok (.iload_n 1, 1) := by decide +kernel
theorem dX7_setSign_13 : decode cX7_setSign 13 = .ok (.iload_n 2, 1) := by decide +kernel
theorem dX7_setSign_14 : decode cX7_setSign 14 = .ok (.castore, 1) := by decide +kernel
theorem dX7_setSign_15 : decode cX7_setSign 15 = .ok (.return_, 1) := by decide +kernel
theorem dX8_init_0 : decode cX8_init 0 = .ok (.aload_n 0, 1) := by decide +kernel
theorem dX8_init_1 : decode cX8_init 1 = .ok (.invokespecial 3, 3) := by decide +kernel
theorem dX8_init_4 : decode cX8_init 4 = .ok (.aload_n 0, 1) := by decide +kernel
theorem dX8_init_5 : decode cX8_init 5 = .ok (.iload_n 1, 1) := by decide +kernel
theorem dX8_init_6 : decode cX8_init 6 = .ok (.putfield 9, 3) := by decide +kernel
theorem dX8_init_9 : decode cX8_init 9 = .ok (.aload_n 0, 1) := by decide +kernel
theorem dX8_init_10 : decode cX8_init 10 = .ok (.iload_n 2, 1) := by decide +kernel
theorem dX8_init_11 : decode cX8_init 11 = .ok (.putfield 15, 3) := by decide +kernel
theorem dX8_init_14 : decode cX8_init 14 = .ok (.aload_n 0, 1) := by decide +kernel
theorem dX8_init_15 : decode cX8_init 15 = .ok (.aload_n 3, 1) := by decide +kernel
theorem dX8_init_16 : decode cX8_init 16 = .ok (.putfield 18, 3) := by decide +kernel
theorem dX8_init_19 : decode cX8_init 19 = .ok (.aload_n 0, 1) := by decide +kernel
theorem dX8_init_20 : decode cX8_init 20 = .ok (.aload 4, 2) := by decide +kernel
theorem dX8_init_22 : decode cX8_init 22 = .ok (.putfield 22, 3) := by decide +kernel
theorem dX8_init_25 : decode cX8_init 25 = .ok (.return_, 1) := by decide +kernel
theorem dX8_isReady_0 : decode cX8_isReady 0 = .ok (.aload_n 0, 1) := by decide +kernel
theorem dX8_isReady_1 : decode cX8_isReady 1 = .ok (.getfield 22, 3) := by decide +kernel
theorem dX8_isReady_4 : decode cX8_isReady 4 = .ok (.ifnull 13, 3) := by decide +kernel
theorem dX8_isReady_7 : decode cX8_isReady 7 = .ok (.aload_n 0, 1) := by decide +kernel
theorem dX8_isReady_8 : decode cX8_isReady 8 = .ok (.getfield 22, 3) := by decide +kernel
theorem dX8_isReady_11 : decode cX8_isReady 11 = .ok (.getfield 26, 3) := by decide +kernel
theorem dX8_isReady_14 : decode cX8_isReady 14 = .ok (.ifCond .eq 21, 3) := by decide +kernel
theorem dX8_isReady_17 : decode cX8_isReady 17 = .ok (.aload_n 0, 1) := by decide +kernel
theorem dX8_isReady_18 : decode cX8_isReady 18 = .ok (.getfield 18, 3) := by decide +kernel
theorem dX8_isReady_21 : decode cX8_isReady 21 = .ok (.aload_n 0, 1) := by decide +kernel
theorem dX8_isReady_22 : decode cX8_isReady 22 = .ok (.getfield 15, 3) := by decide +kernel
theorem dX8_isReady_25 : decode cX8_isReady 25 = .ok (.invokevirtual 31, 3) := by decide +kernel
theorem dX8_isReady_28 : decode cX8_isReady 28 = .ok (.ifCond .eq 7, 3) := by decide +kernel
theorem dX8_isReady_31 : decode cX8_isReady 31 = .ok (.iconst 1, 1) := by decide +kernel
theorem dX8_isReady_32 : decode cX8_isReady 32 = .ok (.goto 4, 3) := by decide +kernel
theorem dX8_isReady_35 : decode cX8_isReady 35 = .ok (.iconst 0, 1) := by decide +kernel
theorem dX8_isReady_36 : decode cX8_isReady 36 = .ok (.ireturn, 1) := by decide +kernel
theorem dX9_init_0 : decode cX9_init 0 = .ok (.aload_n 0, 1) := by decide +kernel
theorem dX9_init_1 : decode cX9_init 1 = .ok (.invokespecial 3, 3) := by decide +kernel
theorem dX9_init_4 : decode cX9_init 4 = .ok (.aload_n 0, 1) := by decide +kernel
theorem dX9_init_5 : decode cX9_init 5 = .ok (.new 9, 3) := by decide +kernel
theorem dX9_init_8 : decode cX9_init 8 = .ok (.dup, 1) := by decide +kernel
theorem dX9_init_9 : decode cX9_init 9 = .ok (.invokespecial 11, 3) := by decide +kernel
theorem dX9_init_12 : decode cX9_init 12 = .ok (.putfield 12, 3) := by decide +kernel
theorem dX9_init_15 : decode cX9_init 15 = .ok (.aload_n 0, 1) := by decide +kernel
theorem dX9_init_16 : decode cX9_init 16 = .ok (.sipush 150, 3) := by decide +kernel
theorem dX9_init_19 : decode cX9_init 19 = .ok (.newarray .char, 2) := by decide +kernel
theorem dX9_init_21 : decode cX9_init 21 = .ok (.putfield 18, 3) := by decide +kernel
theorem dX9_init_24 : decode cX9_init 24 = .ok (.aload_n 0, 1) := by decide +kernel
theorem dX9_init_25 : decode cX9_init 25 = .ok (.iconst (-1), 1) := by decide +kernel
theorem dX9_init_26 : decode cX9_init 26 = .ok (.putfield 22, 3) := by decide +kernel
theorem dX9_init_29 : decode cX9_init 29 = .ok (.aload_n 0, 1) := by decide +kernel
theorem dX9_init_30 : decode cX9_init 30 = .ok (.iconst (-1), 1) := by decide +kernel
theorem dX9_init_31 : decode cX9_init 31 = .ok (.putfield 26, 3) := by decide +kernel
theorem dX9_init_34 : decode cX9_init 34 = .ok (.aload_n 0, 1) := by decide +kernel
theorem dX9_init_35 : decode cX9_init 35 = .ok (.new 9, 3) := by decide +kernel
theorem dX9_init_38 : decode cX9_init 38 = .ok (.dup, 1) := by decide +kernel
theorem dX9_init_39 : decode cX9_init 39 = .ok (.invokespecial 11, 3) := by decide +kernel
theorem dX9_init_42 : decode cX9_init 42 = .ok (.putfield 29, 3) := by decide +kernel
theorem dX9_init_45 : decode cX9_init 45 = .ok (.aload_n 0, 1) := by decide +kernel
theorem dX9_init_46 : decode cX9_init 46 = .ok (.new 32, 3) := by decide +kernel
theorem dX9_init_49 : decode cX9_init 49 = .ok (.dup, 1) := by decide +kernel
theorem dX9_init_50 : decode cX9_init 50 = .ok (.invokespecial 34, 3) := by decide +kernel
theorem dX9_init_53 : decode cX9_init 53 = .ok (.putfield 35, 3) := by decide +kernel
theorem dX9_init_56 : decode cX9_init 56 = .ok (.aload_n 0, 1) := by decide +kernel
theorem dX9_init_57 : decode cX9_init 57 = .ok (.iconst 5, 1) := by decide +kernel
theorem dX9_init_58 : decode cX9_init 58 = .ok (.newarray .int, 2) := by decide +kernel
theorem dX9_init_60 : decode cX9_init 60 = .ok (.putfield 39, 3) := by decide +kernel
theorem dX9_init_63 : decode cX9_init 63 = .ok (.aload_n 0, 1) := by decide +kernel
theorem dX9_init_64 : decode cX9_init 64 = .ok (.iload_n 1, 1) := by decide +kernel
theorem dX9_init_65 : decode cX9_init 65 = .ok (.putfield 43, 3) := by decide +kernel
theorem dX9_init_68 : decode cX9_init 68 = .ok (.iconst 0, 1) := by decide +kernel
theorem dX9_init_69 : decode cX9_init 69 = .ok (.istore_n 2, 1) := by decide +kernel
theorem dX9_init_70 : decode cX9_init 70 = .ok (.iload_n 2, 1) := by decide +kernel
theorem dX9_init_71 : decode cX9_init 71 = .ok (.iconst 5, 1) := by decide +kernel
theorem dX9_init_72 : decode cX9_init 72 = .ok (.if_icmp .ge 16, 3) := by decide +kernel
theorem dX9_init_75 : decode cX9_init 75 = .ok (.aload_n 0, 1) := by decide +kernel
theorem dX9_init_76 : decode cX9_init 76 = .ok (.getfield 39, 3) := by decide +kernel
theorem dX9_init_79 : decode cX9_init 79 = .ok (.iload_n 2, 1) := by decide +kernel
theorem dX9_init_80 : decode cX9_init 80 = .ok (.iconst (-1), 1) := by decide +kernel
theorem dX9_init_81 : decode cX9_init 81 = .ok (.iastore, 1) := by decide +kernel
theorem dX9_init_82 : decode cX9_init 82 = .ok (.iinc 2 1, 3) := by decide +kernel
theorem dX9_init_85 : decode cX9_init 85 = .ok (.goto (-15), 3) := by decide +kernel
theorem dX9_init_88 : decode cX9_init 88 = .ok (.return_, 1) := by decide +kernel
theorem dX9_isFreeFor_0 : decode cX9_isFreeFor 0 = .ok (.aload_n 0, 1) := by decide +kernel
theorem dX9_isFreeFor_1 : decode cX9_isFreeFor 1 = .ok (.getfield 22, 3) := by decide +kernel
theorem dX9_isFreeFor_4 : decode cX9_isFreeFor 4 = .ok (.iconst (-1), 1) := by decide +kernel
theorem dX9_isFreeFor_5 : decode cX9_isFreeFor 5 = .ok (.if_icmp .eq 11, 3) := by decide +kernel
theorem dX9_isFreeFor_8 : decode cX9_isFreeFor 8 = .ok (.aload_n 0, 1) := by decide +kernel
theorem dX9_isFreeFor_9 : decode cX9_isFreeFor 9 = .ok (.getfield 22, 3) := by decide +kernel
theorem dX9_isFreeFor_12 : decode cX9_isFreeFor 12 = .ok (.iload_n 1, 1) := by decide +kernel
theorem dX9_isFreeFor_13 : decode cX9_isFreeFor 13 = .ok (.if_icmp .ne 7, 3) := by decide +kernel
theorem dX9_isFreeFor_16 : decode cX9_isFreeFor 16 = .ok (.iconst 1, 1) := by decide +kernel
theorem dX9_isFreeFor_17 : decode cX9_isFreeFor 17 = .ok (.goto 4, 3) := by decide +kernel
theorem dX9_isFreeFor_20 : decode cX9_isFreeFor 20 = .ok (.iconst 0, 1) := by decide +kernel
theorem dX9_isFreeFor_21 : decode cX9_isFreeFor 21 = .ok (.ireturn, 1) := by decide +kernel
theorem dX9_cursorPlace_0 : decode cX9_cursorPlace 0 = .ok (.aload_n 0, 1) := by decide +kernel
theorem dX9_cursorPlace_1 : decode cX9_cursorPlace 1 = .ok (.getfield 12, 3) := by decide +kernel
theorem dX9_cursorPlace_4 : decode cX9_cursorPlace 4 = .ok (.aload_n 0, 1) := by decide +kernel
theorem dX9_cursorPlace_5 : decode cX9_cursorPlace 5 = .ok (.iload_n 1, 1) := by decide +kernel
theorem dX9_cursorPlace_6 : decode cX9_cursorPlace 6 = .ok (.invokevirtual 46, 3) := by decide +kernel
theorem dX9_cursorPlace_9 : decode cX9_cursorPlace 9 = .ok (.invokevirtual 50, 3) := by decide +kernel
theorem dX9_cursorPlace_12 : decode cX9_cursorPlace 12 = .ok (.ireturn, 1) := by decide +kernel
theorem dX9_letterAheadOfCursor_0 : decode cX9_letterAheadOfCursor 0 = .ok (.aload_n 0, 1) := by decide +kernel
theorem dX9_letterAheadOfCursor_1 : decode cX9_letterAheadOfCursor 1 = .ok (.getfield 12, 3) := by decide +kernel
theorem dX9_letterAheadOfCursor_4 : decode cX9_letterAheadOfCursor 4 = .ok (.aload_n 0, 1) := by decide +kernel
theorem dX9_letterAheadOfCursor_5 : decode cX9_letterAheadOfCursor 5 = .ok (.iload_n 1, 1) := by decide +kernel
theorem dX9_letterAheadOfCursor_6 : decode cX9_letterAheadOfCursor 6 = .ok (.invokevirtual 46, 3) := by decide +kernel
theorem dX9_letterAheadOfCursor_9 : decode cX9_letterAheadOfCursor 9 = .ok (.invokevirtual 53, 3) := by decide +kernel
theorem dX9_letterAheadOfCursor_12 : decode cX9_letterAheadOfCursor 12 = .ok (.ireturn, 1) := by decide +kernel
theorem dX9_setCursor_0 : decode cX9_setCursor 0 = .ok (.iload_n 1, 1) := by decide +kernel
theorem dX9_setCursor_1 : decode cX9_setCursor 1 = .ok (.ifCond .lt 15, 3) := by decide +kernel
theorem dX9_setCursor_4 : decode cX9_setCursor 4 = .ok (.iload_n 1, 1) := by decide +kernel
theorem dX9_setCursor_5 : decode cX9_setCursor 5 = .ok (.iconst 5, 1) := by decide +kernel
theorem dX9_setCursor_6 : decode cX9_setCursor 6 = .ok (.if_icmp .ge 10, 3) := by decide +kernel
theorem dX9_setCursor_9 : decode cX9_setCursor 9 = .ok (.aload_n 0, 1) := by decide +kernel
theorem dX9_setCursor_10 : decode cX9_setCursor 10 = .ok (.getfield 39, 3) := by decide +kernel
theorem dX9_setCursor_13 : decode cX9_setCursor 13 = .ok (.iload_n 1, 1) := by decide +kernel
theorem dX9_setCursor_14 : decode cX9_setCursor 14 = .ok (.iload_n 2, 1) := by decide +kernel
theorem dX9_setCursor_15 : decode cX9_setCursor 15 = .ok (.iastore, 1) := by decide +kernel
theorem dX9_setCursor_16 : decode cX9_setCursor 16 = .ok (.return_, 1) := by decide +kernel
theorem dX9_hasCursorAt_0 : decode cX9_hasCursorAt 0 = .ok (.iconst 0, 1) := by decide +kernel
theorem dX9_hasCursorAt_1 : decode cX9_hasCursorAt 1 = .ok (.istore_n 2, 1) := by decide +kernel
theorem dX9_hasCursorAt_2 : decode cX9_hasCursorAt 2 = .ok (.iload_n 2, 1) := by decide +kernel
theorem dX9_hasCursorAt_3 : decode cX9_hasCursorAt 3 = .ok (.iconst 5, 1) := by decide +kernel
theorem dX9_hasCursorAt_4 : decode cX9_hasCursorAt 4 = .ok (.if_icmp .ge 21, 3) := by decide +kernel
theorem dX9_hasCursorAt_7 : decode cX9_hasCursorAt 7 = .ok (.aload_n 0, 1) := by decide +kernel
theorem dX9_hasCursorAt_8 : decode cX9_hasCursorAt 8 = .ok (.getfield 39, 3) := by decide +kernel
theorem dX9_hasCursorAt_11 : decode cX9_hasCursorAt 11 = .ok (.iload_n 2, 1) := by decide +kernel
theorem dX9_hasCursorAt_12 : decode cX9_hasCursorAt 12 = .ok (.iaload, 1) := by decide +kernel
theorem dX9_hasCursorAt_13 : decode cX9_hasCursorAt 13 = .ok (.iload_n 1, 1) := by decide +kernel
theorem dX9_hasCursorAt_14 : decode cX9_hasCursorAt 14 = .ok (.if_icmp .ne 5, 3) := by decide +kernel
theorem dX9_hasCursorAt_17 : decode cX9_hasCursorAt 17 = .ok (.iconst 1, 1) := by decide +kernel
theorem dX9_hasCursorAt_18 : decode cX9_hasCursorAt 18 = .ok (.ireturn, 1) := by decide +kernel
theorem dX9_hasCursorAt_19 : decode cX9_hasCursorAt 19 = .ok (.iinc 2 1, 3) := by decide +kernel
theorem dX9_hasCursorAt_22 : decode cX9_hasCursorAt 22 = .ok (.goto (-20), 3) := by decide +kernel
theorem dX9_hasCursorAt_25 : decode cX9_hasCursorAt 25 = .ok (.iconst 0, 1) := by decide +kernel
theorem dX9_hasCursorAt_26 : decode cX9_hasCursorAt 26 = .ok (.ireturn, 1) := by decide +kernel
theorem dX9_putAheadOfCursor_0 : decode cX9_putAheadOfCursor 0 = .ok (.aload_n 0, 1) := by decide +kernel
theorem dX9_putAheadOfCursor_1 : decode cX9_putAheadOfCursor 1 = .ok (.getfield 12, 3) := by decide +kernel
theorem dX9_putAheadOfCursor_4 : decode cX9_putAheadOfCursor 4 = .ok (.invokevirtual 56, 3) := by decide +kernel
theorem dX9_putAheadOfCursor_7 : decode cX9_putAheadOfCursor 7 = .ok (.istore_n 3, 1) := by decide +kernel
theorem dX9_putAheadOfCursor_8 : decode cX9_putAheadOfCursor 8 = .ok (.aload_n 0, 1) := by decide +kernel
theorem dX9_putAheadOfCursor_9 : decode cX9_putAheadOfCursor 9 = .ok (.new 60, 3) := by decide +kernel
theorem dX9_putAheadOfCursor_12 : decode cX9_putAheadOfCursor 12 = .ok (.dup, 1) := by decide +kernel
theorem dX9_putAheadOfCursor_13 : decode cX9_putAheadOfCursor 13 = .ok (.iconst 0, 1) := by decide +kernel
theorem dX9_putAheadOfCursor_14 : decode cX9_putAheadOfCursor 14 = .ok (.aload_n 0, 1) := by decide +kernel
theorem dX9_putAheadOfCursor_15 : decode cX9_putAheadOfCursor 15 = .ok (.iload_n 1, 1) := by decide +kernel
theorem dX9_putAheadOfCursor_16 : decode cX9_putAheadOfCursor 16 = .ok (.invokevirtual 46, 3) := by decide +kernel
theorem dX9_putAheadOfCursor_19 : decode cX9_putAheadOfCursor 19 = .ok (.iload_n 2, 1) := by decide +kernel
theorem dX9_putAheadOfCursor_20 : decode cX9_putAheadOfCursor 20 = .ok (.invokespecial 62, 3) := by decide +kernel
theorem dX9_putAheadOfCursor_23 : decode cX9_putAheadOfCursor 23 = .ok (.invokevirtual 65, 3) := by decide +kernel
theorem dX9_putAheadOfCursor_26 : decode cX9_putAheadOfCursor 26 = .ok (.aload_n 0, 1) := by decide +kernel
theorem dX9_putAheadOfCursor_27 : decode cX9_putAheadOfCursor 27 = .ok (.dup, 1) := by decide +kernel
theorem dX9_putAheadOfCursor_28 : decode cX9_putAheadOfCursor 28 = .ok (.getfield 69, 3) := by decide +kernel
theorem dX9_putAheadOfCursor_31 : decode cX9_putAheadOfCursor 31 = .ok (.iconst 1, 1) := by decide +kernel
theorem dX9_putAheadOfCursor_32 : decode cX9_putAheadOfCursor 32 = .ok (.iadd, 1) := by decide +kernel
theorem dX9_putAheadOfCursor_33 : decode cX9_putAheadOfCursor 33 = .ok (.putfield 69, 3) := by decide +kernel
theorem dX9_putAheadOfCursor_36 : decode cX9_putAheadOfCursor 36 = .ok (.iload_n 3, 1) := by decide +kernel
theorem dX9_putAheadOfCursor_37 : decode cX9_putAheadOfCursor 37 = .ok (.ireturn, 1) := by decide +kernel
theorem dX9_turn_0 : decode cX9_turn 0 = .ok (.aload_n 0, 1) := by decide +kernel
theorem dX9_turn_1 : decode cX9_turn 1 = .ok (.getfield 12, 3) := by decide +kernel
theorem dX9_turn_4 : decode cX9_turn 4 = .ok (.iload_n 1, 1) := by decide +kernel
theorem dX9_turn_5 : decode cX9_turn 5 = .ok (.invokevirtual 72, 3) := by decide +kernel
theorem dX9_turn_8 : decode cX9_turn 8 = .ok (.iload_n 2, 1) := by decide +kernel
theorem dX9_turn_9 : decode cX9_turn 9 = .ok (.if_icmp .ne 4, 3) := by decide +kernel
theorem dX9_turn_12 : decode cX9_turn 12 = .ok (.return_, 1) := by decide +kernel
theorem dX9_turn_13 : decode cX9_turn 13 = .ok (.iload_n 2, 1) := by decide +kernel
theorem dX9_turn_14 : decode cX9_turn 14 = .ok (.ifCond .eq 20, 3) := by decide +kernel
theorem dX9_turn_17 : decode cX9_turn 17 = .ok (.aload_n 0, 1) := by decide +kernel
theorem dX9_turn_18 : decode cX9_turn 18 = .ok (.new 60, 3) := by decide +kernel
theorem dX9_turn_21 : decode cX9_turn 21 = .ok (.dup, 1) := by decide +kernel
theorem dX9_turn_22 : decode cX9_turn 22 = .ok (.iconst 2, 1) := by decide +kernel
theorem dX9_turn_23 : decode cX9_turn 23 = .ok (.iload_n 1, 1) := by decide +kernel
theorem dX9_turn_24 : decode cX9_turn 24 = .ok (.iconst 0, 1) := by decide +kernel
theorem dX9_turn_25 : decode cX9_turn 25 = .ok (.invokespecial 62, 3) := by decide +kernel
theorem dX9_turn_28 : decode cX9_turn 28 = .ok (.invokevirtual 65, 3) := by decide +kernel
theorem dX9_turn_31 : decode cX9_turn 31 = .ok (.goto 8, 3) := by decide +kernel
theorem dX9_turn_34 : decode cX9_turn 34 = .ok (.aload_n 0, 1) := by decide +kernel
theorem dX9_turn_35 : decode cX9_turn 35 = .ok (.iload_n 1, 1) := by decide +kernel
theorem dX9_turn_36 : decode cX9_turn 36 = .ok (.invokevirtual 76, 3) := by decide +kernel
theorem dX9_turn_39 : decode cX9_turn 39 = .ok (.aload_n 0, 1) := by decide +kernel
theorem dX9_turn_40 : decode cX9_turn 40 = .ok (.dup, 1) := by decide +kernel
theorem dX9_turn_41 : decode cX9_turn 41 = .ok (.getfield 69, 3) := by decide +kernel
theorem dX9_turn_44 : decode cX9_turn 44 = .ok (.iconst 1, 1) := by decide +kernel
theorem dX9_turn_45 : decode cX9_turn 45 = .ok (.iadd, 1) := by decide +kernel
theorem dX9_turn_46 : decode cX9_turn 46 = .ok (.putfield 69, 3) := by decide +kernel
theorem dX9_turn_49 : decode cX9_turn 49 = .ok (.return_, 1) := by decide +kernel
theorem dX9_letGo_0 : decode cX9_letGo 0 = .ok (.aload_n 0, 1) := by decide +kernel
theorem dX9_letGo_1 : decode cX9_letGo 1 = .ok (.new 60, 3) := by decide +kernel
theorem dX9_letGo_4 : decode cX9_letGo 4 = .ok (.dup, 1) := by decide +kernel
theorem dX9_letGo_5 : decode cX9_letGo 5 = .ok (.iconst 1, 1) := by decide +kernel
theorem dX9_letGo_6 : decode cX9_letGo 6 = .ok (.iload_n 1, 1) := by decide +kernel
theorem dX9_letGo_7 : decode cX9_letGo 7 = .ok (.iconst 0, 1) := by decide +kernel
theorem dX9_letGo_8 : decode cX9_letGo 8 = .ok (.invokespecial 62, 3) := by decide +kernel
theorem dX9_letGo_11 : decode cX9_letGo 11 = .ok (.invokevirtual 65, 3) := by decide +kernel
theorem dX9_letGo_14 : decode cX9_letGo 14 = .ok (.aload_n 0, 1) := by decide +kernel
theorem dX9_letGo_15 : decode cX9_letGo 15 = .ok (.getfield 12, 3) := by decide +kernel
theorem dX9_letGo_18 : decode cX9_letGo 18 = .ok (.aload_n 0, 1) := by decide +kernel
theorem dX9_letGo_19 : decode cX9_letGo 19 = .ok (.getfield 12, 3) := by decide +kernel
theorem dX9_letGo_22 : decode cX9_letGo 22 = .ok (.iload_n 1, 1) := by decide +kernel
theorem dX9_letGo_23 : decode cX9_letGo 23 = .ok (.invokevirtual 80, 3) := by decide +kernel
theorem dX9_letGo_26 : decode cX9_letGo 26 = .ok (.invokevirtual 83, 3) := by decide +kernel
theorem dX9_letGo_29 : decode cX9_letGo 29 = .ok (.istore_n 2, 1) := by decide +kernel
theorem dX9_letGo_30 : decode cX9_letGo 30 = .ok (.iconst 0, 1) := by decide +kernel
theorem dX9_letGo_31 : decode cX9_letGo 31 = .ok (.istore_n 3, 1) := by decide +kernel
theorem dX9_letGo_32 : decode cX9_letGo 32 = .ok (.iload_n 3, 1) := by decide +kernel
theorem dX9_letGo_33 : decode cX9_letGo 33 = .ok (.iconst 5, 1) := by decide +kernel
theorem dX9_letGo_34 : decode cX9_letGo 34 = .ok (.if_icmp .ge 26, 3) := by decide +kernel
theorem dX9_letGo_37 : decode cX9_letGo 37 = .ok (.aload_n 0, 1) := by decide +kernel
theorem dX9_letGo_38 : decode cX9_letGo 38 = .ok (.getfield 39, 3) := by decide +kernel
theorem dX9_letGo_41 : decode cX9_letGo 41 = .ok (.iload_n 3, 1) := by decide +kernel
theorem dX9_letGo_42 : decode cX9_letGo 42 = .ok (.iaload, 1) := by decide +kernel
theorem dX9_letGo_43 : decode cX9_letGo 43 = .ok (.iload_n 1, 1) := by decide +kernel
theorem dX9_letGo_44 : decode cX9_letGo 44 = .ok (.if_icmp .ne 10, 3) := by decide +kernel
theorem dX9_letGo_47 : decode cX9_letGo 47 = .ok (.aload_n 0, 1) := by decide +kernel
theorem dX9_letGo_48 : decode cX9_letGo 48 = .ok (.getfield 39, 3) := by decide +kernel
theorem dX9_letGo_51 : decode cX9_letGo 51 = .ok (.iload_n 3, 1) := by decide +kernel
theorem dX9_letGo_52 : decode cX9_letGo 52 = .ok (.iload_n 2, 1) := by decide +kernel
theorem dX9_letGo_53 : decode cX9_letGo 53 = .ok (.iastore, 1) := by decide +kernel
theorem dX9_letGo_54 : decode cX9_letGo 54 = .ok (.iinc 3 1, 3) := by decide +kernel
theorem dX9_letGo_57 : decode cX9_letGo 57 = .ok (.goto (-25), 3) := by decide +kernel
theorem dX9_letGo_60 : decode cX9_letGo 60 = .ok (.return_, 1) := by decide +kernel
theorem dX9_become_0 : decode cX9_become 0 = .ok (.aload_n 0, 1) := by decide +kernel
theorem dX9_become_1 : decode cX9_become 1 = .ok (.new 60, 3) := by decide +kernel
theorem dX9_become_4 : decode cX9_become 4 = .ok (.dup, 1) := by decide +kernel
theorem dX9_become_5 : decode cX9_become 5 = .ok (.iconst 3, 1) := by decide +kernel
theorem dX9_become_6 : decode cX9_become 6 = .ok (.iload_n 1, 1) := by decide +kernel
theorem dX9_become_7 : decode cX9_become 7 = .ok (.iload_n 2, 1) := by decide +kernel
theorem dX9_become_8 : decode cX9_become 8 = .ok (.invokespecial 62, 3) := by decide +kernel
theorem dX9_become_11 : decode cX9_become 11 = .ok (.invokevirtual 65, 3) := by decide +kernel
theorem dX9_become_14 : decode cX9_become 14 = .ok (.return_, 1) := by decide +kernel
theorem dX9_rowAnew_0 : decode cX9_rowAnew 0 = .ok (.aload_n 0, 1) := by decide +kernel
theorem dX9_rowAnew_1 : decode cX9_rowAnew 1 = .ok (.getfield 29, 3) := by decide +kernel
theorem dX9_rowAnew_4 : decode cX9_rowAnew 4 = .ok (.invokevirtual 86, 3) := by decide +kernel
theorem dX9_rowAnew_7 : decode cX9_rowAnew 7 = .ok (.iconst 0, 1) := by decide +kernel
theorem dX9_rowAnew_8 : decode cX9_rowAnew 8 = .ok (.istore_n 1, 1) := by decide +kernel
theorem dX9_rowAnew_9 : decode cX9_rowAnew 9 = .ok (.iload_n 1, 1) := by decide +kernel
theorem dX9_rowAnew_10 : decode cX9_rowAnew 10 = .ok (.aload_n 0, 1) := by decide +kernel
theorem dX9_rowAnew_11 : decode cX9_rowAnew 11 = .ok (.getfield 35, 3) := by decide +kernel
theorem dX9_rowAnew_14 : decode cX9_rowAnew 14 = .ok (.invokeinterface 89 1, 5) := by decide +kernel
theorem dX9_rowAnew_19 : decode cX9_rowAnew 19 = .ok (.if_icmp .ge 29, 3) := by decide +kernel
theorem dX9_rowAnew_22 : decode cX9_rowAnew 22 = .ok (.aload_n 0, 1) := by decide +kernel
theorem dX9_rowAnew_23 : decode cX9_rowAnew 23 = .ok (.getfield 35, 3) := by decide +kernel
theorem dX9_rowAnew_26 : decode cX9_rowAnew 26 = .ok (.iload_n 1, 1) := by decide +kernel
theorem dX9_rowAnew_27 : decode cX9_rowAnew 27 = .ok (.invokeinterface 94 2, 5) := by decide +kernel
theorem dX9_rowAnew_32 : decode cX9_rowAnew 32 = .ok (.checkcast 60, 3) := by decide +kernel
theorem dX9_rowAnew_35 : decode cX9_rowAnew 35 = .ok (.aload_n 0, 1) := by decide +kernel
theorem dX9_rowAnew_36 : decode cX9_rowAnew 36 = .ok (.getfield 29, 3) := by decide +kernel
theorem dX9_rowAnew_39 : decode cX9_rowAnew 39 = .ok (.invokevirtual 98, 3) := by decide +kernel
theorem dX9_rowAnew_42 : decode cX9_rowAnew 42 = .ok (.iinc 1 1, 3) := by decide +kernel
theorem dX9_rowAnew_45 : decode cX9_rowAnew 45 = .ok (.goto (-36), 3) := by decide +kernel
theorem dX9_rowAnew_48 : decode cX9_rowAnew 48 = .ok (.aload_n 0, 1) := by decide +kernel
theorem dX9_rowAnew_49 : decode cX9_rowAnew 49 = .ok (.getfield 29, 3) := by decide +kernel
theorem dX9_rowAnew_52 : decode cX9_rowAnew 52 = .ok (.areturn, 1) := by decide +kernel
theorem dX9_keepAsSaved_0 : decode cX9_keepAsSaved 0 = .ok (.aload_n 0, 1) := by decide +kernel
theorem dX9_keepAsSaved_1 : decode cX9_keepAsSaved 1 = .ok (.iconst 0, 1) := by decide +kernel
theorem dX9_keepAsSaved_2 : decode cX9_keepAsSaved 2 = .ok (.putfield 102, 3) := by decide +kernel
theorem dX9_keepAsSaved_5 : decode cX9_keepAsSaved 5 = .ok (.iconst 0, 1) := by decide +kernel
theorem dX9_keepAsSaved_6 : decode cX9_keepAsSaved 6 = .ok (.istore_n 1, 1) := by decide +kernel
theorem dX9_keepAsSaved_7 : decode cX9_keepAsSaved 7 = .ok (.iload_n 1, 1) := by decide +kernel
theorem dX9_keepAsSaved_8 : decode cX9_keepAsSaved 8 = .ok (.aload_n 0, 1) := by decide +kernel
theorem dX9_keepAsSaved_9 : decode cX9_keepAsSaved 9 = .ok (.getfield 12, 3) := by decide +kernel
theorem dX9_keepAsSaved_12 : decode cX9_keepAsSaved 12 = .ok (.invokevirtual 56, 3) := by decide +kernel
theorem dX9_keepAsSaved_15 : decode cX9_keepAsSaved 15 = .ok (.if_icmp .ge 66, 3) := by decide +kernel
theorem dX9_keepAsSaved_18 : decode cX9_keepAsSaved 18 = .ok (.aload_n 0, 1) := by decide +kernel
theorem dX9_keepAsSaved_19 : decode cX9_keepAsSaved 19 = .ok (.getfield 12, 3) := by decide +kernel
theorem dX9_keepAsSaved_22 : decode cX9_keepAsSaved 22 = .ok (.iload_n 1, 1) := by decide +kernel
theorem dX9_keepAsSaved_23 : decode cX9_keepAsSaved 23 = .ok (.invokevirtual 105, 3) := by decide +kernel
theorem dX9_keepAsSaved_26 : decode cX9_keepAsSaved 26 = .ok (.istore_n 2, 1) := by decide +kernel
theorem dX9_keepAsSaved_27 : decode cX9_keepAsSaved 27 = .ok (.aload_n 0, 1) := by decide +kernel
theorem dX9_keepAsSaved_28 : decode cX9_keepAsSaved 28 = .ok (.getfield 12, 3) := by decide +kernel
theorem dX9_keepAsSaved_31 : decode cX9_keepAsSaved 31 = .ok (.iload_n 2, 1) := by decide +kernel
theorem dX9_keepAsSaved_32 : decode cX9_keepAsSaved 32 = .ok (.invokevirtual 72, 3) := by decide +kernel
theorem dX9_keepAsSaved_35 : decode cX9_keepAsSaved 35 = .ok (.ifCond .eq 40, 3) := by decide +kernel
theorem dX9_keepAsSaved_38 : decode cX9_keepAsSaved 38 = .ok (.aload_n 0, 1) := by decide +kernel
theorem dX9_keepAsSaved_39 : decode cX9_keepAsSaved 39 = .ok (.getfield 102, 3) := by decide +kernel
theorem dX9_keepAsSaved_42 : decode cX9_keepAsSaved 42 = .ok (.sipush 150, 3) := by decide +kernel
theorem dX9_keepAsSaved_45 : decode cX9_keepAsSaved 45 = .ok (.if_icmp .ge 30, 3) := by decide +kernel
theorem dX9_keepAsSaved_48 : decode cX9_keepAsSaved 48 = .ok (.aload_n 0, 1) := by decide +kernel
theorem dX9_keepAsSaved_49 : decode cX9_keepAsSaved 49 = .ok (.getfield 18, 3) := by decide +kernel
theorem dX9_keepAsSaved_52 : decode cX9_keepAsSaved 52 = .ok (.aload_n 0, 1) := by decide +kernel
theorem dX9_keepAsSaved_53 : decode cX9_keepAsSaved 53 = .ok (.getfield 102, 3) := by decide +kernel
theorem dX9_keepAsSaved_56 : decode cX9_keepAsSaved 56 = .ok (.aload_n 0, 1) := by decide +kernel
theorem dX9_keepAsSaved_57 : decode cX9_keepAsSaved 57 = .ok (.getfield 12, 3) := by decide +kernel
theorem dX9_keepAsSaved_60 : decode cX9_keepAsSaved 60 = .ok (.iload_n 2, 1) := by decide +kernel
theorem dX9_keepAsSaved_61 : decode cX9_keepAsSaved 61 = .ok (.invokevirtual 108, 3) := by decide +kernel
theorem dX9_keepAsSaved_64 : decode cX9_keepAsSaved 64 = .ok (.castore, 1) := by decide +kernel
theorem dX9_keepAsSaved_65 : decode cX9_keepAsSaved 65 = .ok (.aload_n 0, 1) := by decide +kernel
theorem dX9_keepAsSaved_66 : decode cX9_keepAsSaved 66 = .ok (.dup, 1) := by decide +kernel
theorem dX9_keepAsSaved_67 : decode cX9_keepAsSaved 67 = .ok (.getfield 102, 3) := by decide +kernel
theorem dX9_keepAsSaved_70 : decode cX9_keepAsSaved 70 = .ok (.iconst 1, 1) := by decide +kernel
theorem dX9_keepAsSaved_71 : decode cX9_keepAsSaved 71 = .ok (.iadd, 1) := by decide +kernel
theorem dX9_keepAsSaved_72 : decode cX9_keepAsSaved 72 = .ok (.putfield 102, 3) := by decide +kernel
theorem dX9_keepAsSaved_75 : decode cX9_keepAsSaved 75 = .ok (.iinc 1 1, 3) := by decide +kernel
theorem dX9_keepAsSaved_78 : decode cX9_keepAsSaved 78 = .ok (.goto (-71), 3) := by decide +kernel
theorem dX9_keepAsSaved_81 : decode cX9_keepAsSaved 81 = .ok (.aload_n 0, 1) := by decide +kernel
theorem dX9_keepAsSaved_82 : decode cX9_keepAsSaved 82 = .ok (.aload_n 0, 1) := by decide +kernel
theorem dX9_keepAsSaved_83 : decode cX9_keepAsSaved 83 = .ok (.getfield 69, 3) := by decide +kernel
theorem dX9_keepAsSaved_86 : decode cX9_keepAsSaved 86 = .ok (.putfield 26, 3) := by decide +kernel
theorem dX9_keepAsSaved_89 : decode cX9_keepAsSaved 89 = .ok (.return_, 1) := by decide +kernel
theorem dX9_cursorSpot_0 : decode cX9_cursorSpot 0 = .ok (.aload_n 0, 1) := by decide +kernel
theorem dX9_cursorSpot_1 : decode cX9_cursorSpot 1 = .ok (.getfield 12, 3) := by decide +kernel
theorem dX9_cursorSpot_4 : decode cX9_cursorSpot 4 = .ok (.iload_n 1, 1) := by decide +kernel
theorem dX9_cursorSpot_5 : decode cX9_cursorSpot 5 = .ok (.ifCond .lt 17, 3) := by decide +kernel
theorem dX9_cursorSpot_8 : decode cX9_cursorSpot 8 = .ok (.iload_n 1, 1) := by decide +kernel
theorem dX9_cursorSpot_9 : decode cX9_cursorSpot 9 = .ok (.iconst 5, 1) := by decide +kernel
theorem dX9_cursorSpot_10 : decode cX9_cursorSpot 10 = .ok (.if_icmp .ge 12, 3) := by decide +kernel
theorem dX9_cursorSpot_13 : decode cX9_cursorSpot 13 = .ok (.aload_n 0, 1) := by decide +kernel
theorem dX9_cursorSpot_14 : decode cX9_cursorSpot 14 = .ok (.getfield 39, 3) := by decide +kernel
theorem dX9_cursorSpot_17 : decode cX9_cursorSpot 17 = .ok (.iload_n 1, 1) := by decide +kernel
theorem dX9_cursorSpot_18 : decode cX9_cursorSpot 18 = .ok (.iaload, 1) := by decide +kernel
theorem dX9_cursorSpot_19 : decode cX9_cursorSpot 19 = .ok (.goto 4, 3) := by decide +kernel
theorem dX9_cursorSpot_22 : decode cX9_cursorSpot 22 = .ok (.iconst (-1), 1) := by decide +kernel
theorem dX9_cursorSpot_23 : decode cX9_cursorSpot 23 = .ok (.invokevirtual 80, 3) := by decide +kernel
theorem dX9_cursorSpot_26 : decode cX9_cursorSpot 26 = .ok (.ireturn, 1) := by decide +kernel
theorem dX9_perform_0 : decode cX9_perform 0 = .ok (.aload_n 1, 1) := by decide +kernel
theorem dX9_perform_1 : decode cX9_perform 1 = .ok (.aload_n 0, 1) := by decide +kernel
theorem dX9_perform_2 : decode cX9_perform 2 = .ok (.getfield 12, 3) := by decide +kernel
theorem dX9_perform_5 : decode cX9_perform 5 = .ok (.invokevirtual 98, 3) := by decide +kernel
theorem dX9_perform_8 : decode cX9_perform 8 = .ok (.aload_n 0, 1) := by decide +kernel
theorem dX9_perform_9 : decode cX9_perform 9 = .ok (.getfield 35, 3) := by decide +kernel
theorem dX9_perform_12 : decode cX9_perform 12 = .ok (.invokeinterface 89 1, 5) := by decide +kernel
theorem dX9_perform_17 : decode cX9_perform 17 = .ok (.sipush 1174, 3) := by decide +kernel
theorem dX9_perform_20 : decode cX9_perform 20 = .ok (.if_icmp .ge 14, 3) := by decide +kernel
theorem dX9_perform_23 : decode cX9_perform 23 = .ok (.aload_n 0, 1) := by decide +kernel
theorem dX9_perform_24 : decode cX9_perform 24 = .ok (.getfield 35, 3) := by decide +kernel
theorem dX9_perform_27 : decode cX9_perform 27 = .ok (.aload_n 1, 1) := by decide +kernel
theorem dX9_perform_28 : decode cX9_perform 28 = .ok (.invokeinterface 112 2, 5) := by decide +kernel
theorem dX9_perform_33 : decode cX9_perform 33 = .ok (.pop, 1) := by decide +kernel
theorem dX9_perform_34 : decode cX9_perform 34 = .ok (.return_, 1) := by decide +kernel
theorem dX10_init_0 : decode cX10_init 0 = .ok (.aload_n 0, 1) := by decide +kernel
theorem dX10_init_1 : decode cX10_init 1 = .ok (.invokespecial 3, 3) := by decide +kernel
theorem dX10_init_4 : decode cX10_init 4 = .ok (.aload_n 0, 1) := by decide +kernel
theorem dX10_init_5 : decode cX10_init 5 = .ok (.iconst 3, 1) := by decide +kernel
theorem dX10_init_6 : decode cX10_init 6 = .ok (.anewarray 9, 3) := by decide +kernel
theorem dX10_init_9 : decode cX10_init 9 = .ok (.putfield 11, 3) := by decide +kernel
theorem dX10_init_12 : decode cX10_init 12 = .ok (.aload_n 0, 1) := by decide +kernel
theorem dX10_init_13 : decode cX10_init 13 = .ok (.iconst 5, 1) := by decide +kernel
theorem dX10_init_14 : decode cX10_init 14 = .ok (.anewarray 15, 3) := by decide +kernel
theorem dX10_init_17 : decode cX10_init 17 = .ok (.putfield 17, 3) := by decide +kernel
theorem dX10_init_20 : decode cX10_init 20 = .ok (.aload_n 0, 1) := by decide +kernel
theorem dX10_init_21 : decode cX10_init 21 = .ok (.new 21, 3) := by decide +kernel
theorem dX10_init_24 : decode cX10_init 24 = .ok (.dup, 1) := by decide +kernel
theorem dX10_init_25 : decode cX10_init 25 = .ok (.invokespecial 23, 3) := by decide +kernel
theorem dX10_init_28 : decode cX10_init 28 = .ok (.putfield 24, 3) := by decide +kernel
theorem dX10_init_31 : decode cX10_init 31 = .ok (.aload_n 0, 1) := by decide +kernel
theorem dX10_init_32 : decode cX10_init 32 = .ok (.new 21, 3) := by decide +kernel
theorem dX10_init_35 : decode cX10_init 35 = .ok (.dup, 1) := by decide +kernel
theorem dX10_init_36 : decode cX10_init 36 = .ok (.invokespecial 23, 3) := by decide +kernel
theorem dX10_init_39 : decode cX10_init 39 = .ok (.putfield 28, 3) := by decide +kernel
theorem dX10_init_42 : decode cX10_init 42 = .ok (.aload_n 0, 1) := by decide +kernel
theorem dX10_init_43 : decode cX10_init 43 = .ok (.new 31, 3) := by decide +kernel
theorem dX10_init_46 : decode cX10_init 46 = .ok (.dup, 1) := by decide +kernel
theorem dX10_init_47 : decode cX10_init 47 = .ok (.invokespecial 33, 3) := by decide +kernel
theorem dX10_init_50 : decode cX10_init 50 = .ok (.putfield 34, 3) := by decide +kernel
theorem dX10_init_53 : decode cX10_init 53 = .ok (.aload_n 0, 1) := by decide +kernel
theorem dX10_init_54 : decode cX10_init 54 = .ok (.new 38, 3) := by decide +kernel
theorem dX10_init_57 : decode cX10_init 57 = .ok (.dup, 1) := by decide +kernel
theorem dX10_init_58 : decode cX10_init 58 = .ok (.invokespecial 40, 3) := by decide +kernel
theorem dX10_init_61 : decode cX10_init 61 = .ok (.putfield 41, 3) := by decide +kernel
theorem dX10_init_64 : decode cX10_init 64 = .ok (.iconst 0, 1) := by decide +kernel
theorem dX10_init_65 : decode cX10_init 65 = .ok (.istore_n 1, 1) := by decide +kernel
theorem dX10_init_66 : decode cX10_init 66 = .ok (.iload_n 1, 1) := by decide +kernel
theorem dX10_init_67 : decode cX10_init 67 = .ok (.iconst 3, 1) := by decide +kernel
theorem dX10_init_68 : decode cX10_init 68 = .ok (.if_icmp .ge 23, 3) := by decide +kernel
theorem dX10_init_71 : decode cX10_init 71 = .ok (.aload_n 0, 1) := by decide +kernel
theorem dX10_init_72 : decode cX10_init 72 = .ok (.getfield 11, 3) := by decide +kernel
theorem dX10_init_75 : decode cX10_init 75 = .ok (.iload_n 1, 1) := by decide +kernel
theorem dX10_init_76 : decode cX10_init 76 = .ok (.new 9, 3) := by decide +kernel
theorem dX10_init_79 : decode cX10_init 79 = .ok (.dup, 1) := by decide +kernel
theorem dX10_init_80 : decode cX10_init 80 = .ok (.iload_n 1, 1) := by decide +kernel
theorem dX10_init_81 : decode cX10_init 81 = .ok (.invokespecial 45, 3) := by decide +kernel
theorem dX10_init_84 : decode cX10_init 84 = .ok (.aastore, 1) := by decide +kernel
theorem dX10_init_85 : decode cX10_init 85 = .ok (.iinc 1 1, 3) := by decide +kernel
theorem dX10_init_88 : decode cX10_init 88 = .ok (.goto (-22), 3) := by decide +kernel
theorem dX10_init_91 : decode cX10_init 91 = .ok (.iconst 0, 1) := by decide +kernel
theorem dX10_init_92 : decode cX10_init 92 = .ok (.istore_n 1, 1) := by decide +kernel
theorem dX10_init_93 : decode cX10_init 93 = .ok (.iload_n 1, 1) := by decide +kernel
theorem dX10_init_94 : decode cX10_init 94 = .ok (.iconst 5, 1) := by decide +kernel
theorem dX10_init_95 : decode cX10_init 95 = .ok (.if_icmp .ge 22, 3) := by decide +kernel
theorem dX10_init_98 : decode cX10_init 98 = .ok (.aload_n 0, 1) := by decide +kernel
theorem dX10_init_99 : decode cX10_init 99 = .ok (.getfield 17, 3) := by decide +kernel
theorem dX10_init_102 : decode cX10_init 102 = .ok (.iload_n 1, 1) := by decide +kernel
theorem dX10_init_103 : decode cX10_init 103 = .ok (.new 15, 3) := by decide +kernel
theorem dX10_init_106 : decode cX10_init 106 = .ok (.dup, 1) := by decide +kernel
theorem dX10_init_107 : decode cX10_init 107 = .ok (.invokespecial 48, 3) := by decide +kernel
theorem dX10_init_110 : decode cX10_init 110 = .ok (.aastore, 1) := by decide +kernel
theorem dX10_init_111 : decode cX10_init 111 = .ok (.iinc 1 1, 3) := by decide +kernel
theorem dX10_init_114 : decode cX10_init 114 = .ok (.goto (-21), 3) := by decide +kernel
theorem dX10_init_117 : decode cX10_init 117 = .ok (.return_, 1) := by decide +kernel
theorem dX10_type_0 : decode cX10_type 0 = .ok (.aload_n 0, 1) := by decide +kernel
theorem dX10_type_1 : decode cX10_type 1 = .ok (.iload_n 1, 1) := by decide +kernel
theorem dX10_type_2 : decode cX10_type 2 = .ok (.invokevirtual 49, 3) := by decide +kernel
theorem dX10_type_5 : decode cX10_type 5 = .ok (.astore 4, 2) := by decide +kernel
theorem dX10_type_7 : decode cX10_type 7 = .ok (.aload_n 0, 1) := by decide +kernel
theorem dX10_type_8 : decode cX10_type 8 = .ok (.iload_n 2, 1) := by decide +kernel
theorem dX10_type_9 : decode cX10_type 9 = .ok (.invokevirtual 53, 3) := by decide +kernel
theorem dX10_type_12 : decode cX10_type 12 = .ok (.astore 5, 2) := by decide +kernel
theorem dX10_type_14 : decode cX10_type 14 = .ok (.iload_n 3, 1) := by decide +kernel
theorem dX10_type_15 : decode cX10_type 15 = .ok (.invokestatic 57, 3) := by decide +kernel
theorem dX10_type_18 : decode cX10_type 18 = .ok (.ifCond .ne 13, 3) := by decide +kernel
theorem dX10_type_21 : decode cX10_type 21 = .ok (.new 61, 3) := by decide +kernel
theorem dX10_type_24 : decode cX10_type 24 = .ok (.dup, 1) := by decide +kernel
theorem dX10_type_25 : decode cX10_type 25 = .ok (.ldc 63, 2) := by decide +kernel
theorem dX10_type_27 : decode cX10_type 27 = .ok (.invokespecial 65, 3) := by decide +kernel
theorem dX10_type_30 : decode cX10_type 30 = .ok (.athrow, 1) := by decide +kernel
theorem dX10_type_31 : decode cX10_type 31 = .ok (.aload 5, 2) := by decide +kernel
theorem dX10_type_33 : decode cX10_type 33 = .ok (.getfield 68, 3) := by decide +kernel
theorem dX10_type_36 : decode cX10_type 36 = .ok (.invokevirtual 72, 3) := by decide +kernel
theorem dX10_type_39 : decode cX10_type 39 = .ok (.ifCond .eq 13, 3) := by decide +kernel
theorem dX10_type_42 : decode cX10_type 42 = .ok (.new 78, 3) := by decide +kernel
theorem dX10_type_45 : decode cX10_type 45 = .ok (.dup, 1) := by decide +kernel
theorem dX10_type_46 : decode cX10_type 46 = .ok (.ldc 80, 2) := by decide +kernel
theorem dX10_type_48 : decode cX10_type 48 = .ok (.invokespecial 82, 3) := by decide +kernel
theorem dX10_type_51 : decode cX10_type 51 = .ok (.athrow, 1) := by decide +kernel
theorem dX10_type_52 : decode cX10_type 52 = .ok (.aload 4, 2) := by decide +kernel
theorem dX10_type_54 : decode cX10_type 54 = .ok (.new 83, 3) := by decide +kernel
theorem dX10_type_57 : decode cX10_type 57 = .ok (.dup, 1) := by decide +kernel
theorem dX10_type_58 : decode cX10_type 58 = .ok (.aload 5, 2) := by decide +kernel
theorem dX10_type_60 : decode cX10_type 60 = .ok (.aload 5, 2) := by decide +kernel
theorem dX10_type_62 : decode cX10_type 62 = .ok (.iload_n 1, 1) := by decide +kernel
theorem dX10_type_63 : decode cX10_type 63 = .ok (.iload_n 3, 1) := by decide +kernel
theorem dX10_type_64 : decode cX10_type 64 = .ok (.invokevirtual 85, 3) := by decide +kernel
theorem dX10_type_67 : decode cX10_type 67 = .ok (.iconst 1, 1) := by decide +kernel
theorem dX10_type_68 : decode cX10_type 68 = .ok (.invokespecial 89, 3) := by decide +kernel
theorem dX10_type_71 : decode cX10_type 71 = .ok (.invokevirtual 92, 3) := by decide +kernel
theorem dX10_type_74 : decode cX10_type 74 = .ok (.aload 5, 2) := by decide +kernel
theorem dX10_type_76 : decode cX10_type 76 = .ok (.iload_n 1, 1) := by decide +kernel
theorem dX10_type_77 : decode cX10_type 77 = .ok (.invokevirtual 96, 3) := by decide +kernel
theorem dX10_type_80 : decode cX10_type 80 = .ok (.ireturn, 1) := by decide +kernel
theorem dX10_erase_0 : decode cX10_erase 0 = .ok (.aload_n 0, 1) := by decide +kernel
theorem dX10_erase_1 : decode cX10_erase 1 = .ok (.iload_n 1, 1) := by decide +kernel
theorem dX10_erase_2 : decode cX10_erase 2 = .ok (.invokevirtual 49, 3) := by decide +kernel
theorem dX10_erase_5 : decode cX10_erase 5 = .ok (.astore_n 3, 1) := by decide +kernel
theorem dX10_erase_6 : decode cX10_erase 6 = .ok (.aload_n 0, 1) := by decide +kernel
theorem dX10_erase_7 : decode cX10_erase 7 = .ok (.iload_n 2, 1) := by decide +kernel
theorem dX10_erase_8 : decode cX10_erase 8 = .ok (.invokevirtual 53, 3) := by decide +kernel
theorem dX10_erase_11 : decode cX10_erase 11 = .ok (.astore 4, 2) := by decide +kernel
theorem dX10_erase_13 : decode cX10_erase 13 = .ok (.aload 4, 2) := by decide +kernel
theorem dX10_erase_15 : decode cX10_erase 15 = .ok (.iload_n 1, 1) := by decide +kernel
theorem dX10_erase_16 : decode cX10_erase 16 = .ok (.invokevirtual 100, 3) := by decide +kernel
theorem dX10_erase_19 : decode cX10_erase 19 = .ok (.istore 5, 2) := by decide +kernel
theorem dX10_erase_21 : decode cX10_erase 21 = .ok (.iload 5, 2) := by decide +kernel
theorem dX10_erase_23 : decode cX10_erase 23 = .ok (.iconst (-1), 1) := by decide +kernel
theorem dX10_erase_24 : decode cX10_erase 24 = .ok (.if_icmp .ne 13, 3) := by decide +kernel
theorem dX10_erase_27 : decode cX10_erase 27 = .ok (.new 78, 3) := by decide +kernel
theorem dX10_erase_30 : decode cX10_erase 30 = .ok (.dup, 1) := by decide +kernel
theorem dX10_erase_31 : decode cX10_erase 31 = .ok (.ldc 103, 2) := by decide +kernel
theorem dX10_erase_33 : decode cX10_erase 33 = .ok (.invokespecial 82, 3) := by decide +kernel
theorem dX10_erase_36 : decode cX10_erase 36 = .ok (.athrow, 1) := by decide +kernel
theorem dX10_erase_37 : decode cX10_erase 37 = .ok (.aload 4, 2) := by decide +kernel
theorem dX10_erase_39 : decode cX10_erase 39 = .ok (.iload 5, 2) := by decide +kernel
theorem dX10_erase_41 : decode cX10_erase 41 = .ok (.iconst 0, 1) := by decide +kernel
theorem dX10_erase_42 : decode cX10_erase 42 = .ok (.invokevirtual 105, 3) := by decide +kernel
theorem dX10_erase_45 : decode cX10_erase 45 = .ok (.aload_n 3, 1) := by decide +kernel
theorem dX10_erase_46 : decode cX10_erase 46 = .ok (.new 83, 3) := by decide +kernel
theorem dX10_erase_49 : decode cX10_erase 49 = .ok (.dup, 1) := by decide +kernel
theorem dX10_erase_50 : decode cX10_erase 50 = .ok (.aload 4, 2) := by decide +kernel
theorem dX10_erase_52 : decode cX10_erase 52 = .ok (.iload 5, 2) := by decide +kernel
theorem dX10_erase_54 : decode cX10_erase 54 = .ok (.iconst 0, 1) := by decide +kernel
theorem dX10_erase_55 : decode cX10_erase 55 = .ok (.invokespecial 89, 3) := by decide +kernel
theorem dX10_erase_58 : decode cX10_erase 58 = .ok (.invokevirtual 92, 3) := by decide +kernel
theorem dX10_erase_61 : decode cX10_erase 61 = .ok (.aload 4, 2) := by decide +kernel
theorem dX10_erase_63 : decode cX10_erase 63 = .ok (.iload_n 1, 1) := by decide +kernel
theorem dX10_erase_64 : decode cX10_erase 64 = .ok (.invokevirtual 96, 3) := by decide +kernel
theorem dX10_erase_67 : decode cX10_erase 67 = .ok (.ireturn, 1) := by decide +kernel
theorem dX10_moveTo_0 : decode cX10_moveTo 0 = .ok (.aload_n 0, 1) := by decide +kernel
theorem dX10_moveTo_1 : decode cX10_moveTo 1 = .ok (.iload_n 1, 1) := by decide +kernel
theorem dX10_moveTo_2 : decode cX10_moveTo 2 = .ok (.invokevirtual 49, 3) := by decide +kernel
theorem dX10_moveTo_5 : decode cX10_moveTo 5 = .ok (.pop, 1) := by decide +kernel
theorem dX10_moveTo_6 : decode cX10_moveTo 6 = .ok (.aload_n 0, 1) := by decide +kernel
theorem dX10_moveTo_7 : decode cX10_moveTo 7 = .ok (.iload_n 2, 1) := by decide +kernel
theorem dX10_moveTo_8 : decode cX10_moveTo 8 = .ok (.invokevirtual 53, 3) := by decide +kernel
theorem dX10_moveTo_11 : decode cX10_moveTo 11 = .ok (.astore 4, 2) := by decide +kernel
theorem dX10_moveTo_13 : decode cX10_moveTo 13 = .ok (.iload_n 3, 1) := by decide +kernel
theorem dX10_moveTo_14 : decode cX10_moveTo 14 = .ok (.ifCond .lt 15, 3) := by decide +kernel
theorem dX10_moveTo_17 : decode cX10_moveTo 17 = .ok (.iload_n 3, 1) := by decide +kernel
theorem dX10_moveTo_18 : decode cX10_moveTo 18 = .ok (.aload 4, 2) := by decide +kernel
theorem dX10_moveTo_20 : decode cX10_moveTo 20 = .ok (.getfield 68, 3) := by decide +kernel
theorem dX10_moveTo_23 : decode cX10_moveTo 23 = .ok (.invokevirtual 109, 3) := by decide +kernel
theorem dX10_moveTo_26 : decode cX10_moveTo 26 = .ok (.if_icmp .le 13, 3) := by decide +kernel
theorem dX10_moveTo_29 : decode cX10_moveTo 29 = .ok (.new 113, 3) := by decide +kernel
theorem dX10_moveTo_32 : decode cX10_moveTo 32 = .ok (.dup, 1) := by decide +kernel
theorem dX10_moveTo_33 : decode cX10_moveTo 33 = .ok (.ldc 115, 2) := by decide +kernel
theorem dX10_moveTo_35 : decode cX10_moveTo 35 = .ok (.invokespecial 117, 3) := by decide +kernel
theorem dX10_moveTo_38 : decode cX10_moveTo 38 = .ok (.athrow, 1) := by decide +kernel
theorem dX10_moveTo_39 : decode cX10_moveTo 39 = .ok (.aload 4, 2) := by decide +kernel
theorem dX10_moveTo_41 : decode cX10_moveTo 41 = .ok (.iload_n 1, 1) := by decide +kernel
theorem dX10_moveTo_42 : decode cX10_moveTo 42 = .ok (.invokevirtual 96, 3) := by decide +kernel
theorem dX10_moveTo_45 : decode cX10_moveTo 45 = .ok (.istore 5, 2) := by decide +kernel
theorem dX10_moveTo_47 : decode cX10_moveTo 47 = .ok (.aload 4, 2) := by decide +kernel
theorem dX10_moveTo_49 : decode cX10_moveTo 49 = .ok (.iload_n 1, 1) := by decide +kernel
theorem dX10_moveTo_50 : decode cX10_moveTo 50 = .ok (.aload 4, 2) := by decide +kernel
theorem dX10_moveTo_52 : decode cX10_moveTo 52 = .ok (.getfield 68, 3) := by decide +kernel
theorem dX10_moveTo_55 : decode cX10_moveTo 55 = .ok (.iload_n 3, 1) := by decide +kernel
theorem dX10_moveTo_56 : decode cX10_moveTo 56 = .ok (.invokevirtual 118, 3) := by decide +kernel
theorem dX10_moveTo_59 : decode cX10_moveTo 59 = .ok (.invokevirtual 121, 3) := by decide +kernel
theorem dX10_moveTo_62 : decode cX10_moveTo 62 = .ok (.iload 5, 2) := by decide +kernel
theorem dX10_moveTo_64 : decode cX10_moveTo 64 = .ok (.ireturn, 1) := by decide +kernel
theorem dX10_undo_0 : decode cX10_undo 0 = .ok (.aload_n 0, 1) := by decide +kernel
theorem dX10_undo_1 : decode cX10_undo 1 = .ok (.iload_n 1, 1) := by decide +kernel
theorem dX10_undo_2 : decode cX10_undo 2 = .ok (.invokevirtual 49, 3) := by decide +kernel
theorem dX10_undo_5 : decode cX10_undo 5 = .ok (.invokevirtual 125, 3) := by decide +kernel
theorem dX10_undo_8 : decode cX10_undo 8 = .ok (.astore_n 2, 1) := by decide +kernel
theorem dX10_undo_9 : decode cX10_undo 9 = .ok (.aload_n 2, 1) := by decide +kernel
theorem dX10_undo_10 : decode cX10_undo 10 = .ok (.ifnonnull 13, 3) := by decide +kernel
theorem dX10_undo_13 : decode cX10_undo 13 = .ok (.new 78, 3) := by decide +kernel
theorem dX10_undo_16 : decode cX10_undo 16 = .ok (.dup, 1) := by decide +kernel
theorem dX10_undo_17 : decode cX10_undo 17 = .ok (.ldc 129, 2) := by decide +kernel
theorem dX10_undo_19 : decode cX10_undo 19 = .ok (.invokespecial 82, 3) := by decide +kernel
theorem dX10_undo_22 : decode cX10_undo 22 = .ok (.athrow, 1) := by decide +kernel
theorem dX10_undo_23 : decode cX10_undo 23 = .ok (.aload_n 2, 1) := by decide +kernel
theorem dX10_undo_24 : decode cX10_undo 24 = .ok (.getfield 131, 3) := by decide +kernel
theorem dX10_undo_27 : decode cX10_undo 27 = .ok (.aload_n 2, 1) := by decide +kernel
theorem dX10_undo_28 : decode cX10_undo 28 = .ok (.getfield 135, 3) := by decide +kernel
theorem dX10_undo_31 : decode cX10_undo 31 = .ok (.aload_n 2, 1) := by decide +kernel
theorem dX10_undo_32 : decode cX10_undo 32 = .ok (.getfield 139, 3) := by decide +kernel
theorem dX10_undo_35 : decode cX10_undo 35 = .ok (.ifCond .ne 7, 3) := by decide +kernel
theorem dX10_undo_38 : decode cX10_undo 38 = .ok (.iconst 1, 1) := by decide +kernel
theorem dX10_undo_39 : decode cX10_undo 39 = .ok (.goto 4, 3) := by decide +kernel
theorem dX10_undo_42 : decode cX10_undo 42 = .ok (.iconst 0, 1) := by decide +kernel
theorem dX10_undo_43 : decode cX10_undo 43 = .ok (.invokevirtual 105, 3) := by decide +kernel
theorem dX10_undo_46 : decode cX10_undo 46 = .ok (.aload_n 2, 1) := by decide +kernel
theorem dX10_undo_47 : decode cX10_undo 47 = .ok (.getfield 131, 3) := by decide +kernel
theorem dX10_undo_50 : decode cX10_undo 50 = .ok (.getfield 143, 3) := by decide +kernel
theorem dX10_undo_53 : decode cX10_undo 53 = .ok (.ireturn, 1) := by decide +kernel
theorem dX10_redo_0 : decode cX10_redo 0 = .ok (.aload_n 0, 1) := by decide +kernel
theorem dX10_redo_1 : decode cX10_redo 1 = .ok (.iload_n 1, 1) := by decide +kernel
theorem dX10_redo_2 : decode cX10_redo 2 = .ok (.invokevirtual 49, 3) := by decide +kernel
theorem dX10_redo_5 : decode cX10_redo 5 = .ok (.invokevirtual 146, 3) := by decide +kernel
theorem dX10_redo_8 : decode cX10_redo 8 = .ok (.astore_n 2, 1) := by decide +kernel
theorem dX10_redo_9 : decode cX10_redo 9 = .ok (.aload_n 2, 1) := by decide +kernel
theorem dX10_redo_10 : decode cX10_redo 10 = .ok (.ifnonnull 13, 3) := by decide +kernel
theorem dX10_redo_13 : decode cX10_redo 13 = .ok (.new 78, 3) := by decide +kernel
theorem dX10_redo_16 : decode cX10_redo 16 = .ok (.dup, 1) := by decide +kernel
theorem dX10_redo_17 : decode cX10_redo 17 = .ok (.ldc 149, 2) := by decide +kernel
theorem dX10_redo_19 : decode cX10_redo 19 = .ok (.invokespecial 82, 3) := by decide +kernel
theorem dX10_redo_22 : decode cX10_redo 22 = .ok (.athrow, 1) := by decide +kernel
theorem dX10_redo_23 : decode cX10_redo 23 = .ok (.aload_n 2, 1) := by decide +kernel
theorem dX10_redo_24 : decode cX10_redo 24 = .ok (.getfield 131, 3) := by decide +kernel
theorem dX10_redo_27 : decode cX10_redo 27 = .ok (.aload_n 2, 1) := by decide +kernel
theorem dX10_redo_28 : decode cX10_redo 28 = .ok (.getfield 135, 3) := by decide +kernel
theorem dX10_redo_31 : decode cX10_redo 31 = .ok (.aload_n 2, 1) := by decide +kernel
theorem dX10_redo_32 : decode cX10_redo 32 = .ok (.getfield 139, 3) := by decide +kernel
theorem dX10_redo_35 : decode cX10_redo 35 = .ok (.invokevirtual 105, 3) := by decide +kernel
theorem dX10_redo_38 : decode cX10_redo 38 = .ok (.aload_n 2, 1) := by decide +kernel
theorem dX10_redo_39 : decode cX10_redo 39 = .ok (.getfield 131, 3) := by decide +kernel
theorem dX10_redo_42 : decode cX10_redo 42 = .ok (.getfield 143, 3) := by decide +kernel
theorem dX10_redo_45 : decode cX10_redo 45 = .ok (.ireturn, 1) := by decide +kernel
theorem dX10_place_0 : decode cX10_place 0 = .ok (.aload_n 0, 1) := by decide +kernel
theorem dX10_place_1 : decode cX10_place 1 = .ok (.iload_n 1, 1) := by decide +kernel
theorem dX10_place_2 : decode cX10_place 2 = .ok (.invokevirtual 49, 3) := by decide +kernel
theorem dX10_place_5 : decode cX10_place 5 = .ok (.pop, 1) := by decide +kernel
theorem dX10_place_6 : decode cX10_place 6 = .ok (.aload_n 0, 1) := by decide +kernel
theorem dX10_place_7 : decode cX10_place 7 = .ok (.iload_n 2, 1) := by decide +kernel
theorem dX10_place_8 : decode cX10_place 8 = .ok (.invokevirtual 53, 3) := by decide +kernel
theorem dX10_place_11 : decode cX10_place 11 = .ok (.iload_n 1, 1) := by decide +kernel
theorem dX10_place_12 : decode cX10_place 12 = .ok (.invokevirtual 96, 3) := by decide +kernel
theorem dX10_place_15 : decode cX10_place 15 = .ok (.ireturn, 1) := by decide +kernel
theorem dX10_length_0 : decode cX10_length 0 = .ok (.aload_n 0, 1) := by decide +kernel
theorem dX10_length_1 : decode cX10_length 1 = .ok (.iload_n 1, 1) := by decide +kernel
theorem dX10_length_2 : decode cX10_length 2 = .ok (.invokevirtual 53, 3) := by decide +kernel
theorem dX10_length_5 : decode cX10_length 5 = .ok (.getfield 68, 3) := by decide +kernel
theorem dX10_length_8 : decode cX10_length 8 = .ok (.invokevirtual 109, 3) := by decide +kernel
theorem dX10_length_11 : decode cX10_length 11 = .ok (.ireturn, 1) := by decide +kernel
theorem dX10_letter_0 : decode cX10_letter 0 = .ok (.aload_n 0, 1) := by decide +kernel
theorem dX10_letter_1 : decode cX10_letter 1 = .ok (.iload_n 1, 1) := by decide +kernel
theorem dX10_letter_2 : decode cX10_letter 2 = .ok (.invokevirtual 53, 3) := by decide +kernel
theorem dX10_letter_5 : decode cX10_letter 5 = .ok (.getfield 68, 3) := by decide +kernel
theorem dX10_letter_8 : decode cX10_letter 8 = .ok (.iload_n 2, 1) := by decide +kernel
theorem dX10_letter_9 : decode cX10_letter 9 = .ok (.invokestatic 151, 3) := by decide +kernel
theorem dX10_letter_12 : decode cX10_letter 12 = .ok (.ireturn, 1) := by decide +kernel
theorem dX10_letterAnew_0 : decode cX10_letterAnew 0 = .ok (.aload_n 0, 1) := by decide +kernel
theorem dX10_letterAnew_1 : decode cX10_letterAnew 1 = .ok (.iload_n 1, 1) := by decide +kernel
theorem dX10_letterAnew_2 : decode cX10_letterAnew 2 = .ok (.invokevirtual 53, 3) := by decide +kernel
theorem dX10_letterAnew_5 : decode cX10_letterAnew 5 = .ok (.invokevirtual 155, 3) := by decide +kernel
theorem dX10_letterAnew_8 : decode cX10_letterAnew 8 = .ok (.iload_n 2, 1) := by decide +kernel
theorem dX10_letterAnew_9 : decode cX10_letterAnew 9 = .ok (.invokestatic 151, 3) := by decide +kernel
theorem dX10_letterAnew_12 : decode cX10_letterAnew 12 = .ok (.ireturn, 1) := by decide +kernel
theorem dX10_version_0 : decode cX10_version 0 = .ok (.aload_n 0, 1) := by decide +kernel
theorem dX10_version_1 : decode cX10_version 1 = .ok (.iload_n 1, 1) := by decide +kernel
theorem dX10_version_2 : decode cX10_version 2 = .ok (.invokevirtual 53, 3) := by decide +kernel
theorem dX10_version_5 : decode cX10_version 5 = .ok (.getfield 159, 3) := by decide +kernel
theorem dX10_version_8 : decode cX10_version 8 = .ok (.ireturn, 1) := by decide +kernel
theorem dX10_ask_0 : decode cX10_ask 0 = .ok (.aload_n 0, 1) := by decide +kernel
theorem dX10_ask_1 : decode cX10_ask 1 = .ok (.iload_n 1, 1) := by decide +kernel
theorem dX10_ask_2 : decode cX10_ask 2 = .ok (.invokevirtual 53, 3) := by decide +kernel
theorem dX10_ask_5 : decode cX10_ask 5 = .ok (.astore 4, 2) := by decide +kernel
theorem dX10_ask_7 : decode cX10_ask 7 = .ok (.iload_n 2, 1) := by decide +kernel
theorem dX10_ask_8 : decode cX10_ask 8 = .ok (.iload_n 3, 1) := by decide +kernel
theorem dX10_ask_9 : decode cX10_ask 9 = .ok (.invokestatic 162, 3) := by decide +kernel
theorem dX10_ask_12 : decode cX10_ask 12 = .ok (.ifCond .ne 13, 3) := by decide +kernel
theorem dX10_ask_15 : decode cX10_ask 15 = .ok (.new 61, 3) := by decide +kernel
theorem dX10_ask_18 : decode cX10_ask 18 = .ok (.dup, 1) := by decide +kernel
theorem dX10_ask_19 : decode cX10_ask 19 = .ok (.ldc 166, 2) := by decide +kernel
theorem dX10_ask_21 : decode cX10_ask 21 = .ok (.invokespecial 65, 3) := by decide +kernel
theorem dX10_ask_24 : decode cX10_ask 24 = .ok (.athrow, 1) := by decide +kernel
theorem dX10_ask_25 : decode cX10_ask 25 = .ok (.aload_n 0, 1) := by decide +kernel
theorem dX10_ask_26 : decode cX10_ask 26 = .ok (.getfield 24, 3) := by decide +kernel
theorem dX10_ask_29 : decode cX10_ask 29 = .ok (.invokeinterface 168 1, 5) := by decide +kernel
theorem dX10_ask_34 : decode cX10_ask 34 = .ok (.bipush 60, 2) := by decide +kernel
theorem dX10_ask_36 : decode cX10_ask 36 = .ok (.if_icmp .lt 13, 3) := by decide +kernel
theorem dX10_ask_39 : decode cX10_ask 39 = .ok (.new 78, 3) := by decide +kernel
theorem dX10_ask_42 : decode cX10_ask 42 = .ok (.dup, 1) := by decide +kernel
theorem dX10_ask_43 : decode cX10_ask 43 = .ok (.ldc 173, 2) := by decide +kernel
theorem dX10_ask_45 : decode cX10_ask 45 = .ok (.invokespecial 82, 3) := by decide +kernel
theorem dX10_ask_48 : decode cX10_ask 48 = .ok (.athrow, 1) := by decide +kernel
theorem dX10_ask_49 : decode cX10_ask 49 = .ok (.aload_n 0, 1) := by decide +kernel
theorem dX10_ask_50 : decode cX10_ask 50 = .ok (.getfield 34, 3) := by decide +kernel
theorem dX10_ask_53 : decode cX10_ask 53 = .ok (.aload 4, 2) := by decide +kernel
theorem dX10_ask_55 : decode cX10_ask 55 = .ok (.getfield 68, 3) := by decide +kernel
theorem dX10_ask_58 : decode cX10_ask 58 = .ok (.iload_n 2, 1) := by decide +kernel
theorem dX10_ask_59 : decode cX10_ask 59 = .ok (.iload_n 3, 1) := by decide +kernel
theorem dX10_ask_60 : decode cX10_ask 60 = .ok (.invokevirtual 175, 3) := by decide +kernel
theorem dX10_ask_63 : decode cX10_ask 63 = .ok (.aload_n 0, 1) := by decide +kernel
theorem dX10_ask_64 : decode cX10_ask 64 = .ok (.getfield 24, 3) := by decide +kernel
theorem dX10_ask_67 : decode cX10_ask 67 = .ok (.new 179, 3) := by decide +kernel
theorem dX10_ask_70 : decode cX10_ask 70 = .ok (.dup, 1) := by decide +kernel
theorem dX10_ask_71 : decode cX10_ask 71 = .ok (.aload 4, 2) := by decide +kernel
theorem dX10_ask_73 : decode cX10_ask 73 = .ok (.aload_n 0, 1) := by decide +kernel
theorem dX10_ask_74 : decode cX10_ask 74 = .ok (.getfield 34, 3) := by decide +kernel
theorem dX10_ask_77 : decode cX10_ask 77 = .ok (.aload 4, 2) := by decide +kernel
theorem dX10_ask_79 : decode cX10_ask 79 = .ok (.getfield 68, 3) := by decide +kernel
theorem dX10_ask_82 : decode cX10_ask 82 = .ok (.aload_n 0, 1) := by decide +kernel
theorem dX10_ask_83 : decode cX10_ask 83 = .ok (.getfield 41, 3) := by decide +kernel
theorem dX10_ask_86 : decode cX10_ask 86 = .ok (.invokevirtual 181, 3) := by decide +kernel
theorem dX10_ask_89 : decode cX10_ask 89 = .ok (.invokespecial 185, 3) := by decide +kernel
theorem dX10_ask_92 : decode cX10_ask 92 = .ok (.invokeinterface 188 2, 5) := by decide +kernel
theorem dX10_ask_97 : decode cX10_ask 97 = .ok (.pop, 1) := by decide +kernel
theorem dX10_ask_98 : decode cX10_ask 98 = .ok (.aload_n 0, 1) := by decide +kernel
theorem dX10_ask_99 : decode cX10_ask 99 = .ok (.getfield 24, 3) := by decide +kernel
theorem dX10_ask_102 : decode cX10_ask 102 = .ok (.invokeinterface 168 1, 5) := by decide +kernel
theorem dX10_ask_107 : decode cX10_ask 107 = .ok (.iconst 1, 1) := by decide +kernel
theorem dX10_ask_108 : decode cX10_ask 108 = .ok (.isub, 1) := by decide +kernel
theorem dX10_ask_109 : decode cX10_ask 109 = .ok (.ireturn, 1) := by decide +kernel
theorem dX10_come_0 : decode cX10_come 0 = .ok (.aload_n 0, 1) := by decide +kernel
theorem dX10_come_1 : decode cX10_come 1 = .ok (.iload_n 1, 1) := by decide +kernel
theorem dX10_come_2 : decode cX10_come 2 = .ok (.invokevirtual 192, 3) := by decide +kernel
theorem dX10_come_5 : decode cX10_come 5 = .ok (.astore_n 2, 1) := by decide +kernel
theorem dX10_come_6 : decode cX10_come 6 = .ok (.aload_n 2, 1) := by decide +kernel
theorem dX10_come_7 : decode cX10_come 7 = .ok (.aload_n 0, 1) := by decide +kernel
theorem dX10_come_8 : decode cX10_come 8 = .ok (.getfield 41, 3) := by decide +kernel
theorem dX10_come_11 : decode cX10_come 11 = .ok (.invokevirtual 196, 3) := by decide +kernel
theorem dX10_come_14 : decode cX10_come 14 = .ok (.istore_n 3, 1) := by decide +kernel
theorem dX10_come_15 : decode cX10_come 15 = .ok (.aload_n 2, 1) := by decide +kernel
theorem dX10_come_16 : decode cX10_come 16 = .ok (.invokevirtual 200, 3) := by decide +kernel
theorem dX10_come_19 : decode cX10_come 19 = .ok (.aload_n 2, 1) := by decide +kernel
theorem dX10_come_20 : decode cX10_come 20 = .ok (.iconst 1, 1) := by decide +kernel
theorem dX10_come_21 : decode cX10_come 21 = .ok (.iload_n 3, 1) := by decide +kernel
theorem dX10_come_22 : decode cX10_come 22 = .ok (.invokevirtual 203, 3) := by decide +kernel
theorem dX10_come_25 : decode cX10_come 25 = .ok (.aload_n 2, 1) := by decide +kernel
theorem dX10_come_26 : decode cX10_come 26 = .ok (.getfield 206, 3) := by decide +kernel
theorem dX10_come_29 : decode cX10_come 29 = .ok (.invokeinterface 168 1, 5) := by decide +kernel
theorem dX10_come_34 : decode cX10_come 34 = .ok (.iload_n 3, 1) := by decide +kernel
theorem dX10_come_35 : decode cX10_come 35 = .ok (.isub, 1) := by decide +kernel
theorem dX10_come_36 : decode cX10_come 36 = .ok (.ireturn, 1) := by decide +kernel
theorem dX10_drop_0 : decode cX10_drop 0 = .ok (.aload_n 0, 1) := by decide +kernel
theorem dX10_drop_1 : decode cX10_drop 1 = .ok (.iload_n 1, 1) := by decide +kernel
theorem dX10_drop_2 : decode cX10_drop 2 = .ok (.invokevirtual 192, 3) := by decide +kernel
theorem dX10_drop_5 : decode cX10_drop 5 = .ok (.astore_n 2, 1) := by decide +kernel
theorem dX10_drop_6 : decode cX10_drop 6 = .ok (.aload_n 2, 1) := by decide +kernel
theorem dX10_drop_7 : decode cX10_drop 7 = .ok (.iconst 2, 1) := by decide +kernel
theorem dX10_drop_8 : decode cX10_drop 8 = .ok (.aload_n 2, 1) := by decide +kernel
theorem dX10_drop_9 : decode cX10_drop 9 = .ok (.getfield 206, 3) := by decide +kernel
theorem dX10_drop_12 : decode cX10_drop 12 = .ok (.invokeinterface 168 1, 5) := by decide +kernel
theorem dX10_drop_17 : decode cX10_drop 17 = .ok (.invokevirtual 203, 3) := by decide +kernel
theorem dX10_drop_20 : decode cX10_drop 20 = .ok (.aload_n 2, 1) := by decide +kernel
theorem dX10_drop_21 : decode cX10_drop 21 = .ok (.getfield 206, 3) := by decide +kernel
theorem dX10_drop_24 : decode cX10_drop 24 = .ok (.invokeinterface 168 1, 5) := by decide +kernel
theorem dX10_drop_29 : decode cX10_drop 29 = .ok (.ireturn, 1) := by decide +kernel
theorem dX10_state_0 : decode cX10_state 0 = .ok (.aload_n 0, 1) := by decide +kernel
theorem dX10_state_1 : decode cX10_state 1 = .ok (.iload_n 1, 1) := by decide +kernel
theorem dX10_state_2 : decode cX10_state 2 = .ok (.invokevirtual 208, 3) := by decide +kernel
theorem dX10_state_5 : decode cX10_state 5 = .ok (.getfield 211, 3) := by decide +kernel
theorem dX10_state_8 : decode cX10_state 8 = .ok (.ireturn, 1) := by decide +kernel
theorem dX10_spared_0 : decode cX10_spared 0 = .ok (.aload_n 0, 1) := by decide +kernel
theorem dX10_spared_1 : decode cX10_spared 1 = .ok (.iload_n 1, 1) := by decide +kernel
theorem dX10_spared_2 : decode cX10_spared 2 = .ok (.invokevirtual 208, 3) := by decide +kernel
theorem dX10_spared_5 : decode cX10_spared 5 = .ok (.astore_n 2, 1) := by decide +kernel
theorem dX10_spared_6 : decode cX10_spared 6 = .ok (.aload_n 2, 1) := by decide +kernel
theorem dX10_spared_7 : decode cX10_spared 7 = .ok (.getfield 211, 3) := by decide +kernel
theorem dX10_spared_10 : decode cX10_spared 10 = .ok (.ifCond .ne 14, 3) := by decide +kernel
theorem dX10_spared_13 : decode cX10_spared 13 = .ok (.aload_n 2, 1) := by decide +kernel
theorem dX10_spared_14 : decode cX10_spared 14 = .ok (.aload_n 0, 1) := by decide +kernel
theorem dX10_spared_15 : decode cX10_spared 15 = .ok (.getfield 41, 3) := by decide +kernel
theorem dX10_spared_18 : decode cX10_spared 18 = .ok (.invokevirtual 196, 3) := by decide +kernel
theorem dX10_spared_21 : decode cX10_spared 21 = .ok (.goto 7, 3) := by decide +kernel
theorem dX10_spared_24 : decode cX10_spared 24 = .ok (.aload_n 2, 1) := by decide +kernel
theorem dX10_spared_25 : decode cX10_spared 25 = .ok (.getfield 214, 3) := by decide +kernel
theorem dX10_spared_28 : decode cX10_spared 28 = .ok (.ireturn, 1) := by decide +kernel
theorem dX10_lock_0 : decode cX10_lock 0 = .ok (.aload_n 0, 1) := by decide +kernel
theorem dX10_lock_1 : decode cX10_lock 1 = .ok (.iload_n 1, 1) := by decide +kernel
theorem dX10_lock_2 : decode cX10_lock 2 = .ok (.invokevirtual 49, 3) := by decide +kernel
theorem dX10_lock_5 : decode cX10_lock 5 = .ok (.pop, 1) := by decide +kernel
theorem dX10_lock_6 : decode cX10_lock 6 = .ok (.aload_n 0, 1) := by decide +kernel
theorem dX10_lock_7 : decode cX10_lock 7 = .ok (.iload_n 2, 1) := by decide +kernel
theorem dX10_lock_8 : decode cX10_lock 8 = .ok (.invokevirtual 53, 3) := by decide +kernel
theorem dX10_lock_11 : decode cX10_lock 11 = .ok (.astore_n 3, 1) := by decide +kernel
theorem dX10_lock_12 : decode cX10_lock 12 = .ok (.aload_n 3, 1) := by decide +kernel
theorem dX10_lock_13 : decode cX10_lock 13 = .ok (.iload_n 1, 1) := by decide +kernel
theorem dX10_lock_14 : decode cX10_lock 14 = .ok (.invokevirtual 217, 3) := by decide +kernel
theorem dX10_lock_17 : decode cX10_lock 17 = .ok (.ifCond .ne 13, 3) := by decide +kernel
theorem dX10_lock_20 : decode cX10_lock 20 = .ok (.new 78, 3) := by decide +kernel
theorem dX10_lock_23 : decode cX10_lock 23 = .ok (.dup, 1) := by decide +kernel
theorem dX10_lock_24 : decode cX10_lock 24 = .ok (.ldc 221, 2) := by decide +kernel
theorem dX10_lock_26 : decode cX10_lock 26 = .ok (.invokespecial 82, 3) := by decide +kernel
theorem dX10_lock_29 : decode cX10_lock 29 = .ok (.athrow, 1) := by decide +kernel
theorem dX10_lock_30 : decode cX10_lock 30 = .ok (.aload_n 3, 1) := by decide +kernel
theorem dX10_lock_31 : decode cX10_lock 31 = .ok (.aload_n 3, 1) := by decide +kernel
theorem dX10_lock_32 : decode cX10_lock 32 = .ok (.getfield 223, 3) := by decide +kernel
theorem dX10_lock_35 : decode cX10_lock 35 = .ok (.iload_n 1, 1) := by decide +kernel
theorem dX10_lock_36 : decode cX10_lock 36 = .ok (.if_icmp .ne 7, 3) := by decide +kernel
theorem dX10_lock_39 : decode cX10_lock 39 = .ok (.iconst (-1), 1) := by decide +kernel
theorem dX10_lock_40 : decode cX10_lock 40 = .ok (.goto 4, 3) := by decide +kernel
theorem dX10_lock_43 : decode cX10_lock 43 = .ok (.iload_n 1, 1) := by decide +kernel
theorem dX10_lock_44 : decode cX10_lock 44 = .ok (.putfield 223, 3) := by decide +kernel
theorem dX10_lock_47 : decode cX10_lock 47 = .ok (.aload_n 3, 1) := by decide +kernel
theorem dX10_lock_48 : decode cX10_lock 48 = .ok (.getfield 223, 3) := by decide +kernel
theorem dX10_lock_51 : decode cX10_lock 51 = .ok (.iload_n 1, 1) := by decide +kernel
theorem dX10_lock_52 : decode cX10_lock 52 = .ok (.if_icmp .ne 7, 3) := by decide +kernel
theorem dX10_lock_55 : decode cX10_lock 55 = .ok (.iconst 1, 1) := by decide +kernel
theorem dX10_lock_56 : decode cX10_lock 56 = .ok (.goto 4, 3) := by decide +kernel
theorem dX10_lock_59 : decode cX10_lock 59 = .ok (.iconst 0, 1) := by decide +kernel
theorem dX10_lock_60 : decode cX10_lock 60 = .ok (.ireturn, 1) := by decide +kernel
theorem dX10_save_0 : decode cX10_save 0 = .ok (.aload_n 0, 1) := by decide +kernel
theorem dX10_save_1 : decode cX10_save 1 = .ok (.iload_n 1, 1) := by decide +kernel
theorem dX10_save_2 : decode cX10_save 2 = .ok (.invokevirtual 49, 3) := by decide +kernel
theorem dX10_save_5 : decode cX10_save 5 = .ok (.pop, 1) := by decide +kernel
theorem dX10_save_6 : decode cX10_save 6 = .ok (.aload_n 0, 1) := by decide +kernel
theorem dX10_save_7 : decode cX10_save 7 = .ok (.iload_n 2, 1) := by decide +kernel
theorem dX10_save_8 : decode cX10_save 8 = .ok (.invokevirtual 53, 3) := by decide +kernel
theorem dX10_save_11 : decode cX10_save 11 = .ok (.astore 4, 2) := by decide +kernel
theorem dX10_save_13 : decode cX10_save 13 = .ok (.iload_n 3, 1) := by decide +kernel
theorem dX10_save_14 : decode cX10_save 14 = .ok (.iconst (-1), 1) := by decide +kernel
theorem dX10_save_15 : decode cX10_save 15 = .ok (.if_icmp .ne 7, 3) := by decide +kernel
theorem dX10_save_18 : decode cX10_save 18 = .ok (.aconst_null, 1) := by decide +kernel
theorem dX10_save_19 : decode cX10_save 19 = .ok (.goto 8, 3) := by decide +kernel
theorem dX10_save_22 : decode cX10_save 22 = .ok (.aload_n 0, 1) := by decide +kernel
theorem dX10_save_23 : decode cX10_save 23 = .ok (.iload_n 3, 1) := by decide +kernel
theorem dX10_save_24 : decode cX10_save 24 = .ok (.invokevirtual 208, 3) := by decide +kernel
theorem dX10_save_27 : decode cX10_save 27 = .ok (.astore 5, 2) := by decide +kernel
theorem dX10_save_29 : decode cX10_save 29 = .ok (.aload 5, 2) := by decide +kernel
theorem dX10_save_31 : decode cX10_save 31 = .ok (.ifnull 23, 3) := by decide +kernel
theorem dX10_save_34 : decode cX10_save 34 = .ok (.aload 5, 2) := by decide +kernel
theorem dX10_save_36 : decode cX10_save 36 = .ok (.getfield 226, 3) := by decide +kernel
theorem dX10_save_39 : decode cX10_save 39 = .ok (.aload 4, 2) := by decide +kernel
theorem dX10_save_41 : decode cX10_save 41 = .ok (.if_acmp .eq 13, 3) := by decide +kernel
theorem dX10_save_44 : decode cX10_save 44 = .ok (.new 61, 3) := by decide +kernel
theorem dX10_save_47 : decode cX10_save 47 = .ok (.dup, 1) := by decide +kernel
theorem dX10_save_48 : decode cX10_save 48 = .ok (.ldc 227, 2) := by decide +kernel
theorem dX10_save_50 : decode cX10_save 50 = .ok (.invokespecial 65, 3) := by decide +kernel
theorem dX10_save_53 : decode cX10_save 53 = .ok (.athrow, 1) := by decide +kernel
theorem dX10_save_54 : decode cX10_save 54 = .ok (.aload_n 0, 1) := by decide +kernel
theorem dX10_save_55 : decode cX10_save 55 = .ok (.getfield 229, 3) := by decide +kernel
theorem dX10_save_58 : decode cX10_save 58 = .ok (.bipush 60, 2) := by decide +kernel
theorem dX10_save_60 : decode cX10_save 60 = .ok (.if_icmp .lt 13, 3) := by decide +kernel
theorem dX10_save_63 : decode cX10_save 63 = .ok (.new 78, 3) := by decide +kernel
theorem dX10_save_66 : decode cX10_save 66 = .ok (.dup, 1) := by decide +kernel
theorem dX10_save_67 : decode cX10_save 67 = .ok (.ldc 232, 2) := by decide +kernel
theorem dX10_save_69 : decode cX10_save 69 = .ok (.invokespecial 82, 3) := by decide +kernel
theorem dX10_save_72 : decode cX10_save 72 = .ok (.athrow, 1) := by decide +kernel
theorem dX10_save_73 : decode cX10_save 73 = .ok (.aload_n 0, 1) := by decide +kernel
theorem dX10_save_74 : decode cX10_save 74 = .ok (.getfield 28, 3) := by decide +kernel
theorem dX10_save_77 : decode cX10_save 77 = .ok (.new 234, 3) := by decide +kernel
theorem dX10_save_80 : decode cX10_save 80 = .ok (.dup, 1) := by decide +kernel
theorem dX10_save_81 : decode cX10_save 81 = .ok (.aload_n 0, 1) := by decide +kernel
theorem dX10_save_82 : decode cX10_save 82 = .ok (.getfield 229, 3) := by decide +kernel
theorem dX10_save_85 : decode cX10_save 85 = .ok (.iload_n 1, 1) := by decide +kernel
theorem dX10_save_86 : decode cX10_save 86 = .ok (.aload 4, 2) := by decide +kernel
theorem dX10_save_88 : decode cX10_save 88 = .ok (.aload 5, 2) := by decide +kernel
theorem dX10_save_90 : decode cX10_save 90 = .ok (.invokespecial 236, 3) := by decide +kernel
theorem dX10_save_93 : decode cX10_save 93 = .ok (.invokeinterface 188 2, 5) := by decide +kernel
theorem dX10_save_98 : decode cX10_save 98 = .ok (.pop, 1) := by decide +kernel
theorem dX10_save_99 : decode cX10_save 99 = .ok (.aload_n 0, 1) := by decide +kernel
theorem dX10_save_100 : decode cX10_save 100 = .ok (.dup, 1) := by decide +kernel
theorem dX10_save_101 : decode cX10_save 101 = .ok (.getfield 229, 3) := by decide +kernel
theorem dX10_save_104 : decode cX10_save 104 = .ok (.iconst 1, 1) := by decide +kernel
theorem dX10_save_105 : decode cX10_save 105 = .ok (.iadd, 1) := by decide +kernel
theorem dX10_save_106 : decode cX10_save 106 = .ok (.putfield 229, 3) := by decide +kernel
theorem dX10_save_109 : decode cX10_save 109 = .ok (.aload_n 0, 1) := by decide +kernel
theorem dX10_save_110 : decode cX10_save 110 = .ok (.getfield 229, 3) := by decide +kernel
theorem dX10_save_113 : decode cX10_save 113 = .ok (.iconst 1, 1) := by decide +kernel
theorem dX10_save_114 : decode cX10_save 114 = .ok (.isub, 1) := by decide +kernel
theorem dX10_save_115 : decode cX10_save 115 = .ok (.ireturn, 1) := by decide +kernel
theorem dX10_write_0 : decode cX10_write 0 = .ok (.iconst 0, 1) := by decide +kernel
theorem dX10_write_1 : decode cX10_write 1 = .ok (.istore_n 1, 1) := by decide +kernel
theorem dX10_write_2 : decode cX10_write 2 = .ok (.iload_n 1, 1) := by decide +kernel
theorem dX10_write_3 : decode cX10_write 3 = .ok (.aload_n 0, 1) := by decide +kernel
theorem dX10_write_4 : decode cX10_write 4 = .ok (.getfield 28, 3) := by decide +kernel
theorem dX10_write_7 : decode cX10_write 7 = .ok (.invokeinterface 168 1, 5) := by decide +kernel
theorem dX10_write_12 : decode cX10_write 12 = .ok (.if_icmp .ge 61, 3) := by decide +kernel
theorem dX10_write_15 : decode cX10_write 15 = .ok (.aload_n 0, 1) := by decide +kernel
theorem dX10_write_16 : decode cX10_write 16 = .ok (.getfield 28, 3) := by decide +kernel
theorem dX10_write_19 : decode cX10_write 19 = .ok (.iload_n 1, 1) := by decide +kernel
theorem dX10_write_20 : decode cX10_write 20 = .ok (.invokeinterface 239 2, 5) := by decide +kernel
theorem dX10_write_25 : decode cX10_write 25 = .ok (.checkcast 234, 3) := by decide +kernel
theorem dX10_write_28 : decode cX10_write 28 = .ok (.astore_n 2, 1) := by decide +kernel
theorem dX10_write_29 : decode cX10_write 29 = .ok (.aload_n 2, 1) := by decide +kernel
theorem dX10_write_30 : decode cX10_write 30 = .ok (.invokevirtual 243, 3) := by decide +kernel
theorem dX10_write_33 : decode cX10_write 33 = .ok (.ifCond .eq 34, 3) := by decide +kernel
theorem dX10_write_36 : decode cX10_write 36 = .ok (.aload_n 0, 1) := by decide +kernel
theorem dX10_write_37 : decode cX10_write 37 = .ok (.aload_n 2, 1) := by decide +kernel
theorem dX10_write_38 : decode cX10_write 38 = .ok (.invokevirtual 246, 3) := by decide +kernel
theorem dX10_write_41 : decode cX10_write 41 = .ok (.ifCond .eq 26, 3) := by decide +kernel
theorem dX10_write_44 : decode cX10_write 44 = .ok (.aload_n 0, 1) := by decide +kernel
theorem dX10_write_45 : decode cX10_write 45 = .ok (.getfield 28, 3) := by decide +kernel
theorem dX10_write_48 : decode cX10_write 48 = .ok (.iload_n 1, 1) := by decide +kernel
theorem dX10_write_49 : decode cX10_write 49 = .ok (.invokeinterface 250 2, 5) := by decide +kernel
theorem dX10_write_54 : decode cX10_write 54 = .ok (.pop, 1) := by decide +kernel
theorem dX10_write_55 : decode cX10_write 55 = .ok (.aload_n 2, 1) := by decide +kernel
theorem dX10_write_56 : decode cX10_write 56 = .ok (.getfield 253, 3) := by decide +kernel
theorem dX10_write_59 : decode cX10_write 59 = .ok (.invokevirtual 254, 3) := by decide +kernel
theorem dX10_write_62 : decode cX10_write 62 = .ok (.aload_n 2, 1) := by decide +kernel
theorem dX10_write_63 : decode cX10_write 63 = .ok (.getfield 257, 3) := by decide +kernel
theorem dX10_write_66 : decode cX10_write 66 = .ok (.ireturn, 1) := by decide +kernel
theorem dX10_write_67 : decode cX10_write 67 = .ok (.iinc 1 1, 3) := by decide +kernel
theorem dX10_write_70 : decode cX10_write 70 = .ok (.goto (-68), 3) := by decide +kernel
theorem dX10_write_73 : decode cX10_write 73 = .ok (.iconst (-1), 1) := by decide +kernel
theorem dX10_write_74 : decode cX10_write 74 = .ok (.ireturn, 1) := by decide +kernel
theorem dX10_queued_0 : decode cX10_queued 0 = .ok (.aload_n 0, 1) := by decide +kernel
theorem dX10_queued_1 : decode cX10_queued 1 = .ok (.getfield 28, 3) := by decide +kernel
theorem dX10_queued_4 : decode cX10_queued 4 = .ok (.invokeinterface 168 1, 5) := by decide +kernel
theorem dX10_queued_9 : decode cX10_queued 9 = .ok (.ireturn, 1) := by decide +kernel
theorem dX10_savedVersion_0 : decode cX10_savedVersion 0 = .ok (.aload_n 0, 1) := by decide +kernel
theorem dX10_savedVersion_1 : decode cX10_savedVersion 1 = .ok (.iload_n 1, 1) := by decide +kernel
theorem dX10_savedVersion_2 : decode cX10_savedVersion 2 = .ok (.invokevirtual 53, 3) := by decide +kernel
theorem dX10_savedVersion_5 : decode cX10_savedVersion 5 = .ok (.getfield 258, 3) := by decide +kernel
theorem dX10_savedVersion_8 : decode cX10_savedVersion 8 = .ok (.ireturn, 1) := by decide +kernel
theorem dX10_savedLength_0 : decode cX10_savedLength 0 = .ok (.aload_n 0, 1) := by decide +kernel
theorem dX10_savedLength_1 : decode cX10_savedLength 1 = .ok (.iload_n 1, 1) := by decide +kernel
theorem dX10_savedLength_2 : decode cX10_savedLength 2 = .ok (.invokevirtual 53, 3) := by decide +kernel
theorem dX10_savedLength_5 : decode cX10_savedLength 5 = .ok (.getfield 261, 3) := by decide +kernel
theorem dX10_savedLength_8 : decode cX10_savedLength 8 = .ok (.ireturn, 1) := by decide +kernel
theorem dX10_savedLetter_0 : decode cX10_savedLetter 0 = .ok (.aload_n 0, 1) := by decide +kernel
theorem dX10_savedLetter_1 : decode cX10_savedLetter 1 = .ok (.iload_n 1, 1) := by decide +kernel
theorem dX10_savedLetter_2 : decode cX10_savedLetter 2 = .ok (.invokevirtual 53, 3) := by decide +kernel
theorem dX10_savedLetter_5 : decode cX10_savedLetter 5 = .ok (.astore_n 3, 1) := by decide +kernel
theorem dX10_savedLetter_6 : decode cX10_savedLetter 6 = .ok (.iload_n 2, 1) := by decide +kernel
theorem dX10_savedLetter_7 : decode cX10_savedLetter 7 = .ok (.ifCond .lt 11, 3) := by decide +kernel
theorem dX10_savedLetter_10 : decode cX10_savedLetter 10 = .ok (.iload_n 2, 1) := by decide +kernel
theorem dX10_savedLetter_11 : decode cX10_savedLetter 11 = .ok (.aload_n 3, 1) := by decide +kernel
theorem dX10_savedLetter_12 : decode cX10_savedLetter 12 = .ok (.getfield 261, 3) := by decide +kernel
theorem dX10_savedLetter_15 : decode cX10_savedLetter 15 = .ok (.if_icmp .lt 13, 3) := by decide +kernel
theorem dX10_savedLetter_18 : decode cX10_savedLetter 18 = .ok (.new 113, 3) := by decide +kernel
theorem dX10_savedLetter_21 : decode cX10_savedLetter 21 = .ok (.dup, 1) := by decide +kernel
theorem dX10_savedLetter_22 : decode cX10_savedLetter 22 = .ok (.ldc 115, 2) := by decide +kernel
theorem dX10_savedLetter_24 : decode cX10_savedLetter 24 = .ok (.invokespecial 117, 3) := by decide +kernel
theorem dX10_savedLetter_27 : decode cX10_savedLetter 27 = .ok (.athrow, 1) := by decide +kernel
theorem dX10_savedLetter_28 : decode cX10_savedLetter 28 = .ok (.aload_n 3, 1) := by decide +kernel
theorem dX10_savedLetter_29 : decode cX10_savedLetter 29 = .ok (.getfield 264, 3) := by decide +kernel
theorem dX10_savedLetter_32 : decode cX10_savedLetter 32 = .ok (.iload_n 2, 1) := by decide +kernel
theorem dX10_savedLetter_33 : decode cX10_savedLetter 33 = .ok (.caload, 1) := by decide +kernel
theorem dX10_savedLetter_34 : decode cX10_savedLetter 34 = .ok (.ireturn, 1) := by decide +kernel
theorem dX10_handAt_0 : decode cX10_handAt 0 = .ok (.iload_n 1, 1) := by decide +kernel
theorem dX10_handAt_1 : decode cX10_handAt 1 = .ok (.ifCond .lt 17, 3) := by decide +kernel
theorem dX10_handAt_4 : decode cX10_handAt 4 = .ok (.iload_n 1, 1) := by decide +kernel
theorem dX10_handAt_5 : decode cX10_handAt 5 = .ok (.iconst 5, 1) := by decide +kernel
theorem dX10_handAt_6 : decode cX10_handAt 6 = .ok (.if_icmp .ge 12, 3) := by decide +kernel
theorem dX10_handAt_9 : decode cX10_handAt 9 = .ok (.aload_n 0, 1) := by decide +kernel
theorem dX10_handAt_10 : decode cX10_handAt 10 = .ok (.getfield 17, 3) := by decide +kernel
theorem dX10_handAt_13 : decode cX10_handAt 13 = .ok (.iload_n 1, 1) := by decide +kernel
theorem dX10_handAt_14 : decode cX10_handAt 14 = .ok (.aaload, 1) := by decide +kernel
theorem dX10_handAt_15 : decode cX10_handAt 15 = .ok (.goto 4, 3) := by decide +kernel
theorem dX10_handAt_18 : decode cX10_handAt 18 = .ok (.aconst_null, 1) := by decide +kernel
theorem dX10_handAt_19 : decode cX10_handAt 19 = .ok (.astore_n 2, 1) := by decide +kernel
theorem dX10_handAt_20 : decode cX10_handAt 20 = .ok (.aload_n 2, 1) := by decide +kernel
theorem dX10_handAt_21 : decode cX10_handAt 21 = .ok (.ifnonnull 14, 3) := by decide +kernel
theorem dX10_handAt_24 : decode cX10_handAt 24 = .ok (.new 113, 3) := by decide +kernel
theorem dX10_handAt_27 : decode cX10_handAt 27 = .ok (.dup, 1) := by decide +kernel
theorem dX10_handAt_28 : decode cX10_handAt 28 = .ok (.ldc_w 268, 3) := by decide +kernel
theorem dX10_handAt_31 : decode cX10_handAt 31 = .ok (.invokespecial 117, 3) := by decide +kernel
theorem dX10_handAt_34 : decode cX10_handAt 34 = .ok (.athrow, 1) := by decide +kernel
theorem dX10_handAt_35 : decode cX10_handAt 35 = .ok (.aload_n 2, 1) := by decide +kernel
theorem dX10_handAt_36 : decode cX10_handAt 36 = .ok (.areturn, 1) := by decide +kernel
theorem dX10_textAt_0 : decode cX10_textAt 0 = .ok (.iload_n 1, 1) := by decide +kernel
theorem dX10_textAt_1 : decode cX10_textAt 1 = .ok (.ifCond .lt 17, 3) := by decide +kernel
theorem dX10_textAt_4 : decode cX10_textAt 4 = .ok (.iload_n 1, 1) := by decide +kernel
theorem dX10_textAt_5 : decode cX10_textAt 5 = .ok (.iconst 3, 1) := by decide +kernel
theorem dX10_textAt_6 : decode cX10_textAt 6 = .ok (.if_icmp .ge 12, 3) := by decide +kernel
theorem dX10_textAt_9 : decode cX10_textAt 9 = .ok (.aload_n 0, 1) := by decide +kernel
theorem dX10_textAt_10 : decode cX10_textAt 10 = .ok (.getfield 11, 3) := by decide +kernel
theorem dX10_textAt_13 : decode cX10_textAt 13 = .ok (.iload_n 1, 1) := by decide +kernel
theorem dX10_textAt_14 : decode cX10_textAt 14 = .ok (.aaload, 1) := by decide +kernel
theorem dX10_textAt_15 : decode cX10_textAt 15 = .ok (.goto 4, 3) := by decide +kernel
theorem dX10_textAt_18 : decode cX10_textAt 18 = .ok (.aconst_null, 1) := by decide +kernel
theorem dX10_textAt_19 : decode cX10_textAt 19 = .ok (.astore_n 2, 1) := by decide +kernel
theorem dX10_textAt_20 : decode cX10_textAt 20 = .ok (.aload_n 2, 1) := by decide +kernel
theorem dX10_textAt_21 : decode cX10_textAt 21 = .ok (.ifnonnull 14, 3) := by decide +kernel
theorem dX10_textAt_24 : decode cX10_textAt 24 = .ok (.new 113, 3) := by decide +kernel
theorem dX10_textAt_27 : decode cX10_textAt 27 = .ok (.dup, 1) := by decide +kernel
theorem dX10_textAt_28 : decode cX10_textAt 28 = .ok (.ldc_w 270, 3) := by decide +kernel
theorem dX10_textAt_31 : decode cX10_textAt 31 = .ok (.invokespecial 117, 3) := by decide +kernel
theorem dX10_textAt_34 : decode cX10_textAt 34 = .ok (.athrow, 1) := by decide +kernel
theorem dX10_textAt_35 : decode cX10_textAt 35 = .ok (.aload_n 2, 1) := by decide +kernel
theorem dX10_textAt_36 : decode cX10_textAt 36 = .ok (.areturn, 1) := by decide +kernel
theorem dX10_formatAt_0 : decode cX10_formatAt 0 = .ok (.iload_n 1, 1) := by decide +kernel
theorem dX10_formatAt_1 : decode cX10_formatAt 1 = .ok (.ifCond .lt 16, 3) := by decide +kernel
theorem dX10_formatAt_4 : decode cX10_formatAt 4 = .ok (.iload_n 1, 1) := by decide +kernel
theorem dX10_formatAt_5 : decode cX10_formatAt 5 = .ok (.aload_n 0, 1) := by decide +kernel
theorem dX10_formatAt_6 : decode cX10_formatAt 6 = .ok (.getfield 24, 3) := by decide +kernel
theorem dX10_formatAt_9 : decode cX10_formatAt 9 = .ok (.invokeinterface 168 1, 5) := by decide +kernel
theorem dX10_formatAt_14 : decode cX10_formatAt 14 = .ok (.if_icmp .lt 14, 3) := by decide +kernel
theorem dX10_formatAt_17 : decode cX10_formatAt 17 = .ok (.new 113, 3) := by decide +kernel
theorem dX10_formatAt_20 : decode cX10_formatAt 20 = .ok (.dup, 1) := by decide +kernel
theorem dX10_formatAt_21 : decode cX10_formatAt 21 = .ok (.ldc_w 272, 3) := by decide +kernel
theorem dX10_formatAt_24 : decode cX10_formatAt 24 = .ok (.invokespecial 117, 3) := by decide +kernel
theorem dX10_formatAt_27 : decode cX10_formatAt 27 = .ok (.athrow, 1) := by decide +kernel
theorem dX10_formatAt_28 : decode cX10_formatAt 28 = .ok (.aload_n 0, 1) := by decide +kernel
theorem dX10_formatAt_29 : decode cX10_formatAt 29 = .ok (.getfield 24, 3) := by decide +kernel
theorem dX10_formatAt_32 : decode cX10_formatAt 32 = .ok (.iload_n 1, 1) := by decide +kernel
theorem dX10_formatAt_33 : decode cX10_formatAt 33 = .ok (.invokeinterface 239 2, 5) := by decide +kernel
theorem dX10_formatAt_38 : decode cX10_formatAt 38 = .ok (.checkcast 179, 3) := by decide +kernel
theorem dX10_formatAt_41 : decode cX10_formatAt 41 = .ok (.areturn, 1) := by decide +kernel
theorem dX10_waitingFormatAt_0 : decode cX10_waitingFormatAt 0 = .ok (.aload_n 0, 1) := by decide +kernel
theorem dX10_waitingFormatAt_1 : decode cX10_waitingFormatAt 1 = .ok (.iload_n 1, 1) := by decide +kernel
theorem dX10_waitingFormatAt_2 : decode cX10_waitingFormatAt 2 = .ok (.invokevirtual 208, 3) := by decide +kernel
theorem dX10_waitingFormatAt_5 : decode cX10_waitingFormatAt 5 = .ok (.astore_n 2, 1) := by decide +kernel
theorem dX10_waitingFormatAt_6 : decode cX10_waitingFormatAt 6 = .ok (.aload_n 2, 1) := by decide +kernel
theorem dX10_waitingFormatAt_7 : decode cX10_waitingFormatAt 7 = .ok (.getfield 211, 3) := by decide +kernel
theorem dX10_waitingFormatAt_10 : decode cX10_waitingFormatAt 10 = .ok (.ifCond .eq 14, 3) := by decide +kernel
theorem dX10_waitingFormatAt_13 : decode cX10_waitingFormatAt 13 = .ok (.new 78, 3) := by decide +kernel
theorem dX10_waitingFormatAt_16 : decode cX10_waitingFormatAt 16 = .ok (.dup, 1) := by decide +kernel
theorem dX10_waitingFormatAt_17 : decode cX10_waitingFormatAt 17 = .ok (.ldc_w 274, 3) := by decide +kernel
theorem dX10_waitingFormatAt_20 : decode cX10_waitingFormatAt 20 = .ok (.invokespecial 82, 3) := by decide +kernel
theorem dX10_waitingFormatAt_23 : decode cX10_waitingFormatAt 23 = .ok (.athrow, 1) := by decide +kernel
theorem dX10_waitingFormatAt_24 : decode cX10_waitingFormatAt 24 = .ok (.aload_n 2, 1) := by decide +kernel
theorem dX10_waitingFormatAt_25 : decode cX10_waitingFormatAt 25 = .ok (.areturn, 1) := by decide +kernel
theorem dX10_isFirstForItsText_0 : decode cX10_isFirstForItsText 0 = .ok (.iconst 0, 1) := by decide +kernel
theorem dX10_isFirstForItsText_1 : decode cX10_isFirstForItsText 1 = .ok (.istore_n 2, 1) := by decide +kernel
theorem dX10_isFirstForItsText_2 : decode cX10_isFirstForItsText 2 = .ok (.iload_n 2, 1) := by decide +kernel
theorem dX10_isFirstForItsText_3 : decode cX10_isFirstForItsText 3 = .ok (.aload_n 0, 1) := by decide +kernel
theorem dX10_isFirstForItsText_4 : decode cX10_isFirstForItsText 4 = .ok (.getfield 28, 3) := by decide +kernel
theorem dX10_isFirstForItsText_7 : decode cX10_isFirstForItsText 7 = .ok (.invokeinterface 168 1, 5) := by decide +kernel
theorem dX10_isFirstForItsText_12 : decode cX10_isFirstForItsText 12 = .ok (.if_icmp .ge 52, 3) := by decide +kernel
theorem dX10_isFirstForItsText_15 : decode cX10_isFirstForItsText 15 = .ok (.aload_n 0, 1) := by decide +kernel
theorem dX10_isFirstForItsText_16 : decode cX10_isFirstForItsText 16 = .ok (.getfield 28, 3) := by decide +kernel
theorem dX10_isFirstForItsText_19 : decode cX10_isFirstForItsText 19 = .ok (.iload_n 2, 1) := by decide +kernel
theorem dX10_isFirstForItsText_20 : decode cX10_isFirstForItsText 20 = .ok (.invokeinterface 239 2, 5) := by decide +kernel
theorem dX10_isFirstForItsText_25 : decode cX10_isFirstForItsText 25 = .ok (.checkcast 234, 3) := by decide +kernel
theorem dX10_isFirstForItsText_28 : decode cX10_isFirstForItsText 28 = .ok (.getfield 253, 3) := by decide +kernel
theorem dX10_isFirstForItsText_31 : decode cX10_isFirstForItsText 31 = .ok (.aload_n 1, 1) := by decide +kernel
theorem dX10_isFirstForItsText_32 : decode cX10_isFirstForItsText 32 = .ok (.getfield 253, 3) := by decide +kernel
theorem dX10_isFirstForItsText_35 : decode cX10_isFirstForItsText 35 = .ok (.if_acmp .ne 23, 3) := by decide +kernel
theorem dX10_isFirstForItsText_38 : decode cX10_isFirstForItsText 38 = .ok (.aload_n 0, 1) := by decide +kernel
theorem dX10_isFirstForItsText_39 : decode cX10_isFirstForItsText 39 = .ok (.getfield 28, 3) := by decide +kernel
theorem dX10_isFirstForItsText_42 : decode cX10_isFirstForItsText 42 = .ok (.iload_n 2, 1) := by decide +kernel
theorem dX10_isFirstForItsText_43 : decode cX10_isFirstForItsText 43 = .ok (.invokeinterface 239 2, 5) := by decide +kernel
theorem dX10_isFirstForItsText_48 : decode cX10_isFirstForItsText 48 = .ok (.aload_n 1, 1) := by decide +kernel
theorem dX10_isFirstForItsText_49 : decode cX10_isFirstForItsText 49 = .ok (.if_acmp .ne 7, 3) := by decide +kernel
theorem dX10_isFirstForItsText_52 : decode cX10_isFirstForItsText 52 = .ok (.iconst 1, 1) := by decide +kernel
theorem dX10_isFirstForItsText_53 : decode cX10_isFirstForItsText 53 = .ok (.goto 4, 3) := by decide +kernel
theorem dX10_isFirstForItsText_56 : decode cX10_isFirstForItsText 56 = .ok (.iconst 0, 1) := by decide +kernel
theorem dX10_isFirstForItsText_57 : decode cX10_isFirstForItsText 57 = .ok (.ireturn, 1) := by decide +kernel
theorem dX10_isFirstForItsText_58 : decode cX10_isFirstForItsText 58 = .ok (.iinc 2 1, 3) := by decide +kernel
theorem dX10_isFirstForItsText_61 : decode cX10_isFirstForItsText 61 = .ok (.goto (-59), 3) := by decide +kernel
theorem dX10_isFirstForItsText_64 : decode cX10_isFirstForItsText 64 = .ok (.iconst 0, 1) := by decide +kernel
theorem dX10_isFirstForItsText_65 : decode cX10_isFirstForItsText 65 = .ok (.ireturn, 1) := by decide +kernel
theorem dX10_shownSign_0 : decode cX10_shownSign 0 = .ok (.aload_n 0, 1) := by decide +kernel
theorem dX10_shownSign_1 : decode cX10_shownSign 1 = .ok (.iload_n 1, 1) := by decide +kernel
theorem dX10_shownSign_2 : decode cX10_shownSign 2 = .ok (.invokevirtual 118, 3) := by decide +kernel
theorem dX10_shownSign_5 : decode cX10_shownSign 5 = .ok (.istore_n 2, 1) := by decide +kernel
theorem dX10_shownSign_6 : decode cX10_shownSign 6 = .ok (.iload_n 2, 1) := by decide +kernel
theorem dX10_shownSign_7 : decode cX10_shownSign 7 = .ok (.iconst (-1), 1) := by decide +kernel
theorem dX10_shownSign_8 : decode cX10_shownSign 8 = .ok (.if_icmp .ne 13, 3) := by decide +kernel
theorem dX10_shownSign_11 : decode cX10_shownSign 11 = .ok (.new 113, 3) := by decide +kernel
theorem dX10_shownSign_14 : decode cX10_shownSign 14 = .ok (.dup, 1) := by decide +kernel
theorem dX10_shownSign_15 : decode cX10_shownSign 15 = .ok (.ldc 115, 2) := by decide +kernel
theorem dX10_shownSign_17 : decode cX10_shownSign 17 = .ok (.invokespecial 117, 3) := by decide +kernel
theorem dX10_shownSign_20 : decode cX10_shownSign 20 = .ok (.athrow, 1) := by decide +kernel
theorem dX10_shownSign_21 : decode cX10_shownSign 21 = .ok (.aload_n 0, 1) := by decide +kernel
theorem dX10_shownSign_22 : decode cX10_shownSign 22 = .ok (.iload_n 2, 1) := by decide +kernel
theorem dX10_shownSign_23 : decode cX10_shownSign 23 = .ok (.invokevirtual 276, 3) := by decide +kernel
theorem dX10_shownSign_26 : decode cX10_shownSign 26 = .ok (.ireturn, 1) := by decide +kernel
theorem dX10_canBeTyped_0 : decode cX10_canBeTyped 0 = .ok (.iload_n 0, 1) := by decide +kernel
theorem dX10_canBeTyped_1 : decode cX10_canBeTyped 1 = .ok (.bipush 97, 2) := by decide +kernel
theorem dX10_canBeTyped_3 : decode cX10_canBeTyped 3 = .ok (.if_icmp .lt 9, 3) := by decide +kernel
theorem dX10_canBeTyped_6 : decode cX10_canBeTyped 6 = .ok (.iload_n 0, 1) := by decide +kernel
theorem dX10_canBeTyped_7 : decode cX10_canBeTyped 7 = .ok (.bipush 122, 2) := by decide +kernel
theorem dX10_canBeTyped_9 : decode cX10_canBeTyped 9 = .ok (.if_icmp .le 39, 3) := by decide +kernel
theorem dX10_canBeTyped_12 : decode cX10_canBeTyped 12 = .ok (.iload_n 0, 1) := by decide +kernel
theorem dX10_canBeTyped_13 : decode cX10_canBeTyped 13 = .ok (.bipush 65, 2) := by decide +kernel
theorem dX10_canBeTyped_15 : decode cX10_canBeTyped 15 = .ok (.if_icmp .lt 9, 3) := by decide +kernel
theorem dX10_canBeTyped_18 : decode cX10_canBeTyped 18 = .ok (.iload_n 0, 1) := by decide +kernel
theorem dX10_canBeTyped_19 : decode cX10_canBeTyped 19 = .ok (.bipush 90, 2) := by decide +kernel
theorem dX10_canBeTyped_21 : decode cX10_canBeTyped 21 = .ok (.if_icmp .le 27, 3) := by decide +kernel
theorem dX10_canBeTyped_24 : decode cX10_canBeTyped 24 = .ok (.iload_n 0, 1) := by decide +kernel
theorem dX10_canBeTyped_25 : decode cX10_canBeTyped 25 = .ok (.bipush 48, 2) := by decide +kernel
theorem dX10_canBeTyped_27 : decode cX10_canBeTyped 27 = .ok (.if_icmp .lt 9, 3) := by decide +kernel
theorem dX10_canBeTyped_30 : decode cX10_canBeTyped 30 = .ok (.iload_n 0, 1) := by decide +kernel
theorem dX10_canBeTyped_31 : decode cX10_canBeTyped 31 = .ok (.bipush 57, 2) := by decide +kernel
theorem dX10_canBeTyped_33 : decode cX10_canBeTyped 33 = .ok (.if_icmp .le 15, 3) := by decide +kernel
theorem dX10_canBeTyped_36 : decode cX10_canBeTyped 36 = .ok (.iload_n 0, 1) := by decide +kernel
theorem dX10_canBeTyped_37 : decode cX10_canBeTyped 37 = .ok (.bipush 32, 2) := by decide +kernel
theorem dX10_canBeTyped_39 : decode cX10_canBeTyped 39 = .ok (.if_icmp .eq 9, 3) := by decide +kernel
theorem dX10_canBeTyped_42 : decode cX10_canBeTyped 42 = .ok (.iload_n 0, 1) := by decide +kernel
theorem dX10_canBeTyped_43 : decode cX10_canBeTyped 43 = .ok (.bipush 47, 2) := by decide +kernel
theorem dX10_canBeTyped_45 : decode cX10_canBeTyped 45 = .ok (.if_icmp .ne 7, 3) := by decide +kernel
theorem dX10_canBeTyped_48 : decode cX10_canBeTyped 48 = .ok (.iconst 1, 1) := by decide +kernel
theorem dX10_canBeTyped_49 : decode cX10_canBeTyped 49 = .ok (.goto 4, 3) := by decide +kernel
theorem dX10_canBeTyped_52 : decode cX10_canBeTyped 52 = .ok (.iconst 0, 1) := by decide +kernel
theorem dX10_canBeTyped_53 : decode cX10_canBeTyped 53 = .ok (.ireturn, 1) := by decide +kernel
theorem dX10_canBeAsked_0 : decode cX10_canBeAsked 0 = .ok (.iload_n 0, 1) := by decide +kernel
theorem dX10_canBeAsked_1 : decode cX10_canBeAsked 1 = .ok (.iconst 3, 1) := by decide +kernel
theorem dX10_canBeAsked_2 : decode cX10_canBeAsked 2 = .ok (.if_icmp .ne 20, 3) := by decide +kernel
theorem dX10_canBeAsked_5 : decode cX10_canBeAsked 5 = .ok (.iload_n 1, 1) := by decide +kernel
theorem dX10_canBeAsked_6 : decode cX10_canBeAsked 6 = .ok (.iconst 5, 1) := by decide +kernel
theorem dX10_canBeAsked_7 : decode cX10_canBeAsked 7 = .ok (.if_icmp .lt 13, 3) := by decide +kernel
theorem dX10_canBeAsked_10 : decode cX10_canBeAsked 10 = .ok (.iload_n 1, 1) := by decide +kernel
theorem dX10_canBeAsked_11 : decode cX10_canBeAsked 11 = .ok (.bipush 40, 2) := by decide +kernel
theorem dX10_canBeAsked_13 : decode cX10_canBeAsked 13 = .ok (.if_icmp .gt 7, 3) := by decide +kernel
theorem dX10_canBeAsked_16 : decode cX10_canBeAsked 16 = .ok (.iconst 1, 1) := by decide +kernel
theorem dX10_canBeAsked_17 : decode cX10_canBeAsked 17 = .ok (.goto 4, 3) := by decide +kernel
theorem dX10_canBeAsked_20 : decode cX10_canBeAsked 20 = .ok (.iconst 0, 1) := by decide +kernel
theorem dX10_canBeAsked_21 : decode cX10_canBeAsked 21 = .ok (.ireturn, 1) := by decide +kernel
theorem dX10_canBeAsked_22 : decode cX10_canBeAsked 22 = .ok (.iload_n 0, 1) := by decide +kernel
theorem dX10_canBeAsked_23 : decode cX10_canBeAsked 23 = .ok (.ifCond .eq 13, 3) := by decide +kernel
theorem dX10_canBeAsked_26 : decode cX10_canBeAsked 26 = .ok (.iload_n 0, 1) := by decide +kernel
theorem dX10_canBeAsked_27 : decode cX10_canBeAsked 27 = .ok (.iconst 1, 1) := by decide +kernel
theorem dX10_canBeAsked_28 : decode cX10_canBeAsked 28 = .ok (.if_icmp .eq 8, 3) := by decide +kernel
theorem dX10_canBeAsked_31 : decode cX10_canBeAsked 31 = .ok (.iload_n 0, 1) := by decide +kernel
theorem dX10_canBeAsked_32 : decode cX10_canBeAsked 32 = .ok (.iconst 2, 1) := by decide +kernel
theorem dX10_canBeAsked_33 : decode cX10_canBeAsked 33 = .ok (.if_icmp .ne 11, 3) := by decide +kernel
theorem dX10_canBeAsked_36 : decode cX10_canBeAsked 36 = .ok (.iload_n 1, 1) := by decide +kernel
theorem dX10_canBeAsked_37 : decode cX10_canBeAsked 37 = .ok (.ifCond .ne 7, 3) := by decide +kernel
theorem dX10_canBeAsked_40 : decode cX10_canBeAsked 40 = .ok (.iconst 1, 1) := by decide +kernel
theorem dX10_canBeAsked_41 : decode cX10_canBeAsked 41 = .ok (.goto 4, 3) := by decide +kernel
theorem dX10_canBeAsked_44 : decode cX10_canBeAsked 44 = .ok (.iconst 0, 1) := by decide +kernel
theorem dX10_canBeAsked_45 : decode cX10_canBeAsked 45 = .ok (.ireturn, 1) := by decide +kernel
theorem dJ9_max_7cf53_0 : decode cJ9_max_7cf53 0 = .ok (.iload_n 0, 1) := by decide +kernel
theorem dJ9_max_7cf53_1 : decode cJ9_max_7cf53 1 = .ok (.iload_n 1, 1) := by decide +kernel
theorem dJ9_max_7cf53_2 : decode cJ9_max_7cf53 2 = .ok (.if_icmp .lt 7, 3) := by decide +kernel
theorem dJ9_max_7cf53_5 : decode cJ9_max_7cf53 5 = .ok (.iload_n 0, 1) := by decide +kernel
theorem dJ9_max_7cf53_6 : decode cJ9_max_7cf53 6 = .ok (.goto 4, 3) := by decide +kernel
theorem dJ9_max_7cf53_9 : decode cJ9_max_7cf53 9 = .ok (.iload_n 1, 1) := by decide +kernel
theorem dJ9_max_7cf53_10 : decode cJ9_max_7cf53 10 = .ok (.ireturn, 1) := by decide +kernel
theorem dJ9_min_7cf53_0 : decode cJ9_min_7cf53 0 = .ok (.iload_n 0, 1) := by decide +kernel
theorem dJ9_min_7cf53_1 : decode cJ9_min_7cf53 1 = .ok (.iload_n 1, 1) := by decide +kernel
theorem dJ9_min_7cf53_2 : decode cJ9_min_7cf53 2 = .ok (.if_icmp .gt 7, 3) := by decide +kernel
theorem dJ9_min_7cf53_5 : decode cJ9_min_7cf53 5 = .ok (.iload_n 0, 1) := by decide +kernel
theorem dJ9_min_7cf53_6 : decode cJ9_min_7cf53 6 = .ok (.goto 4, 3) := by decide +kernel
theorem dJ9_min_7cf53_9 : decode cJ9_min_7cf53 9 = .ok (.iload_n 1, 1) := by decide +kernel
theorem dJ9_min_7cf53_10 : decode cJ9_min_7cf53 10 = .ok (.ireturn, 1) := by decide +kernel
theorem dJxa1e45_init_da8c8_0 : decode cJxa1e45_init_da8c8 0 = .ok (.aload_n 0, 1) := by decide +kernel
theorem dJxa1e45_init_da8c8_1 : decode cJxa1e45_init_da8c8 1 = .ok (.invokespecial 1, 3) := by decide +kernel
theorem dJxa1e45_init_da8c8_4 : decode cJxa1e45_init_da8c8 4 = .ok (.return_, 1) := by decide +kernel
theorem dJxc12de_init_da8c8_0 : decode cJxc12de_init_da8c8 0 = .ok (.aload_n 0, 1) := by decide +kernel
theorem dJxc12de_init_da8c8_1 : decode cJxc12de_init_da8c8 1 = .ok (.invokespecial 1, 3) := by decide +kernel
theorem dJxc12de_init_da8c8_4 : decode cJxc12de_init_da8c8 4 = .ok (.aload_n 0, 1) := by decide +kernel
theorem dJxc12de_init_da8c8_5 : decode cJxc12de_init_da8c8 5 = .ok (.iconst 0, 1) := by decide +kernel
theorem dJxc12de_init_da8c8_6 : decode cJxc12de_init_da8c8 6 = .ok (.putfield 7, 3) := by decide +kernel
theorem dJxc12de_init_da8c8_9 : decode cJxc12de_init_da8c8 9 = .ok (.return_, 1) := by decide +kernel
theorem dJx4a65c_init_da8c8_0 : decode cJx4a65c_init_da8c8 0 = .ok (.aload_n 0, 1) := by decide +kernel
theorem dJx4a65c_init_da8c8_1 : decode cJx4a65c_init_da8c8 1 = .ok (.invokespecial 1, 3) := by decide +kernel
theorem dJx4a65c_init_da8c8_4 : decode cJx4a65c_init_da8c8 4 = .ok (.aload_n 0, 1) := by decide +kernel
theorem dJx4a65c_init_da8c8_5 : decode cJx4a65c_init_da8c8 5 = .ok (.getstatic 39, 3) := by decide +kernel
theorem dJx4a65c_init_da8c8_8 : decode cJx4a65c_init_da8c8 8 = .ok (.putfield 9, 3) := by decide +kernel
theorem dJx4a65c_init_da8c8_11 : decode cJx4a65c_init_da8c8 11 = .ok (.return_, 1) := by decide +kernel
theorem dJx4a65c_grow_92f84_0 : decode cJx4a65c_grow_92f84 0 = .ok (.aload_n 0, 1) := by decide +kernel
theorem dJx4a65c_grow_92f84_1 : decode cJx4a65c_grow_92f84 1 = .ok (.getfield 9, 3) := by decide +kernel
theorem dJx4a65c_grow_92f84_4 : decode cJx4a65c_grow_92f84 4 = .ok (.arraylength, 1) := by decide +kernel
theorem dJx4a65c_grow_92f84_5 : decode cJx4a65c_grow_92f84 5 = .ok (.istore_n 2, 1) := by decide +kernel
theorem dJx4a65c_grow_92f84_6 : decode cJx4a65c_grow_92f84 6 = .ok (.iload_n 2, 1) := by decide +kernel
theorem dJx4a65c_grow_92f84_7 : decode cJx4a65c_grow_92f84 7 = .ok (.ifCond .gt 13, 3) := by decide +kernel
theorem dJx4a65c_grow_92f84_10 : decode cJx4a65c_grow_92f84 10 = .ok (.aload_n 0, 1) := by decide +kernel
theorem dJx4a65c_grow_92f84_11 : decode cJx4a65c_grow_92f84 11 = .ok (.getfield 9, 3) := by decide +kernel
theorem dJx4a65c_grow_92f84_14 : decode cJx4a65c_grow_92f84 14 = .ok (.getstatic 39, 3) := by decide +kernel
theorem dJx4a65c_grow_92f84_17 : decode cJx4a65c_grow_92f84 17 = .ok (.if_acmp .eq 28, 3) := by decide +kernel
theorem dJx4a65c_grow_92f84_20 : decode cJx4a65c_grow_92f84 20 = .ok (.iload_n 2, 1) := by decide +kernel
theorem dJx4a65c_grow_92f84_21 : decode cJx4a65c_grow_92f84 21 = .ok (.iload_n 1, 1) := by decide +kernel
theorem dJx4a65c_grow_92f84_22 : decode cJx4a65c_grow_92f84 22 = .ok (.iload_n 2, 1) := by decide +kernel
theorem dJx4a65c_grow_92f84_23 : decode cJx4a65c_grow_92f84 23 = .ok (.isub, 1) := by decide +kernel
theorem dJx4a65c_grow_92f84_24 : decode cJx4a65c_grow_92f84 24 = .ok (.iload_n 2, 1) := by decide +kernel
theorem dJx4a65c_grow_92f84_25 : decode cJx4a65c_grow_92f84 25 = .ok (.iconst 1, 1) := by decide +kernel
theorem dJx4a65c_grow_92f84_26 : decode cJx4a65c_grow_92f84 26 = .ok (.ishr, 1) := by decide +kernel
theorem dJx4a65c_grow_92f84_27 : decode cJx4a65c_grow_92f84 27 = .ok (.invokestatic 73, 3) := by decide +kernel
theorem dJx4a65c_grow_92f84_30 : decode cJx4a65c_grow_92f84 30 = .ok (.istore_n 3, 1) := by decide +kernel
theorem dJx4a65c_grow_92f84_31 : decode cJx4a65c_grow_92f84 31 = .ok (.aload_n 0, 1) := by decide +kernel
theorem dJx4a65c_grow_92f84_32 : decode cJx4a65c_grow_92f84 32 = .ok (.aload_n 0, 1) := by decide +kernel
theorem dJx4a65c_grow_92f84_33 : decode cJx4a65c_grow_92f84 33 = .ok (.getfield 9, 3) := by decide +kernel
theorem dJx4a65c_grow_92f84_36 : decode cJx4a65c_grow_92f84 36 = .ok (.iload_n 3, 1) := by decide +kernel
theorem dJx4a65c_grow_92f84_37 : decode cJx4a65c_grow_92f84 37 = .ok (.invokestatic 66, 3) := by decide +kernel
theorem dJx4a65c_grow_92f84_40 : decode cJx4a65c_grow_92f84 40 = .ok (.dup_x1, 1) := by decide +kernel
theorem dJx4a65c_grow_92f84_41 : decode cJx4a65c_grow_92f84 41 = .ok (.putfield 9, 3) := by decide +kernel
theorem dJx4a65c_grow_92f84_44 : decode cJx4a65c_grow_92f84 44 = .ok (.areturn, 1) := by decide +kernel
theorem dJx4a65c_grow_92f84_45 : decode cJx4a65c_grow_92f84 45 = .ok (.aload_n 0, 1) := by decide +kernel
theorem dJx4a65c_grow_92f84_46 : decode cJx4a65c_grow_92f84 46 = .ok (.bipush 10, 2) := by decide +kernel
theorem dJx4a65c_grow_92f84_48 : decode cJx4a65c_grow_92f84 48 = .ok (.iload_n 1, 1) := by decide +kernel
theorem dJx4a65c_grow_92f84_49 : decode cJx4a65c_grow_92f84 49 = .ok (.invokestatic 79, 3) := by decide +kernel
theorem dJx4a65c_grow_92f84_52 : decode cJx4a65c_grow_92f84 52 = .ok (.anewarray 7, 3) := by decide +kernel
theorem dJx4a65c_grow_92f84_55 : decode cJx4a65c_grow_92f84 55 = .ok (.dup_x1, 1) := by decide +kernel
theorem dJx4a65c_grow_92f84_56 : decode cJx4a65c_grow_92f84 56 = .ok (.putfield 9, 3) := by decide +kernel
theorem dJx4a65c_grow_92f84_59 : decode cJx4a65c_grow_92f84 59 = .ok (.areturn, 1) := by decide +kernel
theorem dJx4a65c_grow_d5877_0 : decode cJx4a65c_grow_d5877 0 = .ok (.aload_n 0, 1) := by decide +kernel
theorem dJx4a65c_grow_d5877_1 : decode cJx4a65c_grow_d5877 1 = .ok (.aload_n 0, 1) := by decide +kernel
theorem dJx4a65c_grow_d5877_2 : decode cJx4a65c_grow_d5877 2 = .ok (.getfield 48, 3) := by decide +kernel
theorem dJx4a65c_grow_d5877_5 : decode cJx4a65c_grow_d5877 5 = .ok (.iconst 1, 1) := by decide +kernel
theorem dJx4a65c_grow_d5877_6 : decode cJx4a65c_grow_d5877 6 = .ok (.iadd, 1) := by decide +kernel
theorem dJx4a65c_grow_d5877_7 : decode cJx4a65c_grow_d5877 7 = .ok (.invokevirtual 69, 3) := by decide +kernel
theorem dJx4a65c_grow_d5877_10 : decode cJx4a65c_grow_d5877 10 = .ok (.areturn, 1) := by decide +kernel
theorem dJx4a65c_size_8abf5_0 : decode cJx4a65c_size_8abf5 0 = .ok (.aload_n 0, 1) := by decide +kernel
theorem dJx4a65c_size_8abf5_1 : decode cJx4a65c_size_8abf5 1 = .ok (.getfield 48, 3) := by decide +kernel
theorem dJx4a65c_size_8abf5_4 : decode cJx4a65c_size_8abf5 4 = .ok (.ireturn, 1) := by decide +kernel
theorem dJx4a65c_elementData_915e3_0 : decode cJx4a65c_elementData_915e3 0 = .ok (.aload_n 0, 1) := by decide +kernel
theorem dJx4a65c_elementData_915e3_1 : decode cJx4a65c_elementData_915e3 1 = .ok (.getfield 9, 3) := by decide +kernel
theorem dJx4a65c_elementData_915e3_4 : decode cJx4a65c_elementData_915e3 4 = .ok (.iload_n 1, 1) := by decide +kernel
theorem dJx4a65c_elementData_915e3_5 : decode cJx4a65c_elementData_915e3 5 = .ok (.aaload, 1) := by decide +kernel
theorem dJx4a65c_elementData_915e3_6 : decode cJx4a65c_elementData_915e3 6 = .ok (.areturn, 1) := by decide +kernel
theorem dJx4a65c_get_915e3_0 : decode cJx4a65c_get_915e3 0 = .ok (.iload_n 1, 1) := by decide +kernel
theorem dJx4a65c_get_915e3_1 : decode cJx4a65c_get_915e3 1 = .ok (.aload_n 0, 1) := by decide +kernel
theorem dJx4a65c_get_915e3_2 : decode cJx4a65c_get_915e3 2 = .ok (.getfield 48, 3) := by decide +kernel
theorem dJx4a65c_get_915e3_5 : decode cJx4a65c_get_915e3 5 = .ok (.invokestatic 118, 3) := by decide +kernel
theorem dJx4a65c_get_915e3_8 : decode cJx4a65c_get_915e3 8 = .ok (.pop, 1) := by decide +kernel
theorem dJx4a65c_get_915e3_9 : decode cJx4a65c_get_915e3 9 = .ok (.aload_n 0, 1) := by decide +kernel
theorem dJx4a65c_get_915e3_10 : decode cJx4a65c_get_915e3 10 = .ok (.iload_n 1, 1) := by decide +kernel
theorem dJx4a65c_get_915e3_11 : decode cJx4a65c_get_915e3 11 = .ok (.invokevirtual 123, 3) := by decide +kernel
theorem dJx4a65c_get_915e3_14 : decode cJx4a65c_get_915e3 14 = .ok (.areturn, 1) := by decide +kernel
theorem dJx4a65c_add_72be8_0 : decode cJx4a65c_add_72be8 0 = .ok (.iload_n 3, 1) := by decide +kernel
theorem dJx4a65c_add_72be8_1 : decode cJx4a65c_add_72be8 1 = .ok (.aload_n 2, 1) := by decide +kernel
theorem dJx4a65c_add_72be8_2 : decode cJx4a65c_add_72be8 2 = .ok (.arraylength, 1) := by decide +kernel
theorem dJx4a65c_add_72be8_3 : decode cJx4a65c_add_72be8 3 = .ok (.if_icmp .ne 8, 3) := by decide +kernel
theorem dJx4a65c_add_72be8_6 : decode cJx4a65c_add_72be8 6 = .ok (.aload_n 0, 1) := by decide +kernel
theorem dJx4a65c_add_72be8_7 : decode cJx4a65c_add_72be8 7 = .ok (.invokevirtual 129, 3) := by decide +kernel
theorem dJx4a65c_add_72be8_10 : decode cJx4a65c_add_72be8 10 = .ok (.astore_n 2, 1) := by decide +kernel
theorem dJx4a65c_add_72be8_11 : decode cJx4a65c_add_72be8 11 = .ok (.aload_n 2, 1) := by decide +kernel
theorem dJx4a65c_add_72be8_12 : decode cJx4a65c_add_72be8 12 = .ok (.iload_n 3, 1) := by decide +kernel
theorem dJx4a65c_add_72be8_13 : decode cJx4a65c_add_72be8 13 = .ok (.aload_n 1, 1) := by decide +kernel
theorem dJx4a65c_add_72be8_14 : decode cJx4a65c_add_72be8 14 = .ok (.aastore, 1) := by decide +kernel
theorem dJx4a65c_add_72be8_15 : decode cJx4a65c_add_72be8 15 = .ok (.aload_n 0, 1) := by decide +kernel
theorem dJx4a65c_add_72be8_16 : decode cJx4a65c_add_72be8 16 = .ok (.iload_n 3, 1) := by decide +kernel
theorem dJx4a65c_add_72be8_17 : decode cJx4a65c_add_72be8 17 = .ok (.iconst 1, 1) := by decide +kernel
theorem dJx4a65c_add_72be8_18 : decode cJx4a65c_add_72be8 18 = .ok (.iadd, 1) := by decide +kernel
theorem dJx4a65c_add_72be8_19 : decode cJx4a65c_add_72be8 19 = .ok (.putfield 48, 3) := by decide +kernel
theorem dJx4a65c_add_72be8_22 : decode cJx4a65c_add_72be8 22 = .ok (.return_, 1) := by decide +kernel
theorem dJx4a65c_add_9ea2d_0 : decode cJx4a65c_add_9ea2d 0 = .ok (.aload_n 0, 1) := by decide +kernel
theorem dJx4a65c_add_9ea2d_1 : decode cJx4a65c_add_9ea2d 1 = .ok (.dup, 1) := by decide +kernel
theorem dJx4a65c_add_9ea2d_2 : decode cJx4a65c_add_9ea2d 2 = .ok (.getfield 63, 3) := by decide +kernel
theorem dJx4a65c_add_9ea2d_5 : decode cJx4a65c_add_9ea2d 5 = .ok (.iconst 1, 1) := by decide +kernel
theorem dJx4a65c_add_9ea2d_6 : decode cJx4a65c_add_9ea2d 6 = .ok (.iadd, 1) := by decide +kernel
theorem dJx4a65c_add_9ea2d_7 : decode cJx4a65c_add_9ea2d 7 = .ok (.putfield 63, 3) := by decide +kernel
theorem dJx4a65c_add_9ea2d_10 : decode cJx4a65c_add_9ea2d 10 = .ok (.aload_n 0, 1) := by decide +kernel
theorem dJx4a65c_add_9ea2d_11 : decode cJx4a65c_add_9ea2d 11 = .ok (.aload_n 1, 1) := by decide +kernel
theorem dJx4a65c_add_9ea2d_12 : decode cJx4a65c_add_9ea2d 12 = .ok (.aload_n 0, 1) := by decide +kernel
theorem dJx4a65c_add_9ea2d_13 : decode cJx4a65c_add_9ea2d 13 = .ok (.getfield 9, 3) := by decide +kernel
theorem dJx4a65c_add_9ea2d_16 : decode cJx4a65c_add_9ea2d 16 = .ok (.aload_n 0, 1) := by decide +kernel
theorem dJx4a65c_add_9ea2d_17 : decode cJx4a65c_add_9ea2d 17 = .ok (.getfield 48, 3) := by decide +kernel
theorem dJx4a65c_add_9ea2d_20 : decode cJx4a65c_add_9ea2d 20 = .ok (.invokevirtual 131, 3) := by decide +kernel
theorem dJx4a65c_add_9ea2d_23 : decode cJx4a65c_add_9ea2d 23 = .ok (.iconst 1, 1) := by decide +kernel
theorem dJx4a65c_add_9ea2d_24 : decode cJx4a65c_add_9ea2d 24 = .ok (.ireturn, 1) := by decide +kernel
theorem dJx4a65c_remove_915e3_0 : decode cJx4a65c_remove_915e3 0 = .ok (.iload_n 1, 1) := by decide +kernel
theorem dJx4a65c_remove_915e3_1 : decode cJx4a65c_remove_915e3 1 = .ok (.aload_n 0, 1) := by decide +kernel
theorem dJx4a65c_remove_915e3_2 : decode cJx4a65c_remove_915e3 2 = .ok (.getfield 48, 3) := by decide +kernel
theorem dJx4a65c_remove_915e3_5 : decode cJx4a65c_remove_915e3 5 = .ok (.invokestatic 118, 3) := by decide +kernel
theorem dJx4a65c_remove_915e3_8 : decode cJx4a65c_remove_915e3 8 = .ok (.pop, 1) := by decide +kernel
theorem dJx4a65c_remove_915e3_9 : decode cJx4a65c_remove_915e3 9 = .ok (.aload_n 0, 1) := by decide +kernel
theorem dJx4a65c_remove_915e3_10 : decode cJx4a65c_remove_915e3 10 = .ok (.getfield 9, 3) := by decide +kernel
theorem dJx4a65c_remove_915e3_13 : decode cJx4a65c_remove_915e3 13 = .ok (.astore_n 2, 1) := by decide +kernel
theorem dJx4a65c_remove_915e3_14 : decode cJx4a65c_remove_915e3 14 = .ok (.aload_n 2, 1) := by decide +kernel
theorem dJx4a65c_remove_915e3_15 : decode cJx4a65c_remove_915e3 15 = .ok (.iload_n 1, 1) := by decide +kernel
theorem dJx4a65c_remove_915e3_16 : decode cJx4a65c_remove_915e3 16 = .ok (.aaload, 1) := by decide +kernel
theorem dJx4a65c_remove_915e3_17 : decode cJx4a65c_remove_915e3 17 = .ok (.astore_n 3, 1) := by decide +kernel
theorem dJx4a65c_remove_915e3_18 : decode cJx4a65c_remove_915e3 18 = .ok (.aload_n 0, 1) := by decide +kernel
theorem dJx4a65c_remove_915e3_19 : decode cJx4a65c_remove_915e3 19 = .ok (.aload_n 2, 1) := by decide +kernel
theorem dJx4a65c_remove_915e3_20 : decode cJx4a65c_remove_915e3 20 = .ok (.iload_n 1, 1) := by decide +kernel
theorem dJx4a65c_remove_915e3_21 : decode cJx4a65c_remove_915e3 21 = .ok (.invokevirtual 144, 3) := by decide +kernel
theorem dJx4a65c_remove_915e3_24 : decode cJx4a65c_remove_915e3 24 = .ok (.aload_n 3, 1) := by decide +kernel
theorem dJx4a65c_remove_915e3_25 : decode cJx4a65c_remove_915e3 25 = .ok (.areturn, 1) := by decide +kernel
theorem dJx4a65c_fastRemove_b59b0_0 : decode cJx4a65c_fastRemove_b59b0 0 = .ok (.aload_n 0, 1) := by decide +kernel
theorem dJx4a65c_fastRemove_b59b0_1 : decode cJx4a65c_fastRemove_b59b0 1 = .ok (.dup, 1) := by decide +kernel
theorem dJx4a65c_fastRemove_b59b0_2 : decode cJx4a65c_fastRemove_b59b0 2 = .ok (.getfield 63, 3) := by decide +kernel
theorem dJx4a65c_fastRemove_b59b0_5 : decode cJx4a65c_fastRemove_b59b0 5 = .ok (.iconst 1, 1) := by decide +kernel
theorem dJx4a65c_fastRemove_b59b0_6 : decode cJx4a65c_fastRemove_b59b0 6 = .ok (.iadd, 1) := by decide +kernel
theorem dJx4a65c_fastRemove_b59b0_7 : decode cJx4a65c_fastRemove_b59b0 7 = .ok (.putfield 63, 3) := by decide +kernel
theorem dJx4a65c_fastRemove_b59b0_10 : decode cJx4a65c_fastRemove_b59b0 10 = .ok (.aload_n 0, 1) := by decide +kernel
theorem dJx4a65c_fastRemove_b59b0_11 : decode cJx4a65c_fastRemove_b59b0 11 = .ok (.getfield 48, 3) := by decide +kernel
theorem dJx4a65c_fastRemove_b59b0_14 : decode cJx4a65c_fastRemove_b59b0 14 = .ok (.iconst 1, 1) := by decide +kernel
theorem dJx4a65c_fastRemove_b59b0_15 : decode cJx4a65c_fastRemove_b59b0 15 = .ok (.isub, 1) := by decide +kernel
theorem dJx4a65c_fastRemove_b59b0_16 : decode cJx4a65c_fastRemove_b59b0 16 = .ok (.dup, 1) := by decide +kernel
theorem dJx4a65c_fastRemove_b59b0_17 : decode cJx4a65c_fastRemove_b59b0 17 = .ok (.istore_n 3, 1) := by decide +kernel
theorem dJx4a65c_fastRemove_b59b0_18 : decode cJx4a65c_fastRemove_b59b0 18 = .ok (.iload_n 2, 1) := by decide +kernel
theorem dJx4a65c_fastRemove_b59b0_19 : decode cJx4a65c_fastRemove_b59b0 19 = .ok (.if_icmp .le 15, 3) := by decide +kernel
theorem dJx4a65c_fastRemove_b59b0_22 : decode cJx4a65c_fastRemove_b59b0 22 = .ok (.aload_n 1, 1) := by decide +kernel
theorem dJx4a65c_fastRemove_b59b0_23 : decode cJx4a65c_fastRemove_b59b0 23 = .ok (.iload_n 2, 1) := by decide +kernel
theorem dJx4a65c_fastRemove_b59b0_24 : decode cJx4a65c_fastRemove_b59b0 24 = .ok (.iconst 1, 1) := by decide +kernel
theorem dJx4a65c_fastRemove_b59b0_25 : decode cJx4a65c_fastRemove_b59b0 25 = .ok (.iadd, 1) := by decide +kernel
theorem dJx4a65c_fastRemove_b59b0_26 : decode cJx4a65c_fastRemove_b59b0 26 = .ok (.aload_n 1, 1) := by decide +kernel
theorem dJx4a65c_fastRemove_b59b0_27 : decode cJx4a65c_fastRemove_b59b0 27 = .ok (.iload_n 2, 1) := by decide +kernel
theorem dJx4a65c_fastRemove_b59b0_28 : decode cJx4a65c_fastRemove_b59b0 28 = .ok (.iload_n 3, 1) := by decide +kernel
theorem dJx4a65c_fastRemove_b59b0_29 : decode cJx4a65c_fastRemove_b59b0 29 = .ok (.iload_n 2, 1) := by decide +kernel
theorem dJx4a65c_fastRemove_b59b0_30 : decode cJx4a65c_fastRemove_b59b0 30 = .ok (.isub, 1) := by decide +kernel
theorem dJx4a65c_fastRemove_b59b0_31 : decode cJx4a65c_fastRemove_b59b0 31 = .ok (.invokestatic 112, 3) := by decide +kernel
theorem dJx4a65c_fastRemove_b59b0_34 : decode cJx4a65c_fastRemove_b59b0 34 = .ok (.aload_n 1, 1) := by decide +kernel
theorem dJx4a65c_fastRemove_b59b0_35 : decode cJx4a65c_fastRemove_b59b0 35 = .ok (.aload_n 0, 1) := by decide +kernel
theorem dJx4a65c_fastRemove_b59b0_36 : decode cJx4a65c_fastRemove_b59b0 36 = .ok (.iload_n 3, 1) := by decide +kernel
theorem dJx4a65c_fastRemove_b59b0_37 : decode cJx4a65c_fastRemove_b59b0 37 = .ok (.dup_x1, 1) := by decide +kernel
theorem dJx4a65c_fastRemove_b59b0_38 : decode cJx4a65c_fastRemove_b59b0 38 = .ok (.putfield 48, 3) := by decide +kernel
theorem dJx4a65c_fastRemove_b59b0_41 : decode cJx4a65c_fastRemove_b59b0 41 = .ok (.aconst_null, 1) := by decide +kernel
theorem dJx4a65c_fastRemove_b59b0_42 : decode cJx4a65c_fastRemove_b59b0 42 = .ok (.aastore, 1) := by decide +kernel
theorem dJx4a65c_fastRemove_b59b0_43 : decode cJx4a65c_fastRemove_b59b0 43 = .ok (.return_, 1) := by decide +kernel
theorem dJ7_copyOf_1904c_0 : decode cJ7_copyOf_1904c 0 = .ok (.aload_n 0, 1) := by decide +kernel
theorem dJ7_copyOf_1904c_1 : decode cJ7_copyOf_1904c 1 = .ok (.iload_n 1, 1) := by decide +kernel
theorem dJ7_copyOf_1904c_2 : decode cJ7_copyOf_1904c 2 = .ok (.aload_n 0, 1) := by decide +kernel
theorem dJ7_copyOf_1904c_3 : decode cJ7_copyOf_1904c 3 = .ok (.invokevirtual 86, 3) := by decide +kernel
theorem dJ7_copyOf_1904c_6 : decode cJ7_copyOf_1904c 6 = .ok (.invokestatic 300, 3) := by decide +kernel
theorem dJ7_copyOf_1904c_9 : decode cJ7_copyOf_1904c 9 = .ok (.areturn, 1) := by decide +kernel
theorem dJ7_copyOf_6403c_0 : decode cJ7_copyOf_6403c 0 = .ok (.aload_n 2, 1) := by decide +kernel
theorem dJ7_copyOf_6403c_1 : decode cJ7_copyOf_6403c 1 = .ok (.ldc 110, 2) := by decide +kernel
theorem dJ7_copyOf_6403c_3 : decode cJ7_copyOf_6403c 3 = .ok (.if_acmp .ne 10, 3) := by decide +kernel
theorem dJ7_copyOf_6403c_6 : decode cJ7_copyOf_6403c 6 = .ok (.iload_n 1, 1) := by decide +kernel
theorem dJ7_copyOf_6403c_7 : decode cJ7_copyOf_6403c 7 = .ok (.anewarray 2, 3) := by decide +kernel
theorem dJ7_copyOf_6403c_10 : decode cJ7_copyOf_6403c 10 = .ok (.goto 14, 3) := by decide +kernel
theorem dJ7_copyOf_6403c_13 : decode cJ7_copyOf_6403c 13 = .ok (.aload_n 2, 1) := by decide +kernel
theorem dJ7_copyOf_6403c_14 : decode cJ7_copyOf_6403c 14 = .ok (.invokevirtual 90, 3) := by decide +kernel
theorem dJ7_copyOf_6403c_17 : decode cJ7_copyOf_6403c 17 = .ok (.iload_n 1, 1) := by decide +kernel
theorem dJ7_copyOf_6403c_18 : decode cJ7_copyOf_6403c 18 = .ok (.invokestatic 95, 3) := by decide +kernel
theorem dJ7_copyOf_6403c_21 : decode cJ7_copyOf_6403c 21 = .ok (.checkcast 110, 3) := by decide +kernel
theorem dJ7_copyOf_6403c_24 : decode cJ7_copyOf_6403c 24 = .ok (.astore_n 3, 1) := by decide +kernel
theorem dJ7_copyOf_6403c_25 : decode cJ7_copyOf_6403c 25 = .ok (.aload_n 0, 1) := by decide +kernel
theorem dJ7_copyOf_6403c_26 : decode cJ7_copyOf_6403c 26 = .ok (.iconst 0, 1) := by decide +kernel
theorem dJ7_copyOf_6403c_27 : decode cJ7_copyOf_6403c 27 = .ok (.aload_n 3, 1) := by decide +kernel
theorem dJ7_copyOf_6403c_28 : decode cJ7_copyOf_6403c 28 = .ok (.iconst 0, 1) := by decide +kernel
theorem dJ7_copyOf_6403c_29 : decode cJ7_copyOf_6403c 29 = .ok (.aload_n 0, 1) := by decide +kernel
theorem dJ7_copyOf_6403c_30 : decode cJ7_copyOf_6403c 30 = .ok (.arraylength, 1) := by decide +kernel
theorem dJ7_copyOf_6403c_31 : decode cJ7_copyOf_6403c 31 = .ok (.iload_n 1, 1) := by decide +kernel
theorem dJ7_copyOf_6403c_32 : decode cJ7_copyOf_6403c 32 = .ok (.invokestatic 304, 3) := by decide +kernel
theorem dJ7_copyOf_6403c_35 : decode cJ7_copyOf_6403c 35 = .ok (.invokestatic 150, 3) := by decide +kernel
theorem dJ7_copyOf_6403c_38 : decode cJ7_copyOf_6403c 38 = .ok (.aload_n 3, 1) := by decide +kernel
theorem dJ7_copyOf_6403c_39 : decode cJ7_copyOf_6403c 39 = .ok (.areturn, 1) := by decide +kernel
theorem dJ15_checkIndex_7cf53_0 : decode cJ15_checkIndex_7cf53 0 = .ok (.iload_n 0, 1) := by decide +kernel
theorem dJ15_checkIndex_7cf53_1 : decode cJ15_checkIndex_7cf53 1 = .ok (.iload_n 1, 1) := by decide +kernel
theorem dJ15_checkIndex_7cf53_2 : decode cJ15_checkIndex_7cf53 2 = .ok (.aconst_null, 1) := by decide +kernel
theorem dJ15_checkIndex_7cf53_3 : decode cJ15_checkIndex_7cf53 3 = .ok (.invokestatic 105, 3) := by decide +kernel
theorem dJ15_checkIndex_7cf53_6 : decode cJ15_checkIndex_7cf53 6 = .ok (.ireturn, 1) := by decide +kernel
theorem dJ8_newLength_cabcc_0 : decode cJ8_newLength_cabcc 0 = .ok (.iload_n 0, 1) := by decide +kernel
theorem dJ8_newLength_cabcc_1 : decode cJ8_newLength_cabcc 1 = .ok (.iload_n 1, 1) := by decide +kernel
theorem dJ8_newLength_cabcc_2 : decode cJ8_newLength_cabcc 2 = .ok (.iload_n 2, 1) := by decide +kernel
theorem dJ8_newLength_cabcc_3 : decode cJ8_newLength_cabcc 3 = .ok (.invokestatic 194, 3) := by decide +kernel
theorem dJ8_newLength_cabcc_6 : decode cJ8_newLength_cabcc 6 = .ok (.iadd, 1) := by decide +kernel
theorem dJ8_newLength_cabcc_7 : decode cJ8_newLength_cabcc 7 = .ok (.istore_n 3, 1) := by decide +kernel
theorem dJ8_newLength_cabcc_8 : decode cJ8_newLength_cabcc 8 = .ok (.iconst 0, 1) := by decide +kernel
theorem dJ8_newLength_cabcc_9 : decode cJ8_newLength_cabcc 9 = .ok (.iload_n 3, 1) := by decide +kernel
theorem dJ8_newLength_cabcc_10 : decode cJ8_newLength_cabcc 10 = .ok (.if_icmp .ge 11, 3) := by decide +kernel
theorem dJ8_newLength_cabcc_13 : decode cJ8_newLength_cabcc 13 = .ok (.iload_n 3, 1) := by decide +kernel
theorem dJ8_newLength_cabcc_14 : decode cJ8_newLength_cabcc 14 = .ok (.ldc 200, 2) := by decide +kernel
theorem dJ8_newLength_cabcc_16 : decode cJ8_newLength_cabcc 16 = .ok (.if_icmp .gt 5, 3) := by decide +kernel
theorem dJ8_newLength_cabcc_19 : decode cJ8_newLength_cabcc 19 = .ok (.iload_n 3, 1) := by decide +kernel
theorem dJ8_newLength_cabcc_20 : decode cJ8_newLength_cabcc 20 = .ok (.ireturn, 1) := by decide +kernel
theorem dJ8_newLength_cabcc_21 : decode cJ8_newLength_cabcc 21 = .ok (.iload_n 0, 1) := by decide +kernel
theorem dJ8_newLength_cabcc_22 : decode cJ8_newLength_cabcc 22 = .ok (.iload_n 1, 1) := by decide +kernel
theorem dJ8_newLength_cabcc_23 : decode cJ8_newLength_cabcc 23 = .ok (.invokestatic 201, 3) := by decide +kernel
theorem dJ8_newLength_cabcc_26 : decode cJ8_newLength_cabcc 26 = .ok (.ireturn, 1) := by decide +kernel
theorem dJ8_hugeLength_7cf53_0 : decode cJ8_hugeLength_7cf53 0 = .ok (.iload_n 0, 1) := by decide +kernel
theorem dJ8_hugeLength_7cf53_1 : decode cJ8_hugeLength_7cf53 1 = .ok (.iload_n 1, 1) := by decide +kernel
theorem dJ8_hugeLength_7cf53_2 : decode cJ8_hugeLength_7cf53 2 = .ok (.iadd, 1) := by decide +kernel
theorem dJ8_hugeLength_7cf53_3 : decode cJ8_hugeLength_7cf53 3 = .ok (.istore_n 2, 1) := by decide +kernel
theorem dJ8_hugeLength_7cf53_4 : decode cJ8_hugeLength_7cf53 4 = .ok (.iload_n 2, 1) := by decide +kernel
theorem dJ8_hugeLength_7cf53_5 : decode cJ8_hugeLength_7cf53 5 = .ok (.ifCond .ge 44, 3) := by decide +kernel
theorem dJ8_hugeLength_7cf53_8 : decode cJ8_hugeLength_7cf53 8 = .ok (.new 204, 3) := by decide +kernel
theorem dJ8_hugeLength_7cf53_11 : decode cJ8_hugeLength_7cf53 11 = .ok (.dup, 1) := by decide +kernel
theorem dJ8_hugeLength_7cf53_12 : decode cJ8_hugeLength_7cf53 12 = .ok (.new 89, 3) := by decide +kernel
theorem dJ8_hugeLength_7cf53_15 : decode cJ8_hugeLength_7cf53 15 = .ok (.dup, 1) := by decide +kernel
theorem dJ8_hugeLength_7cf53_16 : decode cJ8_hugeLength_7cf53 16 = .ok (.invokespecial 91, 3) := by decide +kernel
theorem dJ8_hugeLength_7cf53_19 : decode cJ8_hugeLength_7cf53 19 = .ok (.ldc 206, 2) := by decide +kernel
theorem dJ8_hugeLength_7cf53_21 : decode cJ8_hugeLength_7cf53 21 = .ok (.invokevirtual 94, 3) := by decide +kernel
theorem dJ8_hugeLength_7cf53_24 : decode cJ8_hugeLength_7cf53 24 = .ok (.iload_n 0, 1) := by decide +kernel
theorem dJ8_hugeLength_7cf53_25 : decode cJ8_hugeLength_7cf53 25 = .ok (.invokevirtual 98, 3) := by decide +kernel
theorem dJ8_hugeLength_7cf53_28 : decode cJ8_hugeLength_7cf53 28 = .ok (.ldc 208, 2) := by decide +kernel
theorem dJ8_hugeLength_7cf53_30 : decode cJ8_hugeLength_7cf53 30 = .ok (.invokevirtual 94, 3) := by decide +kernel
theorem dJ8_hugeLength_7cf53_33 : decode cJ8_hugeLength_7cf53 33 = .ok (.iload_n 1, 1) := by decide +kernel
theorem dJ8_hugeLength_7cf53_34 : decode cJ8_hugeLength_7cf53 34 = .ok (.invokevirtual 98, 3) := by decide +kernel
theorem dJ8_hugeLength_7cf53_37 : decode cJ8_hugeLength_7cf53 37 = .ok (.ldc 210, 2) := by decide +kernel
theorem dJ8_hugeLength_7cf53_39 : decode cJ8_hugeLength_7cf53 39 = .ok (.invokevirtual 94, 3) := by decide +kernel
theorem dJ8_hugeLength_7cf53_42 : decode cJ8_hugeLength_7cf53 42 = .ok (.invokevirtual 101, 3) := by decide +kernel
theorem dJ8_hugeLength_7cf53_45 : decode cJ8_hugeLength_7cf53 45 = .ok (.invokespecial 212, 3) := by decide +kernel
theorem dJ8_hugeLength_7cf53_48 : decode cJ8_hugeLength_7cf53 48 = .ok (.athrow, 1) := by decide +kernel
theorem dJ8_hugeLength_7cf53_49 : decode cJ8_hugeLength_7cf53 49 = .ok (.iload_n 2, 1) := by decide +kernel
theorem dJ8_hugeLength_7cf53_50 : decode cJ8_hugeLength_7cf53 50 = .ok (.ldc 200, 2) := by decide +kernel
theorem dJ8_hugeLength_7cf53_52 : decode cJ8_hugeLength_7cf53 52 = .ok (.if_icmp .gt 6, 3) := by decide +kernel
theorem dJ8_hugeLength_7cf53_55 : decode cJ8_hugeLength_7cf53 55 = .ok (.ldc 200, 2) := by decide +kernel
theorem dJ8_hugeLength_7cf53_57 : decode cJ8_hugeLength_7cf53 57 = .ok (.ireturn, 1) := by decide +kernel
theorem dJ8_hugeLength_7cf53_58 : decode cJ8_hugeLength_7cf53 58 = .ok (.iload_n 2, 1) := by decide +kernel
theorem dJ8_hugeLength_7cf53_59 : decode cJ8_hugeLength_7cf53 59 = .ok (.ireturn, 1) := by decide +kernel
theorem dJ3_checkIndex_8e157_0 : decode cJ3_checkIndex_8e157 0 = .ok (.iload_n 0, 1) := by decide +kernel
theorem dJ3_checkIndex_8e157_1 : decode cJ3_checkIndex_8e157 1 = .ok (.ifCond .lt 8, 3) := by decide +kernel
theorem dJ3_checkIndex_8e157_4 : decode cJ3_checkIndex_8e157 4 = .ok (.iload_n 0, 1) := by decide +kernel
theorem dJ3_checkIndex_8e157_5 : decode cJ3_checkIndex_8e157 5 = .ok (.iload_n 1, 1) := by decide +kernel
theorem dJ3_checkIndex_8e157_6 : decode cJ3_checkIndex_8e157 6 = .ok (.if_icmp .lt 10, 3) := by decide +kernel
theorem dJ3_checkIndex_8e157_9 : decode cJ3_checkIndex_8e157 9 = .ok (.aload_n 2, 1) := by decide +kernel
theorem dJ3_checkIndex_8e157_10 : decode cJ3_checkIndex_8e157 10 = .ok (.iload_n 0, 1) := by decide +kernel
theorem dJ3_checkIndex_8e157_11 : decode cJ3_checkIndex_8e157 11 = .ok (.iload_n 1, 1) := by decide +kernel
theorem dJ3_checkIndex_8e157_12 : decode cJ3_checkIndex_8e157 12 = .ok (.invokestatic 95, 3) := by decide +kernel
theorem dJ3_checkIndex_8e157_15 : decode cJ3_checkIndex_8e157 15 = .ok (.athrow, 1) := by decide +kernel
theorem dJ3_checkIndex_8e157_16 : decode cJ3_checkIndex_8e157 16 = .ok (.iload_n 0, 1) := by decide +kernel
theorem dJ3_checkIndex_8e157_17 : decode cJ3_checkIndex_8e157 17 = .ok (.ireturn, 1) := by decide +kernel
theorem dL_cell_0 : decode cL_cell 0 = .ok (.iload_n 1, 1) := by decide +kernel
theorem dL_cell_1 : decode cL_cell 1 = .ok (.aload_n 0, 1) := by decide +kernel
theorem dL_cell_2 : decode cL_cell 2 = .ok (.arraylength, 1) := by decide +kernel
theorem dL_cell_3 : decode cL_cell 3 = .ok (.if_icmp .ge 9, 3) := by decide +kernel
theorem dL_cell_6 : decode cL_cell 6 = .ok (.aload_n 0, 1) := by decide +kernel
theorem dL_cell_7 : decode cL_cell 7 = .ok (.iload_n 1, 1) := by decide +kernel
theorem dL_cell_8 : decode cL_cell 8 = .ok (.iaload, 1) := by decide +kernel
theorem dL_cell_9 : decode cL_cell 9 = .ok (.goto 15, 3) := by decide +kernel
theorem dL_cell_12 : decode cL_cell 12 = .ok (.ldc 7, 2) := by decide +kernel
theorem dL_cell_14 : decode cL_cell 14 = .ok (.iload_n 1, 1) := by decide +kernel
theorem dL_cell_15 : decode cL_cell 15 = .ok (.sipush 6571, 3) := by decide +kernel
theorem dL_cell_18 : decode cL_cell 18 = .ok (.irem, 1) := by decide +kernel
theorem dL_cell_19 : decode cL_cell 19 = .ok (.imul, 1) := by decide +kernel
theorem dL_cell_20 : decode cL_cell 20 = .ok (.sipush 2741, 3) := by decide +kernel
theorem dL_cell_23 : decode cL_cell 23 = .ok (.iadd, 1) := by decide +kernel
theorem dL_cell_24 : decode cL_cell 24 = .ok (.ldc 8, 2) := by decide +kernel
theorem dL_cell_26 : decode cL_cell 26 = .ok (.iand, 1) := by decide +kernel
theorem dL_cell_27 : decode cL_cell 27 = .ok (.ireturn, 1) := by decide +kernel
theorem dL_type_0 : decode cL_type 0 = .ok (.aload_n 0, 1) := by decide +kernel
theorem dL_type_1 : decode cL_type 1 = .ok (.iload_n 1, 1) := by decide +kernel
theorem dL_type_2 : decode cL_type 2 = .ok (.iload_n 2, 1) := by decide +kernel
theorem dL_type_3 : decode cL_type 3 = .ok (.iload_n 3, 1) := by decide +kernel
theorem dL_type_4 : decode cL_type 4 = .ok (.i2c, 1) := by decide +kernel
theorem dL_type_5 : decode cL_type 5 = .ok (.invokevirtual 9, 3) := by decide +kernel
theorem dL_type_8 : decode cL_type 8 = .ok (.ireturn, 1) := by decide +kernel
theorem dL_type_9 : decode cL_type 9 = .ok (.astore 4, 2) := by decide +kernel
theorem dL_type_11 : decode cL_type 11 = .ok (.bipush (-101), 2) := by decide +kernel
theorem dL_type_13 : decode cL_type 13 = .ok (.ireturn, 1) := by decide +kernel
theorem dL_type_14 : decode cL_type 14 = .ok (.astore 4, 2) := by decide +kernel
theorem dL_type_16 : decode cL_type 16 = .ok (.bipush (-102), 2) := by decide +kernel
theorem dL_type_18 : decode cL_type 18 = .ok (.ireturn, 1) := by decide +kernel
theorem dL_type_19 : decode cL_type 19 = .ok (.astore 4, 2) := by decide +kernel
theorem dL_type_21 : decode cL_type 21 = .ok (.bipush (-103), 2) := by decide +kernel
theorem dL_type_23 : decode cL_type 23 = .ok (.ireturn, 1) := by decide +kernel
theorem dL_erase_0 : decode cL_erase 0 = .ok (.aload_n 0, 1) := by decide +kernel
theorem dL_erase_1 : decode cL_erase 1 = .ok (.iload_n 1, 1) := by decide +kernel
theorem dL_erase_2 : decode cL_erase 2 = .ok (.iload_n 2, 1) := by decide +kernel
theorem dL_erase_3 : decode cL_erase 3 = .ok (.invokevirtual 21, 3) := by decide +kernel
theorem dL_erase_6 : decode cL_erase 6 = .ok (.ireturn, 1) := by decide +kernel
theorem dL_erase_7 : decode cL_erase 7 = .ok (.astore_n 3, 1) := by decide +kernel
theorem dL_erase_8 : decode cL_erase 8 = .ok (.bipush (-101), 2) := by decide +kernel
theorem dL_erase_10 : decode cL_erase 10 = .ok (.ireturn, 1) := by decide +kernel
theorem dL_erase_11 : decode cL_erase 11 = .ok (.astore_n 3, 1) := by decide +kernel
theorem dL_erase_12 : decode cL_erase 12 = .ok (.bipush (-103), 2) := by decide +kernel
theorem dL_erase_14 : decode cL_erase 14 = .ok (.ireturn, 1) := by decide +kernel
theorem dL_moves_0 : decode cL_moves 0 = .ok (.aload_n 0, 1) := by decide +kernel
theorem dL_moves_1 : decode cL_moves 1 = .ok (.iload_n 1, 1) := by decide +kernel
theorem dL_moves_2 : decode cL_moves 2 = .ok (.iload_n 2, 1) := by decide +kernel
theorem dL_moves_3 : decode cL_moves 3 = .ok (.iload_n 3, 1) := by decide +kernel
theorem dL_moves_4 : decode cL_moves 4 = .ok (.invokevirtual 25, 3) := by decide +kernel
theorem dL_moves_7 : decode cL_moves 7 = .ok (.ireturn, 1) := by decide +kernel
theorem dL_moves_8 : decode cL_moves 8 = .ok (.astore 4, 2) := by decide +kernel
theorem dL_moves_10 : decode cL_moves 10 = .ok (.bipush (-101), 2) := by decide +kernel
theorem dL_moves_12 : decode cL_moves 12 = .ok (.ireturn, 1) := by decide +kernel
theorem dL_undo_0 : decode cL_undo 0 = .ok (.aload_n 0, 1) := by decide +kernel
theorem dL_undo_1 : decode cL_undo 1 = .ok (.iload_n 1, 1) := by decide +kernel
theorem dL_undo_2 : decode cL_undo 2 = .ok (.invokevirtual 29, 3) := by decide +kernel
theorem dL_undo_5 : decode cL_undo 5 = .ok (.ireturn, 1) := by decide +kernel
theorem dL_undo_6 : decode cL_undo 6 = .ok (.astore_n 2, 1) := by decide +kernel
theorem dL_undo_7 : decode cL_undo 7 = .ok (.bipush (-101), 2) := by decide +kernel
theorem dL_undo_9 : decode cL_undo 9 = .ok (.ireturn, 1) := by decide +kernel
theorem dL_undo_10 : decode cL_undo 10 = .ok (.astore_n 2, 1) := by decide +kernel
theorem dL_undo_11 : decode cL_undo 11 = .ok (.bipush (-103), 2) := by decide +kernel
theorem dL_undo_13 : decode cL_undo 13 = .ok (.ireturn, 1) := by decide +kernel
theorem dL_redo_0 : decode cL_redo 0 = .ok (.aload_n 0, 1) := by decide +kernel
theorem dL_redo_1 : decode cL_redo 1 = .ok (.iload_n 1, 1) := by decide +kernel
theorem dL_redo_2 : decode cL_redo 2 = .ok (.invokevirtual 33, 3) := by decide +kernel
theorem dL_redo_5 : decode cL_redo 5 = .ok (.ireturn, 1) := by decide +kernel
theorem dL_redo_6 : decode cL_redo 6 = .ok (.astore_n 2, 1) := by decide +kernel
theorem dL_redo_7 : decode cL_redo 7 = .ok (.bipush (-101), 2) := by decide +kernel
theorem dL_redo_9 : decode cL_redo 9 = .ok (.ireturn, 1) := by decide +kernel
theorem dL_redo_10 : decode cL_redo 10 = .ok (.astore_n 2, 1) := by decide +kernel
theorem dL_redo_11 : decode cL_redo 11 = .ok (.bipush (-103), 2) := by decide +kernel
theorem dL_redo_13 : decode cL_redo 13 = .ok (.ireturn, 1) := by decide +kernel
theorem dL_place_0 : decode cL_place 0 = .ok (.aload_n 0, 1) := by decide +kernel
theorem dL_place_1 : decode cL_place 1 = .ok (.iload_n 1, 1) := by decide +kernel
theorem dL_place_2 : decode cL_place 2 = .ok (.iload_n 2, 1) := by decide +kernel
theorem dL_place_3 : decode cL_place 3 = .ok (.invokevirtual 36, 3) := by decide +kernel
theorem dL_place_6 : decode cL_place 6 = .ok (.ireturn, 1) := by decide +kernel
theorem dL_place_7 : decode cL_place 7 = .ok (.astore_n 3, 1) := by decide +kernel
theorem dL_place_8 : decode cL_place 8 = .ok (.bipush (-101), 2) := by decide +kernel
theorem dL_place_10 : decode cL_place 10 = .ok (.ireturn, 1) := by decide +kernel
theorem dL_length_0 : decode cL_length 0 = .ok (.aload_n 0, 1) := by decide +kernel
theorem dL_length_1 : decode cL_length 1 = .ok (.iload_n 1, 1) := by decide +kernel
theorem dL_length_2 : decode cL_length 2 = .ok (.invokevirtual 39, 3) := by decide +kernel
theorem dL_length_5 : decode cL_length 5 = .ok (.ireturn, 1) := by decide +kernel
theorem dL_length_6 : decode cL_length 6 = .ok (.astore_n 2, 1) := by decide +kernel
theorem dL_length_7 : decode cL_length 7 = .ok (.bipush (-101), 2) := by decide +kernel
theorem dL_length_9 : decode cL_length 9 = .ok (.ireturn, 1) := by decide +kernel
theorem dL_letter_0 : decode cL_letter 0 = .ok (.aload_n 0, 1) := by decide +kernel
theorem dL_letter_1 : decode cL_letter 1 = .ok (.iload_n 1, 1) := by decide +kernel
theorem dL_letter_2 : decode cL_letter 2 = .ok (.iload_n 2, 1) := by decide +kernel
theorem dL_letter_3 : decode cL_letter 3 = .ok (.invokevirtual 42, 3) := by decide +kernel
theorem dL_letter_6 : decode cL_letter 6 = .ok (.ireturn, 1) := by decide +kernel
theorem dL_letter_7 : decode cL_letter 7 = .ok (.astore_n 3, 1) := by decide +kernel
theorem dL_letter_8 : decode cL_letter 8 = .ok (.bipush (-101), 2) := by decide +kernel
theorem dL_letter_10 : decode cL_letter 10 = .ok (.ireturn, 1) := by decide +kernel
theorem dL_anew_0 : decode cL_anew 0 = .ok (.aload_n 0, 1) := by decide +kernel
theorem dL_anew_1 : decode cL_anew 1 = .ok (.iload_n 1, 1) := by decide +kernel
theorem dL_anew_2 : decode cL_anew 2 = .ok (.iload_n 2, 1) := by decide +kernel
theorem dL_anew_3 : decode cL_anew 3 = .ok (.invokevirtual 46, 3) := by decide +kernel
theorem dL_anew_6 : decode cL_anew 6 = .ok (.ireturn, 1) := by decide +kernel
theorem dL_anew_7 : decode cL_anew 7 = .ok (.astore_n 3, 1) := by decide +kernel
theorem dL_anew_8 : decode cL_anew 8 = .ok (.bipush (-101), 2) := by decide +kernel
theorem dL_anew_10 : decode cL_anew 10 = .ok (.ireturn, 1) := by decide +kernel
theorem dL_version_0 : decode cL_version 0 = .ok (.aload_n 0, 1) := by decide +kernel
theorem dL_version_1 : decode cL_version 1 = .ok (.iload_n 1, 1) := by decide +kernel
theorem dL_version_2 : decode cL_version 2 = .ok (.invokevirtual 49, 3) := by decide +kernel
theorem dL_version_5 : decode cL_version 5 = .ok (.ireturn, 1) := by decide +kernel
theorem dL_version_6 : decode cL_version 6 = .ok (.astore_n 2, 1) := by decide +kernel
theorem dL_version_7 : decode cL_version 7 = .ok (.bipush (-101), 2) := by decide +kernel
theorem dL_version_9 : decode cL_version 9 = .ok (.ireturn, 1) := by decide +kernel
theorem dL_ask_0 : decode cL_ask 0 = .ok (.aload_n 0, 1) := by decide +kernel
theorem dL_ask_1 : decode cL_ask 1 = .ok (.iload_n 1, 1) := by decide +kernel
theorem dL_ask_2 : decode cL_ask 2 = .ok (.iload_n 2, 1) := by decide +kernel
theorem dL_ask_3 : decode cL_ask 3 = .ok (.iload_n 3, 1) := by decide +kernel
theorem dL_ask_4 : decode cL_ask 4 = .ok (.invokevirtual 52, 3) := by decide +kernel
theorem dL_ask_7 : decode cL_ask 7 = .ok (.ireturn, 1) := by decide +kernel
theorem dL_ask_8 : decode cL_ask 8 = .ok (.astore 4, 2) := by decide +kernel
theorem dL_ask_10 : decode cL_ask 10 = .ok (.bipush (-101), 2) := by decide +kernel
theorem dL_ask_12 : decode cL_ask 12 = .ok (.ireturn, 1) := by decide +kernel
theorem dL_ask_13 : decode cL_ask 13 = .ok (.astore 4, 2) := by decide +kernel
theorem dL_ask_15 : decode cL_ask 15 = .ok (.bipush (-102), 2) := by decide +kernel
theorem dL_ask_17 : decode cL_ask 17 = .ok (.ireturn, 1) := by decide +kernel
theorem dL_ask_18 : decode cL_ask 18 = .ok (.astore 4, 2) := by decide +kernel
theorem dL_ask_20 : decode cL_ask 20 = .ok (.bipush (-103), 2) := by decide +kernel
theorem dL_ask_22 : decode cL_ask 22 = .ok (.ireturn, 1) := by decide +kernel
theorem dL_come_0 : decode cL_come 0 = .ok (.aload_n 0, 1) := by decide +kernel
theorem dL_come_1 : decode cL_come 1 = .ok (.iload_n 1, 1) := by decide +kernel
theorem dL_come_2 : decode cL_come 2 = .ok (.invokevirtual 55, 3) := by decide +kernel
theorem dL_come_5 : decode cL_come 5 = .ok (.ireturn, 1) := by decide +kernel
theorem dL_come_6 : decode cL_come 6 = .ok (.astore_n 2, 1) := by decide +kernel
theorem dL_come_7 : decode cL_come 7 = .ok (.bipush (-101), 2) := by decide +kernel
theorem dL_come_9 : decode cL_come 9 = .ok (.ireturn, 1) := by decide +kernel
theorem dL_come_10 : decode cL_come 10 = .ok (.astore_n 2, 1) := by decide +kernel
theorem dL_come_11 : decode cL_come 11 = .ok (.bipush (-103), 2) := by decide +kernel
theorem dL_come_13 : decode cL_come 13 = .ok (.ireturn, 1) := by decide +kernel
theorem dL_drop_0 : decode cL_drop 0 = .ok (.aload_n 0, 1) := by decide +kernel
theorem dL_drop_1 : decode cL_drop 1 = .ok (.iload_n 1, 1) := by decide +kernel
theorem dL_drop_2 : decode cL_drop 2 = .ok (.invokevirtual 58, 3) := by decide +kernel
theorem dL_drop_5 : decode cL_drop 5 = .ok (.ireturn, 1) := by decide +kernel
theorem dL_drop_6 : decode cL_drop 6 = .ok (.astore_n 2, 1) := by decide +kernel
theorem dL_drop_7 : decode cL_drop 7 = .ok (.bipush (-101), 2) := by decide +kernel
theorem dL_drop_9 : decode cL_drop 9 = .ok (.ireturn, 1) := by decide +kernel
theorem dL_drop_10 : decode cL_drop 10 = .ok (.astore_n 2, 1) := by decide +kernel
theorem dL_drop_11 : decode cL_drop 11 = .ok (.bipush (-103), 2) := by decide +kernel
theorem dL_drop_13 : decode cL_drop 13 = .ok (.ireturn, 1) := by decide +kernel
theorem dL_state_0 : decode cL_state 0 = .ok (.aload_n 0, 1) := by decide +kernel
theorem dL_state_1 : decode cL_state 1 = .ok (.iload_n 1, 1) := by decide +kernel
theorem dL_state_2 : decode cL_state 2 = .ok (.invokevirtual 61, 3) := by decide +kernel
theorem dL_state_5 : decode cL_state 5 = .ok (.ireturn, 1) := by decide +kernel
theorem dL_state_6 : decode cL_state 6 = .ok (.astore_n 2, 1) := by decide +kernel
theorem dL_state_7 : decode cL_state 7 = .ok (.bipush (-101), 2) := by decide +kernel
theorem dL_state_9 : decode cL_state 9 = .ok (.ireturn, 1) := by decide +kernel
theorem dL_spared_0 : decode cL_spared 0 = .ok (.aload_n 0, 1) := by decide +kernel
theorem dL_spared_1 : decode cL_spared 1 = .ok (.iload_n 1, 1) := by decide +kernel
theorem dL_spared_2 : decode cL_spared 2 = .ok (.invokevirtual 64, 3) := by decide +kernel
theorem dL_spared_5 : decode cL_spared 5 = .ok (.ireturn, 1) := by decide +kernel
theorem dL_spared_6 : decode cL_spared 6 = .ok (.astore_n 2, 1) := by decide +kernel
theorem dL_spared_7 : decode cL_spared 7 = .ok (.bipush (-101), 2) := by decide +kernel
theorem dL_spared_9 : decode cL_spared 9 = .ok (.ireturn, 1) := by decide +kernel
theorem dL_lock_0 : decode cL_lock 0 = .ok (.aload_n 0, 1) := by decide +kernel
theorem dL_lock_1 : decode cL_lock 1 = .ok (.iload_n 1, 1) := by decide +kernel
theorem dL_lock_2 : decode cL_lock 2 = .ok (.iload_n 2, 1) := by decide +kernel
theorem dL_lock_3 : decode cL_lock 3 = .ok (.invokevirtual 67, 3) := by decide +kernel
theorem dL_lock_6 : decode cL_lock 6 = .ok (.ifCond .eq 7, 3) := by decide +kernel
theorem dL_lock_9 : decode cL_lock 9 = .ok (.iconst 1, 1) := by decide +kernel
theorem dL_lock_10 : decode cL_lock 10 = .ok (.goto 4, 3) := by decide +kernel
theorem dL_lock_13 : decode cL_lock 13 = .ok (.iconst 0, 1) := by decide +kernel
theorem dL_lock_14 : decode cL_lock 14 = .ok (.ireturn, 1) := by decide +kernel
theorem dL_lock_15 : decode cL_lock 15 = .ok (.astore_n 3, 1) := by decide +kernel
theorem dL_lock_16 : decode cL_lock 16 = .ok (.bipush (-101), 2) := by decide +kernel
theorem dL_lock_18 : decode cL_lock 18 = .ok (.ireturn, 1) := by decide +kernel
theorem dL_lock_19 : decode cL_lock 19 = .ok (.astore_n 3, 1) := by decide +kernel
theorem dL_lock_20 : decode cL_lock 20 = .ok (.bipush (-103), 2) := by decide +kernel
theorem dL_lock_22 : decode cL_lock 22 = .ok (.ireturn, 1) := by decide +kernel
theorem dL_save_0 : decode cL_save 0 = .ok (.aload_n 0, 1) := by decide +kernel
theorem dL_save_1 : decode cL_save 1 = .ok (.iload_n 1, 1) := by decide +kernel
theorem dL_save_2 : decode cL_save 2 = .ok (.iload_n 2, 1) := by decide +kernel
theorem dL_save_3 : decode cL_save 3 = .ok (.iload_n 3, 1) := by decide +kernel
theorem dL_save_4 : decode cL_save 4 = .ok (.invokevirtual 71, 3) := by decide +kernel
theorem dL_save_7 : decode cL_save 7 = .ok (.ireturn, 1) := by decide +kernel
theorem dL_save_8 : decode cL_save 8 = .ok (.astore 4, 2) := by decide +kernel
theorem dL_save_10 : decode cL_save 10 = .ok (.bipush (-101), 2) := by decide +kernel
theorem dL_save_12 : decode cL_save 12 = .ok (.ireturn, 1) := by decide +kernel
theorem dL_save_13 : decode cL_save 13 = .ok (.astore 4, 2) := by decide +kernel
theorem dL_save_15 : decode cL_save 15 = .ok (.bipush (-102), 2) := by decide +kernel
theorem dL_save_17 : decode cL_save 17 = .ok (.ireturn, 1) := by decide +kernel
theorem dL_save_18 : decode cL_save 18 = .ok (.astore 4, 2) := by decide +kernel
theorem dL_save_20 : decode cL_save 20 = .ok (.bipush (-103), 2) := by decide +kernel
theorem dL_save_22 : decode cL_save 22 = .ok (.ireturn, 1) := by decide +kernel
theorem dL_savedVersion_0 : decode cL_savedVersion 0 = .ok (.aload_n 0, 1) := by decide +kernel
theorem dL_savedVersion_1 : decode cL_savedVersion 1 = .ok (.iload_n 1, 1) := by decide +kernel
theorem dL_savedVersion_2 : decode cL_savedVersion 2 = .ok (.invokevirtual 74, 3) := by decide +kernel
theorem dL_savedVersion_5 : decode cL_savedVersion 5 = .ok (.ireturn, 1) := by decide +kernel
theorem dL_savedVersion_6 : decode cL_savedVersion 6 = .ok (.astore_n 2, 1) := by decide +kernel
theorem dL_savedVersion_7 : decode cL_savedVersion 7 = .ok (.bipush (-101), 2) := by decide +kernel
theorem dL_savedVersion_9 : decode cL_savedVersion 9 = .ok (.ireturn, 1) := by decide +kernel
theorem dL_savedLength_0 : decode cL_savedLength 0 = .ok (.aload_n 0, 1) := by decide +kernel
theorem dL_savedLength_1 : decode cL_savedLength 1 = .ok (.iload_n 1, 1) := by decide +kernel
theorem dL_savedLength_2 : decode cL_savedLength 2 = .ok (.invokevirtual 77, 3) := by decide +kernel
theorem dL_savedLength_5 : decode cL_savedLength 5 = .ok (.ireturn, 1) := by decide +kernel
theorem dL_savedLength_6 : decode cL_savedLength 6 = .ok (.astore_n 2, 1) := by decide +kernel
theorem dL_savedLength_7 : decode cL_savedLength 7 = .ok (.bipush (-101), 2) := by decide +kernel
theorem dL_savedLength_9 : decode cL_savedLength 9 = .ok (.ireturn, 1) := by decide +kernel
theorem dL_savedLetter_0 : decode cL_savedLetter 0 = .ok (.aload_n 0, 1) := by decide +kernel
theorem dL_savedLetter_1 : decode cL_savedLetter 1 = .ok (.iload_n 1, 1) := by decide +kernel
theorem dL_savedLetter_2 : decode cL_savedLetter 2 = .ok (.iload_n 2, 1) := by decide +kernel
theorem dL_savedLetter_3 : decode cL_savedLetter 3 = .ok (.invokevirtual 80, 3) := by decide +kernel
theorem dL_savedLetter_6 : decode cL_savedLetter 6 = .ok (.ireturn, 1) := by decide +kernel
theorem dL_savedLetter_7 : decode cL_savedLetter 7 = .ok (.astore_n 3, 1) := by decide +kernel
theorem dL_savedLetter_8 : decode cL_savedLetter 8 = .ok (.bipush (-101), 2) := by decide +kernel
theorem dL_savedLetter_10 : decode cL_savedLetter 10 = .ok (.ireturn, 1) := by decide +kernel
theorem dL_looks_0 : decode cL_looks 0 = .ok (.aload_n 0, 1) := by decide +kernel
theorem dL_looks_1 : decode cL_looks 1 = .ok (.iload_n 1, 1) := by decide +kernel
theorem dL_looks_2 : decode cL_looks 2 = .ok (.invokestatic 83, 3) := by decide +kernel
theorem dL_looks_5 : decode cL_looks 5 = .ok (.istore_n 2, 1) := by decide +kernel
theorem dL_looks_6 : decode cL_looks 6 = .ok (.iload_n 2, 1) := by decide +kernel
theorem dL_looks_7 : decode cL_looks 7 = .ok (.i2l, 1) := by decide +kernel
theorem dL_looks_8 : decode cL_looks 8 = .ok (.lstore_n 3, 1) := by decide +kernel
theorem dL_looks_9 : decode cL_looks 9 = .ok (.iconst 0, 1) := by decide +kernel
theorem dL_looks_10 : decode cL_looks 10 = .ok (.istore 5, 2) := by decide +kernel
theorem dL_looks_12 : decode cL_looks 12 = .ok (.iload 5, 2) := by decide +kernel
theorem dL_looks_14 : decode cL_looks 14 = .ok (.iload_n 2, 1) := by decide +kernel
theorem dL_looks_15 : decode cL_looks 15 = .ok (.if_icmp .ge 45, 3) := by decide +kernel
theorem dL_looks_18 : decode cL_looks 18 = .ok (.aload_n 0, 1) := by decide +kernel
theorem dL_looks_19 : decode cL_looks 19 = .ok (.iload_n 1, 1) := by decide +kernel
theorem dL_looks_20 : decode cL_looks 20 = .ok (.iload 5, 2) := by decide +kernel
theorem dL_looks_22 : decode cL_looks 22 = .ok (.invokestatic 88, 3) := by decide +kernel
theorem dL_looks_25 : decode cL_looks 25 = .ok (.istore 6, 2) := by decide +kernel
theorem dL_looks_27 : decode cL_looks 27 = .ok (.iload 6, 2) := by decide +kernel
theorem dL_looks_29 : decode cL_looks 29 = .ok (.bipush 32, 2) := by decide +kernel
theorem dL_looks_31 : decode cL_looks 31 = .ok (.if_icmp .ge 9, 3) := by decide +kernel
theorem dL_looks_34 : decode cL_looks 34 = .ok (.ldc2_w 91, 3) := by decide +kernel
theorem dL_looks_37 : decode cL_looks 37 = .ok (.goto 16, 3) := by decide +kernel
theorem dL_looks_40 : decode cL_looks 40 = .ok (.lload_n 3, 1) := by decide +kernel
theorem dL_looks_41 : decode cL_looks 41 = .ok (.ldc2_w 93, 3) := by decide +kernel
theorem dL_looks_44 : decode cL_looks 44 = .ok (.lmul, 1) := by decide +kernel
theorem dL_looks_45 : decode cL_looks 45 = .ok (.iload 6, 2) := by decide +kernel
theorem dL_looks_47 : decode cL_looks 47 = .ok (.i2l, 1) := by decide +kernel
theorem dL_looks_48 : decode cL_looks 48 = .ok (.ladd, 1) := by decide +kernel
theorem dL_looks_49 : decode cL_looks 49 = .ok (.ldc2_w 95, 3) := by decide +kernel
theorem dL_looks_52 : decode cL_looks 52 = .ok (.lrem, 1) := by decide +kernel
theorem dL_looks_53 : decode cL_looks 53 = .ok (.lstore_n 3, 1) := by decide +kernel
theorem dL_looks_54 : decode cL_looks 54 = .ok (.iinc 5 1, 3) := by decide +kernel
theorem dL_looks_57 : decode cL_looks 57 = .ok (.goto (-45), 3) := by decide +kernel
theorem dL_looks_60 : decode cL_looks 60 = .ok (.lload_n 3, 1) := by decide +kernel
theorem dL_looks_61 : decode cL_looks 61 = .ok (.lreturn, 1) := by decide +kernel
theorem dL_fits_0 : decode cL_fits 0 = .ok (.aload_n 0, 1) := by decide +kernel
theorem dL_fits_1 : decode cL_fits 1 = .ok (.iload_n 1, 1) := by decide +kernel
theorem dL_fits_2 : decode cL_fits 2 = .ok (.invokestatic 83, 3) := by decide +kernel
theorem dL_fits_5 : decode cL_fits 5 = .ok (.istore_n 3, 1) := by decide +kernel
theorem dL_fits_6 : decode cL_fits 6 = .ok (.iload_n 3, 1) := by decide +kernel
theorem dL_fits_7 : decode cL_fits 7 = .ok (.ifCond .lt 36, 3) := by decide +kernel
theorem dL_fits_10 : decode cL_fits 10 = .ok (.iload_n 3, 1) := by decide +kernel
theorem dL_fits_11 : decode cL_fits 11 = .ok (.sipush 150, 3) := by decide +kernel
theorem dL_fits_14 : decode cL_fits 14 = .ok (.if_icmp .gt 29, 3) := by decide +kernel
theorem dL_fits_17 : decode cL_fits 17 = .ok (.aload_n 0, 1) := by decide +kernel
theorem dL_fits_18 : decode cL_fits 18 = .ok (.iload_n 1, 1) := by decide +kernel
theorem dL_fits_19 : decode cL_fits 19 = .ok (.iload_n 3, 1) := by decide +kernel
theorem dL_fits_20 : decode cL_fits 20 = .ok (.invokestatic 88, 3) := by decide +kernel
theorem dL_fits_23 : decode cL_fits 23 = .ok (.bipush (-101), 2) := by decide +kernel
theorem dL_fits_25 : decode cL_fits 25 = .ok (.if_icmp .ne 18, 3) := by decide +kernel
theorem dL_fits_28 : decode cL_fits 28 = .ok (.aload_n 0, 1) := by decide +kernel
theorem dL_fits_29 : decode cL_fits 29 = .ok (.iload_n 1, 1) := by decide +kernel
theorem dL_fits_30 : decode cL_fits 30 = .ok (.iload_n 3, 1) := by decide +kernel
theorem dL_fits_31 : decode cL_fits 31 = .ok (.invokestatic 97, 3) := by decide +kernel
theorem dL_fits_34 : decode cL_fits 34 = .ok (.bipush (-101), 2) := by decide +kernel
theorem dL_fits_36 : decode cL_fits 36 = .ok (.if_icmp .ne 7, 3) := by decide +kernel
theorem dL_fits_39 : decode cL_fits 39 = .ok (.iconst 1, 1) := by decide +kernel
theorem dL_fits_40 : decode cL_fits 40 = .ok (.goto 4, 3) := by decide +kernel
theorem dL_fits_43 : decode cL_fits 43 = .ok (.iconst 0, 1) := by decide +kernel
theorem dL_fits_44 : decode cL_fits 44 = .ok (.istore 4, 2) := by decide +kernel
theorem dL_fits_46 : decode cL_fits 46 = .ok (.iload_n 2, 1) := by decide +kernel
theorem dL_fits_47 : decode cL_fits 47 = .ok (.iconst 5, 1) := by decide +kernel
theorem dL_fits_48 : decode cL_fits 48 = .ok (.irem, 1) := by decide +kernel
theorem dL_fits_49 : decode cL_fits 49 = .ok (.istore 5, 2) := by decide +kernel
theorem dL_fits_51 : decode cL_fits 51 = .ok (.iload 5, 2) := by decide +kernel
theorem dL_fits_53 : decode cL_fits 53 = .ok (.iload_n 3, 1) := by decide +kernel
theorem dL_fits_54 : decode cL_fits 54 = .ok (.if_icmp .ge 38, 3) := by decide +kernel
theorem dL_fits_57 : decode cL_fits 57 = .ok (.iload 4, 2) := by decide +kernel
theorem dL_fits_59 : decode cL_fits 59 = .ok (.ifCond .eq 33, 3) := by decide +kernel
theorem dL_fits_62 : decode cL_fits 62 = .ok (.aload_n 0, 1) := by decide +kernel
theorem dL_fits_63 : decode cL_fits 63 = .ok (.iload_n 1, 1) := by decide +kernel
theorem dL_fits_64 : decode cL_fits 64 = .ok (.iload 5, 2) := by decide +kernel
theorem dL_fits_66 : decode cL_fits 66 = .ok (.invokestatic 88, 3) := by decide +kernel
theorem dL_fits_69 : decode cL_fits 69 = .ok (.aload_n 0, 1) := by decide +kernel
theorem dL_fits_70 : decode cL_fits 70 = .ok (.iload_n 1, 1) := by decide +kernel
theorem dL_fits_71 : decode cL_fits 71 = .ok (.iload 5, 2) := by decide +kernel
theorem dL_fits_73 : decode cL_fits 73 = .ok (.invokestatic 97, 3) := by decide +kernel
theorem dL_fits_76 : decode cL_fits 76 = .ok (.if_icmp .ne 7, 3) := by decide +kernel
theorem dL_fits_79 : decode cL_fits 79 = .ok (.iconst 1, 1) := by decide +kernel
theorem dL_fits_80 : decode cL_fits 80 = .ok (.goto 4, 3) := by decide +kernel
theorem dL_fits_83 : decode cL_fits 83 = .ok (.iconst 0, 1) := by decide +kernel
theorem dL_fits_84 : decode cL_fits 84 = .ok (.istore 4, 2) := by decide +kernel
theorem dL_fits_86 : decode cL_fits 86 = .ok (.iinc 5 5, 3) := by decide +kernel
theorem dL_fits_89 : decode cL_fits 89 = .ok (.goto (-38), 3) := by decide +kernel
theorem dL_fits_92 : decode cL_fits 92 = .ok (.iconst 0, 1) := by decide +kernel
theorem dL_fits_93 : decode cL_fits 93 = .ok (.istore 5, 2) := by decide +kernel
theorem dL_fits_95 : decode cL_fits 95 = .ok (.iload 5, 2) := by decide +kernel
theorem dL_fits_97 : decode cL_fits 97 = .ok (.iconst 5, 1) := by decide +kernel
theorem dL_fits_98 : decode cL_fits 98 = .ok (.if_icmp .ge 41, 3) := by decide +kernel
theorem dL_fits_101 : decode cL_fits 101 = .ok (.iload 4, 2) := by decide +kernel
theorem dL_fits_103 : decode cL_fits 103 = .ok (.ifCond .eq 36, 3) := by decide +kernel
theorem dL_fits_106 : decode cL_fits 106 = .ok (.aload_n 0, 1) := by decide +kernel
theorem dL_fits_107 : decode cL_fits 107 = .ok (.iload 5, 2) := by decide +kernel
theorem dL_fits_109 : decode cL_fits 109 = .ok (.iload_n 1, 1) := by decide +kernel
theorem dL_fits_110 : decode cL_fits 110 = .ok (.invokestatic 100, 3) := by decide +kernel
theorem dL_fits_113 : decode cL_fits 113 = .ok (.istore 6, 2) := by decide +kernel
theorem dL_fits_115 : decode cL_fits 115 = .ok (.iload 6, 2) := by decide +kernel
theorem dL_fits_117 : decode cL_fits 117 = .ok (.ifCond .lt 13, 3) := by decide +kernel
theorem dL_fits_120 : decode cL_fits 120 = .ok (.iload 6, 2) := by decide +kernel
theorem dL_fits_122 : decode cL_fits 122 = .ok (.iload_n 3, 1) := by decide +kernel
theorem dL_fits_123 : decode cL_fits 123 = .ok (.if_icmp .gt 7, 3) := by decide +kernel
theorem dL_fits_126 : decode cL_fits 126 = .ok (.iconst 1, 1) := by decide +kernel
theorem dL_fits_127 : decode cL_fits 127 = .ok (.goto 4, 3) := by decide +kernel
theorem dL_fits_130 : decode cL_fits 130 = .ok (.iconst 0, 1) := by decide +kernel
theorem dL_fits_131 : decode cL_fits 131 = .ok (.istore 4, 2) := by decide +kernel
theorem dL_fits_133 : decode cL_fits 133 = .ok (.iinc 5 1, 3) := by decide +kernel
theorem dL_fits_136 : decode cL_fits 136 = .ok (.goto (-41), 3) := by decide +kernel
theorem dL_fits_139 : decode cL_fits 139 = .ok (.iload 4, 2) := by decide +kernel
theorem dL_fits_141 : decode cL_fits 141 = .ok (.ireturn, 1) := by decide +kernel
theorem dL_isClean_0 : decode cL_isClean 0 = .ok (.aload_n 0, 1) := by decide +kernel
theorem dL_isClean_1 : decode cL_isClean 1 = .ok (.iload_n 1, 1) := by decide +kernel
theorem dL_isClean_2 : decode cL_isClean 2 = .ok (.invokestatic 83, 3) := by decide +kernel
theorem dL_isClean_5 : decode cL_isClean 5 = .ok (.istore 4, 2) := by decide +kernel
theorem dL_isClean_7 : decode cL_isClean 7 = .ok (.iconst 0, 1) := by decide +kernel
theorem dL_isClean_8 : decode cL_isClean 8 = .ok (.istore 5, 2) := by decide +kernel
theorem dL_isClean_10 : decode cL_isClean 10 = .ok (.iconst 0, 1) := by decide +kernel
theorem dL_isClean_11 : decode cL_isClean 11 = .ok (.istore 6, 2) := by decide +kernel
theorem dL_isClean_13 : decode cL_isClean 13 = .ok (.iconst 1, 1) := by decide +kernel
theorem dL_isClean_14 : decode cL_isClean 14 = .ok (.istore 7, 2) := by decide +kernel
theorem dL_isClean_16 : decode cL_isClean 16 = .ok (.iconst 0, 1) := by decide +kernel
theorem dL_isClean_17 : decode cL_isClean 17 = .ok (.istore 8, 2) := by decide +kernel
theorem dL_isClean_19 : decode cL_isClean 19 = .ok (.iload 8, 2) := by decide +kernel
theorem dL_isClean_21 : decode cL_isClean 21 = .ok (.iload 4, 2) := by decide +kernel
theorem dL_isClean_23 : decode cL_isClean 23 = .ok (.if_icmp .gt 247, 3) := by decide +kernel
theorem dL_isClean_26 : decode cL_isClean 26 = .ok (.iload 7, 2) := by decide +kernel
theorem dL_isClean_28 : decode cL_isClean 28 = .ok (.ifCond .eq 242, 3) := by decide +kernel
theorem dL_isClean_31 : decode cL_isClean 31 = .ok (.iload 8, 2) := by decide +kernel
theorem dL_isClean_33 : decode cL_isClean 33 = .ok (.iload 4, 2) := by decide +kernel
theorem dL_isClean_35 : decode cL_isClean 35 = .ok (.if_icmp .ne 8, 3) := by decide +kernel
theorem dL_isClean_38 : decode cL_isClean 38 = .ok (.bipush 47, 2) := by decide +kernel
theorem dL_isClean_40 : decode cL_isClean 40 = .ok (.goto 10, 3) := by decide +kernel
theorem dL_isClean_43 : decode cL_isClean 43 = .ok (.aload_n 0, 1) := by decide +kernel
theorem dL_isClean_44 : decode cL_isClean 44 = .ok (.iload_n 1, 1) := by decide +kernel
theorem dL_isClean_45 : decode cL_isClean 45 = .ok (.iload 8, 2) := by decide +kernel
theorem dL_isClean_47 : decode cL_isClean 47 = .ok (.invokestatic 88, 3) := by decide +kernel
theorem dL_isClean_50 : decode cL_isClean 50 = .ok (.istore 9, 2) := by decide +kernel
theorem dL_isClean_52 : decode cL_isClean 52 = .ok (.iload 8, 2) := by decide +kernel
theorem dL_isClean_54 : decode cL_isClean 54 = .ok (.ifCond .ne 8, 3) := by decide +kernel
theorem dL_isClean_57 : decode cL_isClean 57 = .ok (.bipush 47, 2) := by decide +kernel
theorem dL_isClean_59 : decode cL_isClean 59 = .ok (.goto 12, 3) := by decide +kernel
theorem dL_isClean_62 : decode cL_isClean 62 = .ok (.aload_n 0, 1) := by decide +kernel
theorem dL_isClean_63 : decode cL_isClean 63 = .ok (.iload_n 1, 1) := by decide +kernel
theorem dL_isClean_64 : decode cL_isClean 64 = .ok (.iload 8, 2) := by decide +kernel
theorem dL_isClean_66 : decode cL_isClean 66 = .ok (.iconst 1, 1) := by decide +kernel
theorem dL_isClean_67 : decode cL_isClean 67 = .ok (.isub, 1) := by decide +kernel
theorem dL_isClean_68 : decode cL_isClean 68 = .ok (.invokestatic 88, 3) := by decide +kernel
theorem dL_isClean_71 : decode cL_isClean 71 = .ok (.istore 10, 2) := by decide +kernel
theorem dL_isClean_73 : decode cL_isClean 73 = .ok (.iload_n 2, 1) := by decide +kernel
theorem dL_isClean_74 : decode cL_isClean 74 = .ok (.ifCond .ne 17, 3) := by decide +kernel
theorem dL_isClean_77 : decode cL_isClean 77 = .ok (.iload 9, 2) := by decide +kernel
theorem dL_isClean_79 : decode cL_isClean 79 = .ok (.bipush 32, 2) := by decide +kernel
theorem dL_isClean_81 : decode cL_isClean 81 = .ok (.if_icmp .ne 10, 3) := by decide +kernel
theorem dL_isClean_84 : decode cL_isClean 84 = .ok (.iload 10, 2) := by decide +kernel
theorem dL_isClean_86 : decode cL_isClean 86 = .ok (.bipush 32, 2) := by decide +kernel
theorem dL_isClean_88 : decode cL_isClean 88 = .ok (.if_icmp .eq 7, 3) := by decide +kernel
theorem dL_isClean_91 : decode cL_isClean 91 = .ok (.iconst 1, 1) := by decide +kernel
theorem dL_isClean_92 : decode cL_isClean 92 = .ok (.goto 4, 3) := by decide +kernel
theorem dL_isClean_95 : decode cL_isClean 95 = .ok (.iconst 0, 1) := by decide +kernel
theorem dL_isClean_96 : decode cL_isClean 96 = .ok (.istore 7, 2) := by decide +kernel
theorem dL_isClean_98 : decode cL_isClean 98 = .ok (.iload 7, 2) := by decide +kernel
theorem dL_isClean_100 : decode cL_isClean 100 = .ok (.ifCond .eq 26, 3) := by decide +kernel
theorem dL_isClean_103 : decode cL_isClean 103 = .ok (.iload_n 2, 1) := by decide +kernel
theorem dL_isClean_104 : decode cL_isClean 104 = .ok (.iconst 1, 1) := by decide +kernel
theorem dL_isClean_105 : decode cL_isClean 105 = .ok (.if_icmp .ne 17, 3) := by decide +kernel
theorem dL_isClean_108 : decode cL_isClean 108 = .ok (.iload 9, 2) := by decide +kernel
theorem dL_isClean_110 : decode cL_isClean 110 = .ok (.bipush 47, 2) := by decide +kernel
theorem dL_isClean_112 : decode cL_isClean 112 = .ok (.if_icmp .ne 10, 3) := by decide +kernel
theorem dL_isClean_115 : decode cL_isClean 115 = .ok (.iload 10, 2) := by decide +kernel
theorem dL_isClean_117 : decode cL_isClean 117 = .ok (.bipush 32, 2) := by decide +kernel
theorem dL_isClean_119 : decode cL_isClean 119 = .ok (.if_icmp .eq 7, 3) := by decide +kernel
theorem dL_isClean_122 : decode cL_isClean 122 = .ok (.iconst 1, 1) := by decide +kernel
theorem dL_isClean_123 : decode cL_isClean 123 = .ok (.goto 4, 3) := by decide +kernel
theorem dL_isClean_126 : decode cL_isClean 126 = .ok (.iconst 0, 1) := by decide +kernel
theorem dL_isClean_127 : decode cL_isClean 127 = .ok (.istore 7, 2) := by decide +kernel
theorem dL_isClean_129 : decode cL_isClean 129 = .ok (.iload 7, 2) := by decide +kernel
theorem dL_isClean_131 : decode cL_isClean 131 = .ok (.ifCond .eq 40, 3) := by decide +kernel
theorem dL_isClean_134 : decode cL_isClean 134 = .ok (.iload_n 2, 1) := by decide +kernel
theorem dL_isClean_135 : decode cL_isClean 135 = .ok (.iconst 2, 1) := by decide +kernel
theorem dL_isClean_136 : decode cL_isClean 136 = .ok (.if_icmp .ne 31, 3) := by decide +kernel
theorem dL_isClean_139 : decode cL_isClean 139 = .ok (.iload 8, 2) := by decide +kernel
theorem dL_isClean_141 : decode cL_isClean 141 = .ok (.iload 4, 2) := by decide +kernel
theorem dL_isClean_143 : decode cL_isClean 143 = .ok (.if_icmp .eq 24, 3) := by decide +kernel
theorem dL_isClean_146 : decode cL_isClean 146 = .ok (.iload 10, 2) := by decide +kernel
theorem dL_isClean_148 : decode cL_isClean 148 = .ok (.bipush 47, 2) := by decide +kernel
theorem dL_isClean_150 : decode cL_isClean 150 = .ok (.if_icmp .ne 17, 3) := by decide +kernel
theorem dL_isClean_153 : decode cL_isClean 153 = .ok (.iload 9, 2) := by decide +kernel
theorem dL_isClean_155 : decode cL_isClean 155 = .ok (.bipush 97, 2) := by decide +kernel
theorem dL_isClean_157 : decode cL_isClean 157 = .ok (.if_icmp .lt 10, 3) := by decide +kernel
theorem dL_isClean_160 : decode cL_isClean 160 = .ok (.iload 9, 2) := by decide +kernel
theorem dL_isClean_162 : decode cL_isClean 162 = .ok (.bipush 122, 2) := by decide +kernel
theorem dL_isClean_164 : decode cL_isClean 164 = .ok (.if_icmp .le 7, 3) := by decide +kernel
theorem dL_isClean_167 : decode cL_isClean 167 = .ok (.iconst 1, 1) := by decide +kernel
theorem dL_isClean_168 : decode cL_isClean 168 = .ok (.goto 4, 3) := by decide +kernel
theorem dL_isClean_171 : decode cL_isClean 171 = .ok (.iconst 0, 1) := by decide +kernel
theorem dL_isClean_172 : decode cL_isClean 172 = .ok (.istore 7, 2) := by decide +kernel
theorem dL_isClean_174 : decode cL_isClean 174 = .ok (.iload 7, 2) := by decide +kernel
theorem dL_isClean_176 : decode cL_isClean 176 = .ok (.ifCond .eq 30, 3) := by decide +kernel
theorem dL_isClean_179 : decode cL_isClean 179 = .ok (.iload_n 2, 1) := by decide +kernel
theorem dL_isClean_180 : decode cL_isClean 180 = .ok (.iconst 3, 1) := by decide +kernel
theorem dL_isClean_181 : decode cL_isClean 181 = .ok (.if_icmp .ne 21, 3) := by decide +kernel
theorem dL_isClean_184 : decode cL_isClean 184 = .ok (.iload 9, 2) := by decide +kernel
theorem dL_isClean_186 : decode cL_isClean 186 = .ok (.bipush 47, 2) := by decide +kernel
theorem dL_isClean_188 : decode cL_isClean 188 = .ok (.if_icmp .ne 14, 3) := by decide +kernel
theorem dL_isClean_191 : decode cL_isClean 191 = .ok (.iload 5, 2) := by decide +kernel
theorem dL_isClean_193 : decode cL_isClean 193 = .ok (.iload_n 3, 1) := by decide +kernel
theorem dL_isClean_194 : decode cL_isClean 194 = .ok (.if_icmp .le 8, 3) := by decide +kernel
theorem dL_isClean_197 : decode cL_isClean 197 = .ok (.iload 6, 2) := by decide +kernel
theorem dL_isClean_199 : decode cL_isClean 199 = .ok (.ifCond .ne 7, 3) := by decide +kernel
theorem dL_isClean_202 : decode cL_isClean 202 = .ok (.iconst 1, 1) := by decide +kernel
theorem dL_isClean_203 : decode cL_isClean 203 = .ok (.goto 4, 3) := by decide +kernel
theorem dL_isClean_206 : decode cL_isClean 206 = .ok (.iconst 0, 1) := by decide +kernel
theorem dL_isClean_207 : decode cL_isClean 207 = .ok (.istore 7, 2) := by decide +kernel
theorem dL_isClean_209 : decode cL_isClean 209 = .ok (.iload 6, 2) := by decide +kernel
theorem dL_isClean_211 : decode cL_isClean 211 = .ok (.iload 9, 2) := by decide +kernel
theorem dL_isClean_213 : decode cL_isClean 213 = .ok (.bipush 32, 2) := by decide +kernel
theorem dL_isClean_215 : decode cL_isClean 215 = .ok (.if_icmp .ne 13, 3) := by decide +kernel
theorem dL_isClean_218 : decode cL_isClean 218 = .ok (.iload 5, 2) := by decide +kernel
theorem dL_isClean_220 : decode cL_isClean 220 = .ok (.iload_n 3, 1) := by decide +kernel
theorem dL_isClean_221 : decode cL_isClean 221 = .ok (.if_icmp .gt 7, 3) := by decide +kernel
theorem dL_isClean_224 : decode cL_isClean 224 = .ok (.iconst 1, 1) := by decide +kernel
theorem dL_isClean_225 : decode cL_isClean 225 = .ok (.goto 4, 3) := by decide +kernel
theorem dL_isClean_228 : decode cL_isClean 228 = .ok (.iconst 0, 1) := by decide +kernel
theorem dL_isClean_229 : decode cL_isClean 229 = .ok (.iadd, 1) := by decide +kernel
theorem dL_isClean_230 : decode cL_isClean 230 = .ok (.istore 6, 2) := by decide +kernel
theorem dL_isClean_232 : decode cL_isClean 232 = .ok (.iload 9, 2) := by decide +kernel
theorem dL_isClean_234 : decode cL_isClean 234 = .ok (.bipush 47, 2) := by decide +kernel
theorem dL_isClean_236 : decode cL_isClean 236 = .ok (.if_icmp .ne 7, 3) := by decide +kernel
theorem dL_isClean_239 : decode cL_isClean 239 = .ok (.iconst 0, 1) := by decide +kernel
theorem dL_isClean_240 : decode cL_isClean 240 = .ok (.goto 7, 3) := by decide +kernel
theorem dL_isClean_243 : decode cL_isClean 243 = .ok (.iload 5, 2) := by decide +kernel
theorem dL_isClean_245 : decode cL_isClean 245 = .ok (.iconst 1, 1) := by decide +kernel
theorem dL_isClean_246 : decode cL_isClean 246 = .ok (.iadd, 1) := by decide +kernel
theorem dL_isClean_247 : decode cL_isClean 247 = .ok (.istore 5, 2) := by decide +kernel
theorem dL_isClean_249 : decode cL_isClean 249 = .ok (.iload 9, 2) := by decide +kernel
theorem dL_isClean_251 : decode cL_isClean 251 = .ok (.bipush 47, 2) := by decide +kernel
theorem dL_isClean_253 : decode cL_isClean 253 = .ok (.if_icmp .ne 7, 3) := by decide +kernel
theorem dL_isClean_256 : decode cL_isClean 256 = .ok (.iconst 0, 1) := by decide +kernel
theorem dL_isClean_257 : decode cL_isClean 257 = .ok (.goto 5, 3) := by decide +kernel
theorem dL_isClean_260 : decode cL_isClean 260 = .ok (.iload 6, 2) := by decide +kernel
theorem dL_isClean_262 : decode cL_isClean 262 = .ok (.istore 6, 2) := by decide +kernel
theorem dL_isClean_264 : decode cL_isClean 264 = .ok (.iinc 8 1, 3) := by decide +kernel
theorem dL_isClean_267 : decode cL_isClean 267 = .ok (.goto (-248), 3) := by decide +kernel
theorem dL_isClean_270 : decode cL_isClean 270 = .ok (.iload 7, 2) := by decide +kernel
theorem dL_isClean_272 : decode cL_isClean 272 = .ok (.ireturn, 1) := by decide +kernel
theorem dL_law_0 : decode cL_law 0 = .ok (.new 10, 3) := by decide +kernel
theorem dL_law_3 : decode cL_law 3 = .ok (.dup, 1) := by decide +kernel
theorem dL_law_4 : decode cL_law 4 = .ok (.invokespecial 102, 3) := by decide +kernel
theorem dL_law_7 : decode cL_law 7 = .ok (.astore_n 1, 1) := by decide +kernel
theorem dL_law_8 : decode cL_law 8 = .ok (.iconst 3, 1) := by decide +kernel
theorem dL_law_9 : decode cL_law 9 = .ok (.newarray .int, 2) := by decide +kernel
theorem dL_law_11 : decode cL_law 11 = .ok (.astore_n 2, 1) := by decide +kernel
theorem dL_law_12 : decode cL_law 12 = .ok (.iconst 5, 1) := by decide +kernel
theorem dL_law_13 : decode cL_law 13 = .ok (.newarray .int, 2) := by decide +kernel
theorem dL_law_15 : decode cL_law 15 = .ok (.astore_n 3, 1) := by decide +kernel
theorem dL_law_16 : decode cL_law 16 = .ok (.bipush 60, 2) := by decide +kernel
theorem dL_law_18 : decode cL_law 18 = .ok (.newarray .int, 2) := by decide +kernel
theorem dL_law_20 : decode cL_law 20 = .ok (.astore 4, 2) := by decide +kernel
theorem dL_law_22 : decode cL_law 22 = .ok (.bipush 60, 2) := by decide +kernel
theorem dL_law_24 : decode cL_law 24 = .ok (.newarray .int, 2) := by decide +kernel
theorem dL_law_26 : decode cL_law 26 = .ok (.astore 5, 2) := by decide +kernel
theorem dL_law_28 : decode cL_law 28 = .ok (.iconst 0, 1) := by decide +kernel
theorem dL_law_29 : decode cL_law 29 = .ok (.istore 6, 2) := by decide +kernel
theorem dL_law_31 : decode cL_law 31 = .ok (.iconst 0, 1) := by decide +kernel
theorem dL_law_32 : decode cL_law 32 = .ok (.istore 7, 2) := by decide +kernel
theorem dL_law_34 : decode cL_law 34 = .ok (.iconst 0, 1) := by decide +kernel
theorem dL_law_35 : decode cL_law 35 = .ok (.istore 8, 2) := by decide +kernel
theorem dL_law_37 : decode cL_law 37 = .ok (.aload_n 1, 1) := by decide +kernel
theorem dL_law_38 : decode cL_law 38 = .ok (.invokevirtual 103, 3) := by decide +kernel
theorem dL_law_41 : decode cL_law 41 = .ok (.ifCond .ne 7, 3) := by decide +kernel
theorem dL_law_44 : decode cL_law 44 = .ok (.iconst 1, 1) := by decide +kernel
theorem dL_law_45 : decode cL_law 45 = .ok (.goto 4, 3) := by decide +kernel
theorem dL_law_48 : decode cL_law 48 = .ok (.iconst 0, 1) := by decide +kernel
theorem dL_law_49 : decode cL_law 49 = .ok (.istore 9, 2) := by decide +kernel
theorem dL_law_51 : decode cL_law 51 = .ok (.iconst 0, 1) := by decide +kernel
theorem dL_law_52 : decode cL_law 52 = .ok (.istore 10, 2) := by decide +kernel
theorem dL_law_54 : decode cL_law 54 = .ok (.iload 10, 2) := by decide +kernel
theorem dL_law_56 : decode cL_law 56 = .ok (.bipush 64, 2) := by decide +kernel
theorem dL_law_58 : decode cL_law 58 = .ok (.if_icmp .ge 1756, 3) := by decide +kernel
theorem dL_law_61 : decode cL_law 61 = .ok (.iload 9, 2) := by decide +kernel
theorem dL_law_63 : decode cL_law 63 = .ok (.ifCond .eq 1751, 3) := by decide +kernel
theorem dL_law_66 : decode cL_law 66 = .ok (.aload_n 0, 1) := by decide +kernel
theorem dL_law_67 : decode cL_law 67 = .ok (.iload 10, 2) := by decide +kernel
theorem dL_law_69 : decode cL_law 69 = .ok (.invokestatic 107, 3) := by decide +kernel
theorem dL_law_72 : decode cL_law 72 = .ok (.istore 11, 2) := by decide +kernel
theorem dL_law_74 : decode cL_law 74 = .ok (.iload 11, 2) := by decide +kernel
theorem dL_law_76 : decode cL_law 76 = .ok (.bipush 24, 2) := by decide +kernel
theorem dL_law_78 : decode cL_law 78 = .ok (.idiv, 1) := by decide +kernel
theorem dL_law_79 : decode cL_law 79 = .ok (.istore 12, 2) := by decide +kernel
theorem dL_law_81 : decode cL_law 81 = .ok (.iload 11, 2) := by decide +kernel
theorem dL_law_83 : decode cL_law 83 = .ok (.bipush 24, 2) := by decide +kernel
theorem dL_law_85 : decode cL_law 85 = .ok (.irem, 1) := by decide +kernel
theorem dL_law_86 : decode cL_law 86 = .ok (.istore 13, 2) := by decide +kernel
theorem dL_law_88 : decode cL_law 88 = .ok (.iload 12, 2) := by decide +kernel
theorem dL_law_90 : decode cL_law 90 = .ok (.iconst 3, 1) := by decide +kernel
theorem dL_law_91 : decode cL_law 91 = .ok (.irem, 1) := by decide +kernel
theorem dL_law_92 : decode cL_law 92 = .ok (.istore 14, 2) := by decide +kernel
theorem dL_law_94 : decode cL_law 94 = .ok (.iload 12, 2) := by decide +kernel
theorem dL_law_96 : decode cL_law 96 = .ok (.iconst 3, 1) := by decide +kernel
theorem dL_law_97 : decode cL_law 97 = .ok (.idiv, 1) := by decide +kernel
theorem dL_law_98 : decode cL_law 98 = .ok (.iconst 5, 1) := by decide +kernel
theorem dL_law_99 : decode cL_law 99 = .ok (.irem, 1) := by decide +kernel
theorem dL_law_100 : decode cL_law 100 = .ok (.istore 15, 2) := by decide +kernel
theorem dL_law_102 : decode cL_law 102 = .ok (.iload 12, 2) := by decide +kernel
theorem dL_law_104 : decode cL_law 104 = .ok (.bipush 15, 2) := by decide +kernel
theorem dL_law_106 : decode cL_law 106 = .ok (.idiv, 1) := by decide +kernel
theorem dL_law_107 : decode cL_law 107 = .ok (.istore 16, 2) := by decide +kernel
theorem dL_law_109 : decode cL_law 109 = .ok (.aload_n 1, 1) := by decide +kernel
theorem dL_law_110 : decode cL_law 110 = .ok (.iload 14, 2) := by decide +kernel
theorem dL_law_112 : decode cL_law 112 = .ok (.invokestatic 111, 3) := by decide +kernel
theorem dL_law_115 : decode cL_law 115 = .ok (.lstore 17, 2) := by decide +kernel
theorem dL_law_117 : decode cL_law 117 = .ok (.aload_n 1, 1) := by decide +kernel
theorem dL_law_118 : decode cL_law 118 = .ok (.iload 14, 2) := by decide +kernel
theorem dL_law_120 : decode cL_law 120 = .ok (.invokestatic 115, 3) := by decide +kernel
theorem dL_law_123 : decode cL_law 123 = .ok (.istore 19, 2) := by decide +kernel
theorem dL_law_125 : decode cL_law 125 = .ok (.aload_n 1, 1) := by decide +kernel
theorem dL_law_126 : decode cL_law 126 = .ok (.iload 14, 2) := by decide +kernel
theorem dL_law_128 : decode cL_law 128 = .ok (.invokestatic 83, 3) := by decide +kernel
theorem dL_law_131 : decode cL_law 131 = .ok (.istore 20, 2) := by decide +kernel
theorem dL_law_133 : decode cL_law 133 = .ok (.iload 13, 2) := by decide +kernel
theorem dL_law_135 : decode cL_law 135 = .ok (.bipush 9, 2) := by decide +kernel
theorem dL_law_137 : decode cL_law 137 = .ok (.if_icmp .ge 229, 3) := by decide +kernel
theorem dL_law_140 : decode cL_law 140 = .ok (.iload 16, 2) := by decide +kernel
theorem dL_law_142 : decode cL_law 142 = .ok (.bipush 8, 2) := by decide +kernel
theorem dL_law_144 : decode cL_law 144 = .ok (.irem, 1) := by decide +kernel
theorem dL_law_145 : decode cL_law 145 = .ok (.istore 21, 2) := by decide +kernel
theorem dL_law_147 : decode cL_law 147 = .ok (.iload 21, 2) := by decide +kernel
theorem dL_law_149 : decode cL_law 149 = .ok (.iconst 3, 1) := by decide +kernel
theorem dL_law_150 : decode cL_law 150 = .ok (.if_icmp .ge 8, 3) := by decide +kernel
theorem dL_law_153 : decode cL_law 153 = .ok (.bipush 32, 2) := by decide +kernel
theorem dL_law_155 : decode cL_law 155 = .ok (.goto 65, 3) := by decide +kernel
theorem dL_law_158 : decode cL_law 158 = .ok (.iload 21, 2) := by decide +kernel
theorem dL_law_160 : decode cL_law 160 = .ok (.iconst 3, 1) := by decide +kernel
theorem dL_law_161 : decode cL_law 161 = .ok (.if_icmp .ne 8, 3) := by decide +kernel
theorem dL_law_164 : decode cL_law 164 = .ok (.bipush 47, 2) := by decide +kernel
theorem dL_law_166 : decode cL_law 166 = .ok (.goto 54, 3) := by decide +kernel
theorem dL_law_169 : decode cL_law 169 = .ok (.iload 21, 2) := by decide +kernel
theorem dL_law_171 : decode cL_law 171 = .ok (.iconst 4, 1) := by decide +kernel
theorem dL_law_172 : decode cL_law 172 = .ok (.if_icmp .ne 17, 3) := by decide +kernel
theorem dL_law_175 : decode cL_law 175 = .ok (.bipush 65, 2) := by decide +kernel
theorem dL_law_177 : decode cL_law 177 = .ok (.iload 16, 2) := by decide +kernel
theorem dL_law_179 : decode cL_law 179 = .ok (.bipush 8, 2) := by decide +kernel
theorem dL_law_181 : decode cL_law 181 = .ok (.idiv, 1) := by decide +kernel
theorem dL_law_182 : decode cL_law 182 = .ok (.bipush 26, 2) := by decide +kernel
theorem dL_law_184 : decode cL_law 184 = .ok (.irem, 1) := by decide +kernel
theorem dL_law_185 : decode cL_law 185 = .ok (.iadd, 1) := by decide +kernel
theorem dL_law_186 : decode cL_law 186 = .ok (.goto 34, 3) := by decide +kernel
theorem dL_law_189 : decode cL_law 189 = .ok (.iload 21, 2) := by decide +kernel
theorem dL_law_191 : decode cL_law 191 = .ok (.iconst 5, 1) := by decide +kernel
theorem dL_law_192 : decode cL_law 192 = .ok (.if_icmp .ne 17, 3) := by decide +kernel
theorem dL_law_195 : decode cL_law 195 = .ok (.bipush 48, 2) := by decide +kernel
theorem dL_law_197 : decode cL_law 197 = .ok (.iload 16, 2) := by decide +kernel
theorem dL_law_199 : decode cL_law 199 = .ok (.bipush 8, 2) := by decide +kernel
theorem dL_law_201 : decode cL_law 201 = .ok (.idiv, 1) := by decide +kernel
theorem dL_law_202 : decode cL_law 202 = .ok (.bipush 10, 2) := by decide +kernel
theorem dL_law_204 : decode cL_law 204 = .ok (.irem, 1) := by decide +kernel
theorem dL_law_205 : decode cL_law 205 = .ok (.iadd, 1) := by decide +kernel
theorem dL_law_206 : decode cL_law 206 = .ok (.goto 14, 3) := by decide +kernel
theorem dL_law_209 : decode cL_law 209 = .ok (.bipush 97, 2) := by decide +kernel
theorem dL_law_211 : decode cL_law 211 = .ok (.iload 16, 2) := by decide +kernel
theorem dL_law_213 : decode cL_law 213 = .ok (.bipush 8, 2) := by decide +kernel
theorem dL_law_215 : decode cL_law 215 = .ok (.idiv, 1) := by decide +kernel
theorem dL_law_216 : decode cL_law 216 = .ok (.bipush 26, 2) := by decide +kernel
theorem dL_law_218 : decode cL_law 218 = .ok (.irem, 1) := by decide +kernel
theorem dL_law_219 : decode cL_law 219 = .ok (.iadd, 1) := by decide +kernel
theorem dL_law_220 : decode cL_law 220 = .ok (.istore 22, 2) := by decide +kernel
theorem dL_law_222 : decode cL_law 222 = .ok (.aload_n 1, 1) := by decide +kernel
theorem dL_law_223 : decode cL_law 223 = .ok (.iload 15, 2) := by decide +kernel
theorem dL_law_225 : decode cL_law 225 = .ok (.iload 14, 2) := by decide +kernel
theorem dL_law_227 : decode cL_law 227 = .ok (.invokestatic 100, 3) := by decide +kernel
theorem dL_law_230 : decode cL_law 230 = .ok (.istore 23, 2) := by decide +kernel
theorem dL_law_232 : decode cL_law 232 = .ok (.aload_n 1, 1) := by decide +kernel
theorem dL_law_233 : decode cL_law 233 = .ok (.iload 15, 2) := by decide +kernel
theorem dL_law_235 : decode cL_law 235 = .ok (.iload 14, 2) := by decide +kernel
theorem dL_law_237 : decode cL_law 237 = .ok (.iload 22, 2) := by decide +kernel
theorem dL_law_239 : decode cL_law 239 = .ok (.invokestatic 117, 3) := by decide +kernel
theorem dL_law_242 : decode cL_law 242 = .ok (.iload 23, 2) := by decide +kernel
theorem dL_law_244 : decode cL_law 244 = .ok (.iconst 1, 1) := by decide +kernel
theorem dL_law_245 : decode cL_law 245 = .ok (.iadd, 1) := by decide +kernel
theorem dL_law_246 : decode cL_law 246 = .ok (.if_icmp .ne 106, 3) := by decide +kernel
theorem dL_law_249 : decode cL_law 249 = .ok (.aload_n 1, 1) := by decide +kernel
theorem dL_law_250 : decode cL_law 250 = .ok (.iload 14, 2) := by decide +kernel
theorem dL_law_252 : decode cL_law 252 = .ok (.iload 23, 2) := by decide +kernel
theorem dL_law_254 : decode cL_law 254 = .ok (.invokestatic 88, 3) := by decide +kernel
theorem dL_law_257 : decode cL_law 257 = .ok (.iload 22, 2) := by decide +kernel
theorem dL_law_259 : decode cL_law 259 = .ok (.if_icmp .ne 93, 3) := by decide +kernel
theorem dL_law_262 : decode cL_law 262 = .ok (.aload_n 1, 1) := by decide +kernel
theorem dL_law_263 : decode cL_law 263 = .ok (.iload 14, 2) := by decide +kernel
theorem dL_law_265 : decode cL_law 265 = .ok (.invokestatic 83, 3) := by decide +kernel
theorem dL_law_268 : decode cL_law 268 = .ok (.iload 20, 2) := by decide +kernel
theorem dL_law_270 : decode cL_law 270 = .ok (.iconst 1, 1) := by decide +kernel
theorem dL_law_271 : decode cL_law 271 = .ok (.iadd, 1) := by decide +kernel
theorem dL_law_272 : decode cL_law 272 = .ok (.if_icmp .ne 80, 3) := by decide +kernel
theorem dL_law_275 : decode cL_law 275 = .ok (.aload_n 1, 1) := by decide +kernel
theorem dL_law_276 : decode cL_law 276 = .ok (.iload 14, 2) := by decide +kernel
theorem dL_law_278 : decode cL_law 278 = .ok (.invokestatic 115, 3) := by decide +kernel
theorem dL_law_281 : decode cL_law 281 = .ok (.iload 19, 2) := by decide +kernel
theorem dL_law_283 : decode cL_law 283 = .ok (.iconst 1, 1) := by decide +kernel
theorem dL_law_284 : decode cL_law 284 = .ok (.iadd, 1) := by decide +kernel
theorem dL_law_285 : decode cL_law 285 = .ok (.if_icmp .ne 67, 3) := by decide +kernel
theorem dL_law_288 : decode cL_law 288 = .ok (.aload_n 1, 1) := by decide +kernel
theorem dL_law_289 : decode cL_law 289 = .ok (.iload 15, 2) := by decide +kernel
theorem dL_law_291 : decode cL_law 291 = .ok (.invokestatic 120, 3) := by decide +kernel
theorem dL_law_294 : decode cL_law 294 = .ok (.iload 14, 2) := by decide +kernel
theorem dL_law_296 : decode cL_law 296 = .ok (.if_icmp .ne 56, 3) := by decide +kernel
theorem dL_law_299 : decode cL_law 299 = .ok (.aload_n 1, 1) := by decide +kernel
theorem dL_law_300 : decode cL_law 300 = .ok (.iload 14, 2) := by decide +kernel
theorem dL_law_302 : decode cL_law 302 = .ok (.invokestatic 111, 3) := by decide +kernel
theorem dL_law_305 : decode cL_law 305 = .ok (.lload 17, 2) := by decide +kernel
theorem dL_law_307 : decode cL_law 307 = .ok (.lcmp, 1) := by decide +kernel
theorem dL_law_308 : decode cL_law 308 = .ok (.ifCond .ne 44, 3) := by decide +kernel
theorem dL_law_311 : decode cL_law 311 = .ok (.aload_n 1, 1) := by decide +kernel
theorem dL_law_312 : decode cL_law 312 = .ok (.iload 15, 2) := by decide +kernel
theorem dL_law_314 : decode cL_law 314 = .ok (.invokestatic 122, 3) := by decide +kernel
theorem dL_law_317 : decode cL_law 317 = .ok (.iload 14, 2) := by decide +kernel
theorem dL_law_319 : decode cL_law 319 = .ok (.if_icmp .ne 33, 3) := by decide +kernel
theorem dL_law_322 : decode cL_law 322 = .ok (.aload_n 1, 1) := by decide +kernel
theorem dL_law_323 : decode cL_law 323 = .ok (.iload 14, 2) := by decide +kernel
theorem dL_law_325 : decode cL_law 325 = .ok (.iload 23, 2) := by decide +kernel
theorem dL_law_327 : decode cL_law 327 = .ok (.invokestatic 88, 3) := by decide +kernel
theorem dL_law_330 : decode cL_law 330 = .ok (.iload 22, 2) := by decide +kernel
theorem dL_law_332 : decode cL_law 332 = .ok (.if_icmp .ne 20, 3) := by decide +kernel
theorem dL_law_335 : decode cL_law 335 = .ok (.aload_n 1, 1) := by decide +kernel
theorem dL_law_336 : decode cL_law 336 = .ok (.iload 14, 2) := by decide +kernel
theorem dL_law_338 : decode cL_law 338 = .ok (.invokestatic 115, 3) := by decide +kernel
theorem dL_law_341 : decode cL_law 341 = .ok (.iload 19, 2) := by decide +kernel
theorem dL_law_343 : decode cL_law 343 = .ok (.iconst 3, 1) := by decide +kernel
theorem dL_law_344 : decode cL_law 344 = .ok (.iadd, 1) := by decide +kernel
theorem dL_law_345 : decode cL_law 345 = .ok (.if_icmp .ne 7, 3) := by decide +kernel
theorem dL_law_348 : decode cL_law 348 = .ok (.iconst 1, 1) := by decide +kernel
theorem dL_law_349 : decode cL_law 349 = .ok (.goto 4, 3) := by decide +kernel
theorem dL_law_352 : decode cL_law 352 = .ok (.iconst 0, 1) := by decide +kernel
theorem dL_law_353 : decode cL_law 353 = .ok (.istore 9, 2) := by decide +kernel
theorem dL_law_355 : decode cL_law 355 = .ok (.aload_n 3, 1) := by decide +kernel
theorem dL_law_356 : decode cL_law 356 = .ok (.iload 15, 2) := by decide +kernel
theorem dL_law_358 : decode cL_law 358 = .ok (.dup2, 1) := by decide +kernel
theorem dL_law_359 : decode cL_law 359 = .ok (.iaload, 1) := by decide +kernel
theorem dL_law_360 : decode cL_law 360 = .ok (.iconst 1, 1) := by decide +kernel
theorem dL_law_361 : decode cL_law 361 = .ok (.iadd, 1) := by decide +kernel
theorem dL_law_362 : decode cL_law 362 = .ok (.iastore, 1) := by decide +kernel
theorem dL_law_363 : decode cL_law 363 = .ok (.goto 1277, 3) := by decide +kernel
theorem dL_law_366 : decode cL_law 366 = .ok (.iload 13, 2) := by decide +kernel
theorem dL_law_368 : decode cL_law 368 = .ok (.bipush 11, 2) := by decide +kernel
theorem dL_law_370 : decode cL_law 370 = .ok (.if_icmp .ge 188, 3) := by decide +kernel
theorem dL_law_373 : decode cL_law 373 = .ok (.aload_n 1, 1) := by decide +kernel
theorem dL_law_374 : decode cL_law 374 = .ok (.iload 15, 2) := by decide +kernel
theorem dL_law_376 : decode cL_law 376 = .ok (.iload 14, 2) := by decide +kernel
theorem dL_law_378 : decode cL_law 378 = .ok (.invokestatic 100, 3) := by decide +kernel
theorem dL_law_381 : decode cL_law 381 = .ok (.istore 21, 2) := by decide +kernel
theorem dL_law_383 : decode cL_law 383 = .ok (.aload_n 1, 1) := by decide +kernel
theorem dL_law_384 : decode cL_law 384 = .ok (.iload 15, 2) := by decide +kernel
theorem dL_law_386 : decode cL_law 386 = .ok (.iload 14, 2) := by decide +kernel
theorem dL_law_388 : decode cL_law 388 = .ok (.invokestatic 124, 3) := by decide +kernel
theorem dL_law_391 : decode cL_law 391 = .ok (.istore 22, 2) := by decide +kernel
theorem dL_law_393 : decode cL_law 393 = .ok (.iload 21, 2) := by decide +kernel
theorem dL_law_395 : decode cL_law 395 = .ok (.ifCond .ne 30, 3) := by decide +kernel
theorem dL_law_398 : decode cL_law 398 = .ok (.iload 22, 2) := by decide +kernel
theorem dL_law_400 : decode cL_law 400 = .ok (.bipush (-103), 2) := by decide +kernel
theorem dL_law_402 : decode cL_law 402 = .ok (.if_icmp .ne 19, 3) := by decide +kernel
theorem dL_law_405 : decode cL_law 405 = .ok (.aload_n 1, 1) := by decide +kernel
theorem dL_law_406 : decode cL_law 406 = .ok (.iload 14, 2) := by decide +kernel
theorem dL_law_408 : decode cL_law 408 = .ok (.invokestatic 111, 3) := by decide +kernel
theorem dL_law_411 : decode cL_law 411 = .ok (.lload 17, 2) := by decide +kernel
theorem dL_law_413 : decode cL_law 413 = .ok (.lcmp, 1) := by decide +kernel
theorem dL_law_414 : decode cL_law 414 = .ok (.ifCond .ne 7, 3) := by decide +kernel
theorem dL_law_417 : decode cL_law 417 = .ok (.iconst 1, 1) := by decide +kernel
theorem dL_law_418 : decode cL_law 418 = .ok (.goto 118, 3) := by decide +kernel
theorem dL_law_421 : decode cL_law 421 = .ok (.iconst 0, 1) := by decide +kernel
theorem dL_law_422 : decode cL_law 422 = .ok (.goto 114, 3) := by decide +kernel
theorem dL_law_425 : decode cL_law 425 = .ok (.iload 22, 2) := by decide +kernel
theorem dL_law_427 : decode cL_law 427 = .ok (.iload 21, 2) := by decide +kernel
theorem dL_law_429 : decode cL_law 429 = .ok (.iconst 1, 1) := by decide +kernel
theorem dL_law_430 : decode cL_law 430 = .ok (.isub, 1) := by decide +kernel
theorem dL_law_431 : decode cL_law 431 = .ok (.if_icmp .ne 104, 3) := by decide +kernel
theorem dL_law_434 : decode cL_law 434 = .ok (.aload_n 1, 1) := by decide +kernel
theorem dL_law_435 : decode cL_law 435 = .ok (.iload 14, 2) := by decide +kernel
theorem dL_law_437 : decode cL_law 437 = .ok (.invokestatic 83, 3) := by decide +kernel
theorem dL_law_440 : decode cL_law 440 = .ok (.iload 20, 2) := by decide +kernel
theorem dL_law_442 : decode cL_law 442 = .ok (.iconst 1, 1) := by decide +kernel
theorem dL_law_443 : decode cL_law 443 = .ok (.isub, 1) := by decide +kernel
theorem dL_law_444 : decode cL_law 444 = .ok (.if_icmp .ne 91, 3) := by decide +kernel
theorem dL_law_447 : decode cL_law 447 = .ok (.aload_n 1, 1) := by decide +kernel
theorem dL_law_448 : decode cL_law 448 = .ok (.iload 14, 2) := by decide +kernel
theorem dL_law_450 : decode cL_law 450 = .ok (.invokestatic 115, 3) := by decide +kernel
theorem dL_law_453 : decode cL_law 453 = .ok (.iload 19, 2) := by decide +kernel
theorem dL_law_455 : decode cL_law 455 = .ok (.iconst 1, 1) := by decide +kernel
theorem dL_law_456 : decode cL_law 456 = .ok (.iadd, 1) := by decide +kernel
theorem dL_law_457 : decode cL_law 457 = .ok (.if_icmp .ne 78, 3) := by decide +kernel
theorem dL_law_460 : decode cL_law 460 = .ok (.aload_n 1, 1) := by decide +kernel
theorem dL_law_461 : decode cL_law 461 = .ok (.iload 15, 2) := by decide +kernel
theorem dL_law_463 : decode cL_law 463 = .ok (.invokestatic 120, 3) := by decide +kernel
theorem dL_law_466 : decode cL_law 466 = .ok (.iload 14, 2) := by decide +kernel
theorem dL_law_468 : decode cL_law 468 = .ok (.if_icmp .ne 67, 3) := by decide +kernel
theorem dL_law_471 : decode cL_law 471 = .ok (.aload_n 1, 1) := by decide +kernel
theorem dL_law_472 : decode cL_law 472 = .ok (.iload 14, 2) := by decide +kernel
theorem dL_law_474 : decode cL_law 474 = .ok (.invokestatic 111, 3) := by decide +kernel
theorem dL_law_477 : decode cL_law 477 = .ok (.lload 17, 2) := by decide +kernel
theorem dL_law_479 : decode cL_law 479 = .ok (.lcmp, 1) := by decide +kernel
theorem dL_law_480 : decode cL_law 480 = .ok (.ifCond .ne 55, 3) := by decide +kernel
theorem dL_law_483 : decode cL_law 483 = .ok (.aload_n 1, 1) := by decide +kernel
theorem dL_law_484 : decode cL_law 484 = .ok (.iload 15, 2) := by decide +kernel
theorem dL_law_486 : decode cL_law 486 = .ok (.iload 14, 2) := by decide +kernel
theorem dL_law_488 : decode cL_law 488 = .ok (.invokestatic 100, 3) := by decide +kernel
theorem dL_law_491 : decode cL_law 491 = .ok (.iload 21, 2) := by decide +kernel
theorem dL_law_493 : decode cL_law 493 = .ok (.if_icmp .ne 42, 3) := by decide +kernel
theorem dL_law_496 : decode cL_law 496 = .ok (.aload_n 1, 1) := by decide +kernel
theorem dL_law_497 : decode cL_law 497 = .ok (.iload 15, 2) := by decide +kernel
theorem dL_law_499 : decode cL_law 499 = .ok (.invokestatic 122, 3) := by decide +kernel
theorem dL_law_502 : decode cL_law 502 = .ok (.iload 14, 2) := by decide +kernel
theorem dL_law_504 : decode cL_law 504 = .ok (.if_icmp .ne 31, 3) := by decide +kernel
theorem dL_law_507 : decode cL_law 507 = .ok (.aload_n 1, 1) := by decide +kernel
theorem dL_law_508 : decode cL_law 508 = .ok (.iload 14, 2) := by decide +kernel
theorem dL_law_510 : decode cL_law 510 = .ok (.invokestatic 83, 3) := by decide +kernel
theorem dL_law_513 : decode cL_law 513 = .ok (.iload 20, 2) := by decide +kernel
theorem dL_law_515 : decode cL_law 515 = .ok (.iconst 1, 1) := by decide +kernel
theorem dL_law_516 : decode cL_law 516 = .ok (.isub, 1) := by decide +kernel
theorem dL_law_517 : decode cL_law 517 = .ok (.if_icmp .ne 18, 3) := by decide +kernel
theorem dL_law_520 : decode cL_law 520 = .ok (.aload_n 1, 1) := by decide +kernel
theorem dL_law_521 : decode cL_law 521 = .ok (.iload 15, 2) := by decide +kernel
theorem dL_law_523 : decode cL_law 523 = .ok (.invokestatic 122, 3) := by decide +kernel
theorem dL_law_526 : decode cL_law 526 = .ok (.bipush (-103), 2) := by decide +kernel
theorem dL_law_528 : decode cL_law 528 = .ok (.if_icmp .ne 7, 3) := by decide +kernel
theorem dL_law_531 : decode cL_law 531 = .ok (.iconst 1, 1) := by decide +kernel
theorem dL_law_532 : decode cL_law 532 = .ok (.goto 4, 3) := by decide +kernel
theorem dL_law_535 : decode cL_law 535 = .ok (.iconst 0, 1) := by decide +kernel
theorem dL_law_536 : decode cL_law 536 = .ok (.istore 9, 2) := by decide +kernel
theorem dL_law_538 : decode cL_law 538 = .ok (.aload_n 3, 1) := by decide +kernel
theorem dL_law_539 : decode cL_law 539 = .ok (.iload 15, 2) := by decide +kernel
theorem dL_law_541 : decode cL_law 541 = .ok (.dup2, 1) := by decide +kernel
theorem dL_law_542 : decode cL_law 542 = .ok (.iaload, 1) := by decide +kernel
theorem dL_law_543 : decode cL_law 543 = .ok (.iload 22, 2) := by decide +kernel
theorem dL_law_545 : decode cL_law 545 = .ok (.ifCond .lt 7, 3) := by decide +kernel
theorem dL_law_548 : decode cL_law 548 = .ok (.iconst 1, 1) := by decide +kernel
theorem dL_law_549 : decode cL_law 549 = .ok (.goto 4, 3) := by decide +kernel
theorem dL_law_552 : decode cL_law 552 = .ok (.iconst 0, 1) := by decide +kernel
theorem dL_law_553 : decode cL_law 553 = .ok (.iadd, 1) := by decide +kernel
theorem dL_law_554 : decode cL_law 554 = .ok (.iastore, 1) := by decide +kernel
theorem dL_law_555 : decode cL_law 555 = .ok (.goto 1085, 3) := by decide +kernel
theorem dL_law_558 : decode cL_law 558 = .ok (.iload 13, 2) := by decide +kernel
theorem dL_law_560 : decode cL_law 560 = .ok (.bipush 14, 2) := by decide +kernel
theorem dL_law_562 : decode cL_law 562 = .ok (.if_icmp .ge 101, 3) := by decide +kernel
theorem dL_law_565 : decode cL_law 565 = .ok (.aload_n 1, 1) := by decide +kernel
theorem dL_law_566 : decode cL_law 566 = .ok (.iload 15, 2) := by decide +kernel
theorem dL_law_568 : decode cL_law 568 = .ok (.iload 14, 2) := by decide +kernel
theorem dL_law_570 : decode cL_law 570 = .ok (.invokestatic 100, 3) := by decide +kernel
theorem dL_law_573 : decode cL_law 573 = .ok (.istore 21, 2) := by decide +kernel
theorem dL_law_575 : decode cL_law 575 = .ok (.aload_n 1, 1) := by decide +kernel
theorem dL_law_576 : decode cL_law 576 = .ok (.iload 15, 2) := by decide +kernel
theorem dL_law_578 : decode cL_law 578 = .ok (.iload 14, 2) := by decide +kernel
theorem dL_law_580 : decode cL_law 580 = .ok (.iload 20, 2) := by decide +kernel
theorem dL_law_582 : decode cL_law 582 = .ok (.iconst 1, 1) := by decide +kernel
theorem dL_law_583 : decode cL_law 583 = .ok (.iadd, 1) := by decide +kernel
theorem dL_law_584 : decode cL_law 584 = .ok (.invokestatic 126, 3) := by decide +kernel
theorem dL_law_587 : decode cL_law 587 = .ok (.bipush (-101), 2) := by decide +kernel
theorem dL_law_589 : decode cL_law 589 = .ok (.if_icmp .ne 68, 3) := by decide +kernel
theorem dL_law_592 : decode cL_law 592 = .ok (.aload_n 1, 1) := by decide +kernel
theorem dL_law_593 : decode cL_law 593 = .ok (.iload 15, 2) := by decide +kernel
theorem dL_law_595 : decode cL_law 595 = .ok (.iload 14, 2) := by decide +kernel
theorem dL_law_597 : decode cL_law 597 = .ok (.iload 16, 2) := by decide +kernel
theorem dL_law_599 : decode cL_law 599 = .ok (.iload 20, 2) := by decide +kernel
theorem dL_law_601 : decode cL_law 601 = .ok (.iconst 1, 1) := by decide +kernel
theorem dL_law_602 : decode cL_law 602 = .ok (.iadd, 1) := by decide +kernel
theorem dL_law_603 : decode cL_law 603 = .ok (.irem, 1) := by decide +kernel
theorem dL_law_604 : decode cL_law 604 = .ok (.invokestatic 126, 3) := by decide +kernel
theorem dL_law_607 : decode cL_law 607 = .ok (.iload 21, 2) := by decide +kernel
theorem dL_law_609 : decode cL_law 609 = .ok (.if_icmp .ne 48, 3) := by decide +kernel
theorem dL_law_612 : decode cL_law 612 = .ok (.aload_n 1, 1) := by decide +kernel
theorem dL_law_613 : decode cL_law 613 = .ok (.iload 15, 2) := by decide +kernel
theorem dL_law_615 : decode cL_law 615 = .ok (.iload 14, 2) := by decide +kernel
theorem dL_law_617 : decode cL_law 617 = .ok (.invokestatic 100, 3) := by decide +kernel
theorem dL_law_620 : decode cL_law 620 = .ok (.iload 16, 2) := by decide +kernel
theorem dL_law_622 : decode cL_law 622 = .ok (.iload 20, 2) := by decide +kernel
theorem dL_law_624 : decode cL_law 624 = .ok (.iconst 1, 1) := by decide +kernel
theorem dL_law_625 : decode cL_law 625 = .ok (.iadd, 1) := by decide +kernel
theorem dL_law_626 : decode cL_law 626 = .ok (.irem, 1) := by decide +kernel
theorem dL_law_627 : decode cL_law 627 = .ok (.if_icmp .ne 30, 3) := by decide +kernel
theorem dL_law_630 : decode cL_law 630 = .ok (.aload_n 1, 1) := by decide +kernel
theorem dL_law_631 : decode cL_law 631 = .ok (.iload 14, 2) := by decide +kernel
theorem dL_law_633 : decode cL_law 633 = .ok (.invokestatic 111, 3) := by decide +kernel
theorem dL_law_636 : decode cL_law 636 = .ok (.lload 17, 2) := by decide +kernel
theorem dL_law_638 : decode cL_law 638 = .ok (.lcmp, 1) := by decide +kernel
theorem dL_law_639 : decode cL_law 639 = .ok (.ifCond .ne 18, 3) := by decide +kernel
theorem dL_law_642 : decode cL_law 642 = .ok (.aload_n 1, 1) := by decide +kernel
theorem dL_law_643 : decode cL_law 643 = .ok (.iload 14, 2) := by decide +kernel
theorem dL_law_645 : decode cL_law 645 = .ok (.invokestatic 115, 3) := by decide +kernel
theorem dL_law_648 : decode cL_law 648 = .ok (.iload 19, 2) := by decide +kernel
theorem dL_law_650 : decode cL_law 650 = .ok (.if_icmp .ne 7, 3) := by decide +kernel
theorem dL_law_653 : decode cL_law 653 = .ok (.iconst 1, 1) := by decide +kernel
theorem dL_law_654 : decode cL_law 654 = .ok (.goto 4, 3) := by decide +kernel
theorem dL_law_657 : decode cL_law 657 = .ok (.iconst 0, 1) := by decide +kernel
theorem dL_law_658 : decode cL_law 658 = .ok (.istore 9, 2) := by decide +kernel
theorem dL_law_660 : decode cL_law 660 = .ok (.goto 980, 3) := by decide +kernel
theorem dL_law_663 : decode cL_law 663 = .ok (.iload 13, 2) := by decide +kernel
theorem dL_law_665 : decode cL_law 665 = .ok (.bipush 16, 2) := by decide +kernel
theorem dL_law_667 : decode cL_law 667 = .ok (.if_icmp .ge 111, 3) := by decide +kernel
theorem dL_law_670 : decode cL_law 670 = .ok (.aload_n 1, 1) := by decide +kernel
theorem dL_law_671 : decode cL_law 671 = .ok (.iload 15, 2) := by decide +kernel
theorem dL_law_673 : decode cL_law 673 = .ok (.invokestatic 120, 3) := by decide +kernel
theorem dL_law_676 : decode cL_law 676 = .ok (.istore 21, 2) := by decide +kernel
theorem dL_law_678 : decode cL_law 678 = .ok (.aload_n 3, 1) := by decide +kernel
theorem dL_law_679 : decode cL_law 679 = .ok (.iload 15, 2) := by decide +kernel
theorem dL_law_681 : decode cL_law 681 = .ok (.iaload, 1) := by decide +kernel
theorem dL_law_682 : decode cL_law 682 = .ok (.ifCond .ne 18, 3) := by decide +kernel
theorem dL_law_685 : decode cL_law 685 = .ok (.iload 21, 2) := by decide +kernel
theorem dL_law_687 : decode cL_law 687 = .ok (.bipush (-103), 2) := by decide +kernel
theorem dL_law_689 : decode cL_law 689 = .ok (.if_icmp .ne 7, 3) := by decide +kernel
theorem dL_law_692 : decode cL_law 692 = .ok (.iconst 1, 1) := by decide +kernel
theorem dL_law_693 : decode cL_law 693 = .ok (.goto 56, 3) := by decide +kernel
theorem dL_law_696 : decode cL_law 696 = .ok (.iconst 0, 1) := by decide +kernel
theorem dL_law_697 : decode cL_law 697 = .ok (.goto 52, 3) := by decide +kernel
theorem dL_law_700 : decode cL_law 700 = .ok (.iload 21, 2) := by decide +kernel
theorem dL_law_702 : decode cL_law 702 = .ok (.ifCond .lt 46, 3) := by decide +kernel
theorem dL_law_705 : decode cL_law 705 = .ok (.iload 21, 2) := by decide +kernel
theorem dL_law_707 : decode cL_law 707 = .ok (.iconst 3, 1) := by decide +kernel
theorem dL_law_708 : decode cL_law 708 = .ok (.if_icmp .ge 40, 3) := by decide +kernel
theorem dL_law_711 : decode cL_law 711 = .ok (.aload_n 1, 1) := by decide +kernel
theorem dL_law_712 : decode cL_law 712 = .ok (.iload 21, 2) := by decide +kernel
theorem dL_law_714 : decode cL_law 714 = .ok (.invokestatic 115, 3) := by decide +kernel
theorem dL_law_717 : decode cL_law 717 = .ok (.aload_n 2, 1) := by decide +kernel
theorem dL_law_718 : decode cL_law 718 = .ok (.iload 21, 2) := by decide +kernel
theorem dL_law_720 : decode cL_law 720 = .ok (.iaload, 1) := by decide +kernel
theorem dL_law_721 : decode cL_law 721 = .ok (.isub, 1) := by decide +kernel
theorem dL_law_722 : decode cL_law 722 = .ok (.iconst 1, 1) := by decide +kernel
theorem dL_law_723 : decode cL_law 723 = .ok (.if_icmp .gt 25, 3) := by decide +kernel
theorem dL_law_726 : decode cL_law 726 = .ok (.iload 16, 2) := by decide +kernel
theorem dL_law_728 : decode cL_law 728 = .ok (.iconst 2, 1) := by decide +kernel
theorem dL_law_729 : decode cL_law 729 = .ok (.irem, 1) := by decide +kernel
theorem dL_law_730 : decode cL_law 730 = .ok (.ifCond .eq 14, 3) := by decide +kernel
theorem dL_law_733 : decode cL_law 733 = .ok (.aload_n 1, 1) := by decide +kernel
theorem dL_law_734 : decode cL_law 734 = .ok (.iload 15, 2) := by decide +kernel
theorem dL_law_736 : decode cL_law 736 = .ok (.invokestatic 122, 3) := by decide +kernel
theorem dL_law_739 : decode cL_law 739 = .ok (.iload 21, 2) := by decide +kernel
theorem dL_law_741 : decode cL_law 741 = .ok (.if_icmp .ne 7, 3) := by decide +kernel
theorem dL_law_744 : decode cL_law 744 = .ok (.iconst 1, 1) := by decide +kernel
theorem dL_law_745 : decode cL_law 745 = .ok (.goto 4, 3) := by decide +kernel
theorem dL_law_748 : decode cL_law 748 = .ok (.iconst 0, 1) := by decide +kernel
theorem dL_law_749 : decode cL_law 749 = .ok (.istore 9, 2) := by decide +kernel
theorem dL_law_751 : decode cL_law 751 = .ok (.aload_n 3, 1) := by decide +kernel
theorem dL_law_752 : decode cL_law 752 = .ok (.iload 15, 2) := by decide +kernel
theorem dL_law_754 : decode cL_law 754 = .ok (.dup2, 1) := by decide +kernel
theorem dL_law_755 : decode cL_law 755 = .ok (.iaload, 1) := by decide +kernel
theorem dL_law_756 : decode cL_law 756 = .ok (.iload 21, 2) := by decide +kernel
theorem dL_law_758 : decode cL_law 758 = .ok (.ifCond .lt 14, 3) := by decide +kernel
theorem dL_law_761 : decode cL_law 761 = .ok (.iload 16, 2) := by decide +kernel
theorem dL_law_763 : decode cL_law 763 = .ok (.iconst 2, 1) := by decide +kernel
theorem dL_law_764 : decode cL_law 764 = .ok (.irem, 1) := by decide +kernel
theorem dL_law_765 : decode cL_law 765 = .ok (.ifCond .ne 7, 3) := by decide +kernel
theorem dL_law_768 : decode cL_law 768 = .ok (.iconst 1, 1) := by decide +kernel
theorem dL_law_769 : decode cL_law 769 = .ok (.goto 4, 3) := by decide +kernel
theorem dL_law_772 : decode cL_law 772 = .ok (.iconst 0, 1) := by decide +kernel
theorem dL_law_773 : decode cL_law 773 = .ok (.isub, 1) := by decide +kernel
theorem dL_law_774 : decode cL_law 774 = .ok (.iastore, 1) := by decide +kernel
theorem dL_law_775 : decode cL_law 775 = .ok (.goto 865, 3) := by decide +kernel
theorem dL_law_778 : decode cL_law 778 = .ok (.iload 13, 2) := by decide +kernel
theorem dL_law_780 : decode cL_law 780 = .ok (.bipush 18, 2) := by decide +kernel
theorem dL_law_782 : decode cL_law 782 = .ok (.if_icmp .ge 280, 3) := by decide +kernel
theorem dL_law_785 : decode cL_law 785 = .ok (.iload 6, 2) := by decide +kernel
theorem dL_law_787 : decode cL_law 787 = .ok (.bipush 60, 2) := by decide +kernel
theorem dL_law_789 : decode cL_law 789 = .ok (.if_icmp .ge 273, 3) := by decide +kernel
theorem dL_law_792 : decode cL_law 792 = .ok (.iload 16, 2) := by decide +kernel
theorem dL_law_794 : decode cL_law 794 = .ok (.iconst 4, 1) := by decide +kernel
theorem dL_law_795 : decode cL_law 795 = .ok (.irem, 1) := by decide +kernel
theorem dL_law_796 : decode cL_law 796 = .ok (.istore 21, 2) := by decide +kernel
theorem dL_law_798 : decode cL_law 798 = .ok (.iload 21, 2) := by decide +kernel
theorem dL_law_800 : decode cL_law 800 = .ok (.iconst 3, 1) := by decide +kernel
theorem dL_law_801 : decode cL_law 801 = .ok (.if_icmp .ne 15, 3) := by decide +kernel
theorem dL_law_804 : decode cL_law 804 = .ok (.iconst 5, 1) := by decide +kernel
theorem dL_law_805 : decode cL_law 805 = .ok (.iload 16, 2) := by decide +kernel
theorem dL_law_807 : decode cL_law 807 = .ok (.iconst 4, 1) := by decide +kernel
theorem dL_law_808 : decode cL_law 808 = .ok (.idiv, 1) := by decide +kernel
theorem dL_law_809 : decode cL_law 809 = .ok (.bipush 36, 2) := by decide +kernel
theorem dL_law_811 : decode cL_law 811 = .ok (.irem, 1) := by decide +kernel
theorem dL_law_812 : decode cL_law 812 = .ok (.iadd, 1) := by decide +kernel
theorem dL_law_813 : decode cL_law 813 = .ok (.goto 4, 3) := by decide +kernel
theorem dL_law_816 : decode cL_law 816 = .ok (.iconst 0, 1) := by decide +kernel
theorem dL_law_817 : decode cL_law 817 = .ok (.istore 22, 2) := by decide +kernel
theorem dL_law_819 : decode cL_law 819 = .ok (.aload_n 1, 1) := by decide +kernel
theorem dL_law_820 : decode cL_law 820 = .ok (.iload 14, 2) := by decide +kernel
theorem dL_law_822 : decode cL_law 822 = .ok (.iload 21, 2) := by decide +kernel
theorem dL_law_824 : decode cL_law 824 = .ok (.iload 22, 2) := by decide +kernel
theorem dL_law_826 : decode cL_law 826 = .ok (.invokestatic 129, 3) := by decide +kernel
theorem dL_law_829 : decode cL_law 829 = .ok (.iload 6, 2) := by decide +kernel
theorem dL_law_831 : decode cL_law 831 = .ok (.if_icmp .ne 48, 3) := by decide +kernel
theorem dL_law_834 : decode cL_law 834 = .ok (.aload_n 1, 1) := by decide +kernel
theorem dL_law_835 : decode cL_law 835 = .ok (.iload 6, 2) := by decide +kernel
theorem dL_law_837 : decode cL_law 837 = .ok (.invokestatic 131, 3) := by decide +kernel
theorem dL_law_840 : decode cL_law 840 = .ok (.ifCond .ne 39, 3) := by decide +kernel
theorem dL_law_843 : decode cL_law 843 = .ok (.aload_n 1, 1) := by decide +kernel
theorem dL_law_844 : decode cL_law 844 = .ok (.iload 6, 2) := by decide +kernel
theorem dL_law_846 : decode cL_law 846 = .ok (.invokestatic 133, 3) := by decide +kernel
theorem dL_law_849 : decode cL_law 849 = .ok (.ifCond .lt 30, 3) := by decide +kernel
theorem dL_law_852 : decode cL_law 852 = .ok (.aload_n 1, 1) := by decide +kernel
theorem dL_law_853 : decode cL_law 853 = .ok (.iload 14, 2) := by decide +kernel
theorem dL_law_855 : decode cL_law 855 = .ok (.invokestatic 111, 3) := by decide +kernel
theorem dL_law_858 : decode cL_law 858 = .ok (.lload 17, 2) := by decide +kernel
theorem dL_law_860 : decode cL_law 860 = .ok (.lcmp, 1) := by decide +kernel
theorem dL_law_861 : decode cL_law 861 = .ok (.ifCond .ne 18, 3) := by decide +kernel
theorem dL_law_864 : decode cL_law 864 = .ok (.aload_n 1, 1) := by decide +kernel
theorem dL_law_865 : decode cL_law 865 = .ok (.iload 14, 2) := by decide +kernel
theorem dL_law_867 : decode cL_law 867 = .ok (.invokestatic 115, 3) := by decide +kernel
theorem dL_law_870 : decode cL_law 870 = .ok (.iload 19, 2) := by decide +kernel
theorem dL_law_872 : decode cL_law 872 = .ok (.if_icmp .ne 7, 3) := by decide +kernel
theorem dL_law_875 : decode cL_law 875 = .ok (.iconst 1, 1) := by decide +kernel
theorem dL_law_876 : decode cL_law 876 = .ok (.goto 4, 3) := by decide +kernel
theorem dL_law_879 : decode cL_law 879 = .ok (.iconst 0, 1) := by decide +kernel
theorem dL_law_880 : decode cL_law 880 = .ok (.istore 9, 2) := by decide +kernel
theorem dL_law_882 : decode cL_law 882 = .ok (.aload 5, 2) := by decide +kernel
theorem dL_law_884 : decode cL_law 884 = .ok (.iload 6, 2) := by decide +kernel
theorem dL_law_886 : decode cL_law 886 = .ok (.sipush 1000, 3) := by decide +kernel
theorem dL_law_889 : decode cL_law 889 = .ok (.iload 14, 2) := by decide +kernel
theorem dL_law_891 : decode cL_law 891 = .ok (.imul, 1) := by decide +kernel
theorem dL_law_892 : decode cL_law 892 = .ok (.bipush 100, 2) := by decide +kernel
theorem dL_law_894 : decode cL_law 894 = .ok (.iload 21, 2) := by decide +kernel
theorem dL_law_896 : decode cL_law 896 = .ok (.imul, 1) := by decide +kernel
theorem dL_law_897 : decode cL_law 897 = .ok (.iadd, 1) := by decide +kernel
theorem dL_law_898 : decode cL_law 898 = .ok (.iload 22, 2) := by decide +kernel
theorem dL_law_900 : decode cL_law 900 = .ok (.iadd, 1) := by decide +kernel
theorem dL_law_901 : decode cL_law 901 = .ok (.iastore, 1) := by decide +kernel
theorem dL_law_902 : decode cL_law 902 = .ok (.iinc 6 1, 3) := by decide +kernel
theorem dL_law_905 : decode cL_law 905 = .ok (.iload 9, 2) := by decide +kernel
theorem dL_law_907 : decode cL_law 907 = .ok (.ifCond .eq 152, 3) := by decide +kernel
theorem dL_law_910 : decode cL_law 910 = .ok (.iload 16, 2) := by decide +kernel
theorem dL_law_912 : decode cL_law 912 = .ok (.sipush 144, 3) := by decide +kernel
theorem dL_law_915 : decode cL_law 915 = .ok (.idiv, 1) := by decide +kernel
theorem dL_law_916 : decode cL_law 916 = .ok (.iconst 2, 1) := by decide +kernel
theorem dL_law_917 : decode cL_law 917 = .ok (.irem, 1) := by decide +kernel
theorem dL_law_918 : decode cL_law 918 = .ok (.ifCond .ne 141, 3) := by decide +kernel
theorem dL_law_921 : decode cL_law 921 = .ok (.aload_n 1, 1) := by decide +kernel
theorem dL_law_922 : decode cL_law 922 = .ok (.iload 6, 2) := by decide +kernel
theorem dL_law_924 : decode cL_law 924 = .ok (.iconst 1, 1) := by decide +kernel
theorem dL_law_925 : decode cL_law 925 = .ok (.isub, 1) := by decide +kernel
theorem dL_law_926 : decode cL_law 926 = .ok (.invokestatic 133, 3) := by decide +kernel
theorem dL_law_929 : decode cL_law 929 = .ok (.istore 23, 2) := by decide +kernel
theorem dL_law_931 : decode cL_law 931 = .ok (.aload_n 1, 1) := by decide +kernel
theorem dL_law_932 : decode cL_law 932 = .ok (.iload 6, 2) := by decide +kernel
theorem dL_law_934 : decode cL_law 934 = .ok (.iconst 1, 1) := by decide +kernel
theorem dL_law_935 : decode cL_law 935 = .ok (.isub, 1) := by decide +kernel
theorem dL_law_936 : decode cL_law 936 = .ok (.invokestatic 135, 3) := by decide +kernel
theorem dL_law_939 : decode cL_law 939 = .ok (.istore 24, 2) := by decide +kernel
theorem dL_law_941 : decode cL_law 941 = .ok (.aload 4, 2) := by decide +kernel
theorem dL_law_943 : decode cL_law 943 = .ok (.iload 6, 2) := by decide +kernel
theorem dL_law_945 : decode cL_law 945 = .ok (.iconst 1, 1) := by decide +kernel
theorem dL_law_946 : decode cL_law 946 = .ok (.isub, 1) := by decide +kernel
theorem dL_law_947 : decode cL_law 947 = .ok (.iconst 1, 1) := by decide +kernel
theorem dL_law_948 : decode cL_law 948 = .ok (.iastore, 1) := by decide +kernel
theorem dL_law_949 : decode cL_law 949 = .ok (.iload 24, 2) := by decide +kernel
theorem dL_law_951 : decode cL_law 951 = .ok (.ifCond .lt 105, 3) := by decide +kernel
theorem dL_law_954 : decode cL_law 954 = .ok (.iload 21, 2) := by decide +kernel
theorem dL_law_956 : decode cL_law 956 = .ok (.iconst 2, 1) := by decide +kernel
theorem dL_law_957 : decode cL_law 957 = .ok (.if_icmp .lt 8, 3) := by decide +kernel
theorem dL_law_960 : decode cL_law 960 = .ok (.iload 23, 2) := by decide +kernel
theorem dL_law_962 : decode cL_law 962 = .ok (.ifCond .ne 94, 3) := by decide +kernel
theorem dL_law_965 : decode cL_law 965 = .ok (.aload_n 1, 1) := by decide +kernel
theorem dL_law_966 : decode cL_law 966 = .ok (.iload 6, 2) := by decide +kernel
theorem dL_law_968 : decode cL_law 968 = .ok (.iconst 1, 1) := by decide +kernel
theorem dL_law_969 : decode cL_law 969 = .ok (.isub, 1) := by decide +kernel
theorem dL_law_970 : decode cL_law 970 = .ok (.invokestatic 133, 3) := by decide +kernel
theorem dL_law_973 : decode cL_law 973 = .ok (.iload 23, 2) := by decide +kernel
theorem dL_law_975 : decode cL_law 975 = .ok (.if_icmp .ne 81, 3) := by decide +kernel
theorem dL_law_978 : decode cL_law 978 = .ok (.iload 23, 2) := by decide +kernel
theorem dL_law_980 : decode cL_law 980 = .ok (.ifCond .gt 16, 3) := by decide +kernel
theorem dL_law_983 : decode cL_law 983 = .ok (.aload_n 1, 1) := by decide +kernel
theorem dL_law_984 : decode cL_law 984 = .ok (.iload 14, 2) := by decide +kernel
theorem dL_law_986 : decode cL_law 986 = .ok (.iload 21, 2) := by decide +kernel
theorem dL_law_988 : decode cL_law 988 = .ok (.iload 22, 2) := by decide +kernel
theorem dL_law_990 : decode cL_law 990 = .ok (.invokestatic 137, 3) := by decide +kernel
theorem dL_law_993 : decode cL_law 993 = .ok (.ifCond .eq 63, 3) := by decide +kernel
theorem dL_law_996 : decode cL_law 996 = .ok (.aload_n 1, 1) := by decide +kernel
theorem dL_law_997 : decode cL_law 997 = .ok (.iload 14, 2) := by decide +kernel
theorem dL_law_999 : decode cL_law 999 = .ok (.invokestatic 115, 3) := by decide +kernel
theorem dL_law_1002 : decode cL_law 1002 = .ok (.iload 19, 2) := by decide +kernel
theorem dL_law_1004 : decode cL_law 1004 = .ok (.iload 24, 2) := by decide +kernel
theorem dL_law_1006 : decode cL_law 1006 = .ok (.ifCond .le 7, 3) := by decide +kernel
theorem dL_law_1009 : decode cL_law 1009 = .ok (.iconst 1, 1) := by decide +kernel
theorem dL_law_1010 : decode cL_law 1010 = .ok (.goto 4, 3) := by decide +kernel
theorem dL_law_1013 : decode cL_law 1013 = .ok (.iconst 0, 1) := by decide +kernel
theorem dL_law_1014 : decode cL_law 1014 = .ok (.iadd, 1) := by decide +kernel
theorem dL_law_1015 : decode cL_law 1015 = .ok (.if_icmp .ne 41, 3) := by decide +kernel
theorem dL_law_1018 : decode cL_law 1018 = .ok (.iload 21, 2) := by decide +kernel
theorem dL_law_1020 : decode cL_law 1020 = .ok (.iconst 1, 1) := by decide +kernel
theorem dL_law_1021 : decode cL_law 1021 = .ok (.if_icmp .le 17, 3) := by decide +kernel
theorem dL_law_1024 : decode cL_law 1024 = .ok (.aload_n 1, 1) := by decide +kernel
theorem dL_law_1025 : decode cL_law 1025 = .ok (.iload 14, 2) := by decide +kernel
theorem dL_law_1027 : decode cL_law 1027 = .ok (.invokestatic 83, 3) := by decide +kernel
theorem dL_law_1030 : decode cL_law 1030 = .ok (.iload 20, 2) := by decide +kernel
theorem dL_law_1032 : decode cL_law 1032 = .ok (.if_icmp .ne 24, 3) := by decide +kernel
theorem dL_law_1035 : decode cL_law 1035 = .ok (.goto 17, 3) := by decide +kernel
theorem dL_law_1038 : decode cL_law 1038 = .ok (.aload_n 1, 1) := by decide +kernel
theorem dL_law_1039 : decode cL_law 1039 = .ok (.iload 14, 2) := by decide +kernel
theorem dL_law_1041 : decode cL_law 1041 = .ok (.invokestatic 83, 3) := by decide +kernel
theorem dL_law_1044 : decode cL_law 1044 = .ok (.iload 20, 2) := by decide +kernel
theorem dL_law_1046 : decode cL_law 1046 = .ok (.iload 24, 2) := by decide +kernel
theorem dL_law_1048 : decode cL_law 1048 = .ok (.isub, 1) := by decide +kernel
theorem dL_law_1049 : decode cL_law 1049 = .ok (.if_icmp .ne 7, 3) := by decide +kernel
theorem dL_law_1052 : decode cL_law 1052 = .ok (.iconst 1, 1) := by decide +kernel
theorem dL_law_1053 : decode cL_law 1053 = .ok (.goto 4, 3) := by decide +kernel
theorem dL_law_1056 : decode cL_law 1056 = .ok (.iconst 0, 1) := by decide +kernel
theorem dL_law_1057 : decode cL_law 1057 = .ok (.istore 9, 2) := by decide +kernel
theorem dL_law_1059 : decode cL_law 1059 = .ok (.goto 581, 3) := by decide +kernel
theorem dL_law_1062 : decode cL_law 1062 = .ok (.iload 13, 2) := by decide +kernel
theorem dL_law_1064 : decode cL_law 1064 = .ok (.bipush 20, 2) := by decide +kernel
theorem dL_law_1066 : decode cL_law 1066 = .ok (.if_icmp .ge 302, 3) := by decide +kernel
theorem dL_law_1069 : decode cL_law 1069 = .ok (.iload 6, 2) := by decide +kernel
theorem dL_law_1071 : decode cL_law 1071 = .ok (.ifCond .le 297, 3) := by decide +kernel
theorem dL_law_1074 : decode cL_law 1074 = .ok (.iload 16, 2) := by decide +kernel
theorem dL_law_1076 : decode cL_law 1076 = .ok (.iload 6, 2) := by decide +kernel
theorem dL_law_1078 : decode cL_law 1078 = .ok (.irem, 1) := by decide +kernel
theorem dL_law_1079 : decode cL_law 1079 = .ok (.istore 21, 2) := by decide +kernel
theorem dL_law_1081 : decode cL_law 1081 = .ok (.aload 5, 2) := by decide +kernel
theorem dL_law_1083 : decode cL_law 1083 = .ok (.iload 21, 2) := by decide +kernel
theorem dL_law_1085 : decode cL_law 1085 = .ok (.iaload, 1) := by decide +kernel
theorem dL_law_1086 : decode cL_law 1086 = .ok (.sipush 1000, 3) := by decide +kernel
theorem dL_law_1089 : decode cL_law 1089 = .ok (.idiv, 1) := by decide +kernel
theorem dL_law_1090 : decode cL_law 1090 = .ok (.istore 22, 2) := by decide +kernel
theorem dL_law_1092 : decode cL_law 1092 = .ok (.aload_n 1, 1) := by decide +kernel
theorem dL_law_1093 : decode cL_law 1093 = .ok (.iload 21, 2) := by decide +kernel
theorem dL_law_1095 : decode cL_law 1095 = .ok (.invokestatic 133, 3) := by decide +kernel
theorem dL_law_1098 : decode cL_law 1098 = .ok (.istore 23, 2) := by decide +kernel
theorem dL_law_1100 : decode cL_law 1100 = .ok (.aload_n 1, 1) := by decide +kernel
theorem dL_law_1101 : decode cL_law 1101 = .ok (.iload 22, 2) := by decide +kernel
theorem dL_law_1103 : decode cL_law 1103 = .ok (.invokestatic 115, 3) := by decide +kernel
theorem dL_law_1106 : decode cL_law 1106 = .ok (.istore 24, 2) := by decide +kernel
theorem dL_law_1108 : decode cL_law 1108 = .ok (.aload_n 1, 1) := by decide +kernel
theorem dL_law_1109 : decode cL_law 1109 = .ok (.iload 22, 2) := by decide +kernel
theorem dL_law_1111 : decode cL_law 1111 = .ok (.invokestatic 83, 3) := by decide +kernel
theorem dL_law_1114 : decode cL_law 1114 = .ok (.istore 25, 2) := by decide +kernel
theorem dL_law_1116 : decode cL_law 1116 = .ok (.iload 16, 2) := by decide +kernel
theorem dL_law_1118 : decode cL_law 1118 = .ok (.bipush 60, 2) := by decide +kernel
theorem dL_law_1120 : decode cL_law 1120 = .ok (.idiv, 1) := by decide +kernel
theorem dL_law_1121 : decode cL_law 1121 = .ok (.iconst 4, 1) := by decide +kernel
theorem dL_law_1122 : decode cL_law 1122 = .ok (.irem, 1) := by decide +kernel
theorem dL_law_1123 : decode cL_law 1123 = .ok (.ifCond .ne 12, 3) := by decide +kernel
theorem dL_law_1126 : decode cL_law 1126 = .ok (.aload_n 1, 1) := by decide +kernel
theorem dL_law_1127 : decode cL_law 1127 = .ok (.iload 21, 2) := by decide +kernel
theorem dL_law_1129 : decode cL_law 1129 = .ok (.invokestatic 141, 3) := by decide +kernel
theorem dL_law_1132 : decode cL_law 1132 = .ok (.goto 9, 3) := by decide +kernel
theorem dL_law_1135 : decode cL_law 1135 = .ok (.aload_n 1, 1) := by decide +kernel
theorem dL_law_1136 : decode cL_law 1136 = .ok (.iload 21, 2) := by decide +kernel
theorem dL_law_1138 : decode cL_law 1138 = .ok (.invokestatic 135, 3) := by decide +kernel
theorem dL_law_1141 : decode cL_law 1141 = .ok (.istore 26, 2) := by decide +kernel
theorem dL_law_1143 : decode cL_law 1143 = .ok (.iload 16, 2) := by decide +kernel
theorem dL_law_1145 : decode cL_law 1145 = .ok (.bipush 60, 2) := by decide +kernel
theorem dL_law_1147 : decode cL_law 1147 = .ok (.idiv, 1) := by decide +kernel
theorem dL_law_1148 : decode cL_law 1148 = .ok (.iconst 4, 1) := by decide +kernel
theorem dL_law_1149 : decode cL_law 1149 = .ok (.irem, 1) := by decide +kernel
theorem dL_law_1150 : decode cL_law 1150 = .ok (.ifCond .ne 7, 3) := by decide +kernel
theorem dL_law_1153 : decode cL_law 1153 = .ok (.iconst 1, 1) := by decide +kernel
theorem dL_law_1154 : decode cL_law 1154 = .ok (.goto 4, 3) := by decide +kernel
theorem dL_law_1157 : decode cL_law 1157 = .ok (.iconst 0, 1) := by decide +kernel
theorem dL_law_1158 : decode cL_law 1158 = .ok (.istore 27, 2) := by decide +kernel
theorem dL_law_1160 : decode cL_law 1160 = .ok (.aload 4, 2) := by decide +kernel
theorem dL_law_1162 : decode cL_law 1162 = .ok (.iload 21, 2) := by decide +kernel
theorem dL_law_1164 : decode cL_law 1164 = .ok (.iaload, 1) := by decide +kernel
theorem dL_law_1165 : decode cL_law 1165 = .ok (.ifCond .le 29, 3) := by decide +kernel
theorem dL_law_1168 : decode cL_law 1168 = .ok (.iload 26, 2) := by decide +kernel
theorem dL_law_1170 : decode cL_law 1170 = .ok (.bipush (-103), 2) := by decide +kernel
theorem dL_law_1172 : decode cL_law 1172 = .ok (.if_icmp .ne 18, 3) := by decide +kernel
theorem dL_law_1175 : decode cL_law 1175 = .ok (.aload_n 1, 1) := by decide +kernel
theorem dL_law_1176 : decode cL_law 1176 = .ok (.iload 21, 2) := by decide +kernel
theorem dL_law_1178 : decode cL_law 1178 = .ok (.invokestatic 133, 3) := by decide +kernel
theorem dL_law_1181 : decode cL_law 1181 = .ok (.iload 23, 2) := by decide +kernel
theorem dL_law_1183 : decode cL_law 1183 = .ok (.if_icmp .ne 7, 3) := by decide +kernel
theorem dL_law_1186 : decode cL_law 1186 = .ok (.iconst 1, 1) := by decide +kernel
theorem dL_law_1187 : decode cL_law 1187 = .ok (.goto 145, 3) := by decide +kernel
theorem dL_law_1190 : decode cL_law 1190 = .ok (.iconst 0, 1) := by decide +kernel
theorem dL_law_1191 : decode cL_law 1191 = .ok (.goto 141, 3) := by decide +kernel
theorem dL_law_1194 : decode cL_law 1194 = .ok (.iload 27, 2) := by decide +kernel
theorem dL_law_1196 : decode cL_law 1196 = .ok (.ifCond .eq 50, 3) := by decide +kernel
theorem dL_law_1199 : decode cL_law 1199 = .ok (.iload 26, 2) := by decide +kernel
theorem dL_law_1201 : decode cL_law 1201 = .ok (.iload 23, 2) := by decide +kernel
theorem dL_law_1203 : decode cL_law 1203 = .ok (.if_icmp .lt 39, 3) := by decide +kernel
theorem dL_law_1206 : decode cL_law 1206 = .ok (.aload_n 1, 1) := by decide +kernel
theorem dL_law_1207 : decode cL_law 1207 = .ok (.iload 21, 2) := by decide +kernel
theorem dL_law_1209 : decode cL_law 1209 = .ok (.invokestatic 131, 3) := by decide +kernel
theorem dL_law_1212 : decode cL_law 1212 = .ok (.iconst 2, 1) := by decide +kernel
theorem dL_law_1213 : decode cL_law 1213 = .ok (.if_icmp .ne 29, 3) := by decide +kernel
theorem dL_law_1216 : decode cL_law 1216 = .ok (.aload_n 1, 1) := by decide +kernel
theorem dL_law_1217 : decode cL_law 1217 = .ok (.iload 21, 2) := by decide +kernel
theorem dL_law_1219 : decode cL_law 1219 = .ok (.invokestatic 133, 3) := by decide +kernel
theorem dL_law_1222 : decode cL_law 1222 = .ok (.iload 26, 2) := by decide +kernel
theorem dL_law_1224 : decode cL_law 1224 = .ok (.if_icmp .ne 18, 3) := by decide +kernel
theorem dL_law_1227 : decode cL_law 1227 = .ok (.aload_n 1, 1) := by decide +kernel
theorem dL_law_1228 : decode cL_law 1228 = .ok (.iload 22, 2) := by decide +kernel
theorem dL_law_1230 : decode cL_law 1230 = .ok (.invokestatic 115, 3) := by decide +kernel
theorem dL_law_1233 : decode cL_law 1233 = .ok (.iload 24, 2) := by decide +kernel
theorem dL_law_1235 : decode cL_law 1235 = .ok (.if_icmp .ne 7, 3) := by decide +kernel
theorem dL_law_1238 : decode cL_law 1238 = .ok (.iconst 1, 1) := by decide +kernel
theorem dL_law_1239 : decode cL_law 1239 = .ok (.goto 93, 3) := by decide +kernel
theorem dL_law_1242 : decode cL_law 1242 = .ok (.iconst 0, 1) := by decide +kernel
theorem dL_law_1243 : decode cL_law 1243 = .ok (.goto 89, 3) := by decide +kernel
theorem dL_law_1246 : decode cL_law 1246 = .ok (.iload 26, 2) := by decide +kernel
theorem dL_law_1248 : decode cL_law 1248 = .ok (.ifCond .lt 83, 3) := by decide +kernel
theorem dL_law_1251 : decode cL_law 1251 = .ok (.aload_n 1, 1) := by decide +kernel
theorem dL_law_1252 : decode cL_law 1252 = .ok (.iload 21, 2) := by decide +kernel
theorem dL_law_1254 : decode cL_law 1254 = .ok (.invokestatic 131, 3) := by decide +kernel
theorem dL_law_1257 : decode cL_law 1257 = .ok (.iconst 1, 1) := by decide +kernel
theorem dL_law_1258 : decode cL_law 1258 = .ok (.if_icmp .ne 73, 3) := by decide +kernel
theorem dL_law_1261 : decode cL_law 1261 = .ok (.aload_n 1, 1) := by decide +kernel
theorem dL_law_1262 : decode cL_law 1262 = .ok (.iload 21, 2) := by decide +kernel
theorem dL_law_1264 : decode cL_law 1264 = .ok (.invokestatic 133, 3) := by decide +kernel
theorem dL_law_1267 : decode cL_law 1267 = .ok (.iload 23, 2) := by decide +kernel
theorem dL_law_1269 : decode cL_law 1269 = .ok (.if_icmp .ne 62, 3) := by decide +kernel
theorem dL_law_1272 : decode cL_law 1272 = .ok (.aload_n 1, 1) := by decide +kernel
theorem dL_law_1273 : decode cL_law 1273 = .ok (.iload 22, 2) := by decide +kernel
theorem dL_law_1275 : decode cL_law 1275 = .ok (.invokestatic 115, 3) := by decide +kernel
theorem dL_law_1278 : decode cL_law 1278 = .ok (.iload 24, 2) := by decide +kernel
theorem dL_law_1280 : decode cL_law 1280 = .ok (.iload 26, 2) := by decide +kernel
theorem dL_law_1282 : decode cL_law 1282 = .ok (.ifCond .le 7, 3) := by decide +kernel
theorem dL_law_1285 : decode cL_law 1285 = .ok (.iconst 1, 1) := by decide +kernel
theorem dL_law_1286 : decode cL_law 1286 = .ok (.goto 4, 3) := by decide +kernel
theorem dL_law_1289 : decode cL_law 1289 = .ok (.iconst 0, 1) := by decide +kernel
theorem dL_law_1290 : decode cL_law 1290 = .ok (.iadd, 1) := by decide +kernel
theorem dL_law_1291 : decode cL_law 1291 = .ok (.if_icmp .ne 40, 3) := by decide +kernel
theorem dL_law_1294 : decode cL_law 1294 = .ok (.aload_n 1, 1) := by decide +kernel
theorem dL_law_1295 : decode cL_law 1295 = .ok (.iload 22, 2) := by decide +kernel
theorem dL_law_1297 : decode cL_law 1297 = .ok (.invokestatic 83, 3) := by decide +kernel
theorem dL_law_1300 : decode cL_law 1300 = .ok (.iload 25, 2) := by decide +kernel
theorem dL_law_1302 : decode cL_law 1302 = .ok (.aload 5, 2) := by decide +kernel
theorem dL_law_1304 : decode cL_law 1304 = .ok (.iload 21, 2) := by decide +kernel
theorem dL_law_1306 : decode cL_law 1306 = .ok (.iaload, 1) := by decide +kernel
theorem dL_law_1307 : decode cL_law 1307 = .ok (.bipush 100, 2) := by decide +kernel
theorem dL_law_1309 : decode cL_law 1309 = .ok (.idiv, 1) := by decide +kernel
theorem dL_law_1310 : decode cL_law 1310 = .ok (.bipush 10, 2) := by decide +kernel
theorem dL_law_1312 : decode cL_law 1312 = .ok (.irem, 1) := by decide +kernel
theorem dL_law_1313 : decode cL_law 1313 = .ok (.iconst 2, 1) := by decide +kernel
theorem dL_law_1314 : decode cL_law 1314 = .ok (.if_icmp .ge 8, 3) := by decide +kernel
theorem dL_law_1317 : decode cL_law 1317 = .ok (.iload 26, 2) := by decide +kernel
theorem dL_law_1319 : decode cL_law 1319 = .ok (.goto 4, 3) := by decide +kernel
theorem dL_law_1322 : decode cL_law 1322 = .ok (.iconst 0, 1) := by decide +kernel
theorem dL_law_1323 : decode cL_law 1323 = .ok (.isub, 1) := by decide +kernel
theorem dL_law_1324 : decode cL_law 1324 = .ok (.if_icmp .ne 7, 3) := by decide +kernel
theorem dL_law_1327 : decode cL_law 1327 = .ok (.iconst 1, 1) := by decide +kernel
theorem dL_law_1328 : decode cL_law 1328 = .ok (.goto 4, 3) := by decide +kernel
theorem dL_law_1331 : decode cL_law 1331 = .ok (.iconst 0, 1) := by decide +kernel
theorem dL_law_1332 : decode cL_law 1332 = .ok (.istore 9, 2) := by decide +kernel
theorem dL_law_1334 : decode cL_law 1334 = .ok (.aload 4, 2) := by decide +kernel
theorem dL_law_1336 : decode cL_law 1336 = .ok (.iload 21, 2) := by decide +kernel
theorem dL_law_1338 : decode cL_law 1338 = .ok (.aload 4, 2) := by decide +kernel
theorem dL_law_1340 : decode cL_law 1340 = .ok (.iload 21, 2) := by decide +kernel
theorem dL_law_1342 : decode cL_law 1342 = .ok (.iaload, 1) := by decide +kernel
theorem dL_law_1343 : decode cL_law 1343 = .ok (.ifCond .le 11, 3) := by decide +kernel
theorem dL_law_1346 : decode cL_law 1346 = .ok (.aload 4, 2) := by decide +kernel
theorem dL_law_1348 : decode cL_law 1348 = .ok (.iload 21, 2) := by decide +kernel
theorem dL_law_1350 : decode cL_law 1350 = .ok (.iaload, 1) := by decide +kernel
theorem dL_law_1351 : decode cL_law 1351 = .ok (.goto 13, 3) := by decide +kernel
theorem dL_law_1354 : decode cL_law 1354 = .ok (.iload 27, 2) := by decide +kernel
theorem dL_law_1356 : decode cL_law 1356 = .ok (.ifCond .eq 7, 3) := by decide +kernel
theorem dL_law_1359 : decode cL_law 1359 = .ok (.iconst 2, 1) := by decide +kernel
theorem dL_law_1360 : decode cL_law 1360 = .ok (.goto 4, 3) := by decide +kernel
theorem dL_law_1363 : decode cL_law 1363 = .ok (.iconst 1, 1) := by decide +kernel
theorem dL_law_1364 : decode cL_law 1364 = .ok (.iastore, 1) := by decide +kernel
theorem dL_law_1365 : decode cL_law 1365 = .ok (.goto 275, 3) := by decide +kernel
theorem dL_law_1368 : decode cL_law 1368 = .ok (.iload 13, 2) := by decide +kernel
theorem dL_law_1370 : decode cL_law 1370 = .ok (.bipush 20, 2) := by decide +kernel
theorem dL_law_1372 : decode cL_law 1372 = .ok (.if_icmp .ne 79, 3) := by decide +kernel
theorem dL_law_1375 : decode cL_law 1375 = .ok (.aload_n 1, 1) := by decide +kernel
theorem dL_law_1376 : decode cL_law 1376 = .ok (.iload 15, 2) := by decide +kernel
theorem dL_law_1378 : decode cL_law 1378 = .ok (.iload 14, 2) := by decide +kernel
theorem dL_law_1380 : decode cL_law 1380 = .ok (.invokestatic 143, 3) := by decide +kernel
theorem dL_law_1383 : decode cL_law 1383 = .ok (.istore 21, 2) := by decide +kernel
theorem dL_law_1385 : decode cL_law 1385 = .ok (.iload 21, 2) := by decide +kernel
theorem dL_law_1387 : decode cL_law 1387 = .ok (.bipush (-103), 2) := by decide +kernel
theorem dL_law_1389 : decode cL_law 1389 = .ok (.if_icmp .ne 24, 3) := by decide +kernel
theorem dL_law_1392 : decode cL_law 1392 = .ok (.aload_n 1, 1) := by decide +kernel
theorem dL_law_1393 : decode cL_law 1393 = .ok (.iload 15, 2) := by decide +kernel
theorem dL_law_1395 : decode cL_law 1395 = .ok (.iload 14, 2) := by decide +kernel
theorem dL_law_1397 : decode cL_law 1397 = .ok (.invokestatic 143, 3) := by decide +kernel
theorem dL_law_1400 : decode cL_law 1400 = .ok (.bipush (-103), 2) := by decide +kernel
theorem dL_law_1402 : decode cL_law 1402 = .ok (.if_icmp .ne 7, 3) := by decide +kernel
theorem dL_law_1405 : decode cL_law 1405 = .ok (.iconst 1, 1) := by decide +kernel
theorem dL_law_1406 : decode cL_law 1406 = .ok (.goto 40, 3) := by decide +kernel
theorem dL_law_1409 : decode cL_law 1409 = .ok (.iconst 0, 1) := by decide +kernel
theorem dL_law_1410 : decode cL_law 1410 = .ok (.goto 36, 3) := by decide +kernel
theorem dL_law_1413 : decode cL_law 1413 = .ok (.aload_n 1, 1) := by decide +kernel
theorem dL_law_1414 : decode cL_law 1414 = .ok (.iload 15, 2) := by decide +kernel
theorem dL_law_1416 : decode cL_law 1416 = .ok (.iload 14, 2) := by decide +kernel
theorem dL_law_1418 : decode cL_law 1418 = .ok (.invokestatic 143, 3) := by decide +kernel
theorem dL_law_1421 : decode cL_law 1421 = .ok (.iconst 1, 1) := by decide +kernel
theorem dL_law_1422 : decode cL_law 1422 = .ok (.iload 21, 2) := by decide +kernel
theorem dL_law_1424 : decode cL_law 1424 = .ok (.isub, 1) := by decide +kernel
theorem dL_law_1425 : decode cL_law 1425 = .ok (.if_icmp .ne 20, 3) := by decide +kernel
theorem dL_law_1428 : decode cL_law 1428 = .ok (.aload_n 1, 1) := by decide +kernel
theorem dL_law_1429 : decode cL_law 1429 = .ok (.iload 15, 2) := by decide +kernel
theorem dL_law_1431 : decode cL_law 1431 = .ok (.iload 14, 2) := by decide +kernel
theorem dL_law_1433 : decode cL_law 1433 = .ok (.invokestatic 143, 3) := by decide +kernel
theorem dL_law_1436 : decode cL_law 1436 = .ok (.iload 21, 2) := by decide +kernel
theorem dL_law_1438 : decode cL_law 1438 = .ok (.if_icmp .ne 7, 3) := by decide +kernel
theorem dL_law_1441 : decode cL_law 1441 = .ok (.iconst 1, 1) := by decide +kernel
theorem dL_law_1442 : decode cL_law 1442 = .ok (.goto 4, 3) := by decide +kernel
theorem dL_law_1445 : decode cL_law 1445 = .ok (.iconst 0, 1) := by decide +kernel
theorem dL_law_1446 : decode cL_law 1446 = .ok (.istore 9, 2) := by decide +kernel
theorem dL_law_1448 : decode cL_law 1448 = .ok (.goto 192, 3) := by decide +kernel
theorem dL_law_1451 : decode cL_law 1451 = .ok (.iload 13, 2) := by decide +kernel
theorem dL_law_1453 : decode cL_law 1453 = .ok (.bipush 21, 2) := by decide +kernel
theorem dL_law_1455 : decode cL_law 1455 = .ok (.if_icmp .ne 115, 3) := by decide +kernel
theorem dL_law_1458 : decode cL_law 1458 = .ok (.iload 7, 2) := by decide +kernel
theorem dL_law_1460 : decode cL_law 1460 = .ok (.bipush 60, 2) := by decide +kernel
theorem dL_law_1462 : decode cL_law 1462 = .ok (.if_icmp .ge 108, 3) := by decide +kernel
theorem dL_law_1465 : decode cL_law 1465 = .ok (.iload 6, 2) := by decide +kernel
theorem dL_law_1467 : decode cL_law 1467 = .ok (.ifCond .eq 10, 3) := by decide +kernel
theorem dL_law_1470 : decode cL_law 1470 = .ok (.iload 16, 2) := by decide +kernel
theorem dL_law_1472 : decode cL_law 1472 = .ok (.iconst 3, 1) := by decide +kernel
theorem dL_law_1473 : decode cL_law 1473 = .ok (.irem, 1) := by decide +kernel
theorem dL_law_1474 : decode cL_law 1474 = .ok (.ifCond .le 7, 3) := by decide +kernel
theorem dL_law_1477 : decode cL_law 1477 = .ok (.iconst (-1), 1) := by decide +kernel
theorem dL_law_1478 : decode cL_law 1478 = .ok (.goto 10, 3) := by decide +kernel
theorem dL_law_1481 : decode cL_law 1481 = .ok (.iload 16, 2) := by decide +kernel
theorem dL_law_1483 : decode cL_law 1483 = .ok (.iconst 3, 1) := by decide +kernel
theorem dL_law_1484 : decode cL_law 1484 = .ok (.idiv, 1) := by decide +kernel
theorem dL_law_1485 : decode cL_law 1485 = .ok (.iload 6, 2) := by decide +kernel
theorem dL_law_1487 : decode cL_law 1487 = .ok (.irem, 1) := by decide +kernel
theorem dL_law_1488 : decode cL_law 1488 = .ok (.istore 21, 2) := by decide +kernel
theorem dL_law_1490 : decode cL_law 1490 = .ok (.aload_n 1, 1) := by decide +kernel
theorem dL_law_1491 : decode cL_law 1491 = .ok (.iload 15, 2) := by decide +kernel
theorem dL_law_1493 : decode cL_law 1493 = .ok (.iload 14, 2) := by decide +kernel
theorem dL_law_1495 : decode cL_law 1495 = .ok (.iload 21, 2) := by decide +kernel
theorem dL_law_1497 : decode cL_law 1497 = .ok (.invokestatic 145, 3) := by decide +kernel
theorem dL_law_1500 : decode cL_law 1500 = .ok (.istore 22, 2) := by decide +kernel
theorem dL_law_1502 : decode cL_law 1502 = .ok (.iload 21, 2) := by decide +kernel
theorem dL_law_1504 : decode cL_law 1504 = .ok (.ifCond .lt 17, 3) := by decide +kernel
theorem dL_law_1507 : decode cL_law 1507 = .ok (.aload 5, 2) := by decide +kernel
theorem dL_law_1509 : decode cL_law 1509 = .ok (.iload 21, 2) := by decide +kernel
theorem dL_law_1511 : decode cL_law 1511 = .ok (.iaload, 1) := by decide +kernel
theorem dL_law_1512 : decode cL_law 1512 = .ok (.sipush 1000, 3) := by decide +kernel
theorem dL_law_1515 : decode cL_law 1515 = .ok (.idiv, 1) := by decide +kernel
theorem dL_law_1516 : decode cL_law 1516 = .ok (.iload 14, 2) := by decide +kernel
theorem dL_law_1518 : decode cL_law 1518 = .ok (.if_icmp .ne 7, 3) := by decide +kernel
theorem dL_law_1521 : decode cL_law 1521 = .ok (.iconst 1, 1) := by decide +kernel
theorem dL_law_1522 : decode cL_law 1522 = .ok (.goto 4, 3) := by decide +kernel
theorem dL_law_1525 : decode cL_law 1525 = .ok (.iconst 0, 1) := by decide +kernel
theorem dL_law_1526 : decode cL_law 1526 = .ok (.istore 23, 2) := by decide +kernel
theorem dL_law_1528 : decode cL_law 1528 = .ok (.iload 22, 2) := by decide +kernel
theorem dL_law_1530 : decode cL_law 1530 = .ok (.iload 23, 2) := by decide +kernel
theorem dL_law_1532 : decode cL_law 1532 = .ok (.ifCond .eq 8, 3) := by decide +kernel
theorem dL_law_1535 : decode cL_law 1535 = .ok (.iload 7, 2) := by decide +kernel
theorem dL_law_1537 : decode cL_law 1537 = .ok (.goto 5, 3) := by decide +kernel
theorem dL_law_1540 : decode cL_law 1540 = .ok (.bipush (-102), 2) := by decide +kernel
theorem dL_law_1542 : decode cL_law 1542 = .ok (.if_icmp .ne 7, 3) := by decide +kernel
theorem dL_law_1545 : decode cL_law 1545 = .ok (.iconst 1, 1) := by decide +kernel
theorem dL_law_1546 : decode cL_law 1546 = .ok (.goto 4, 3) := by decide +kernel
theorem dL_law_1549 : decode cL_law 1549 = .ok (.iconst 0, 1) := by decide +kernel
theorem dL_law_1550 : decode cL_law 1550 = .ok (.istore 9, 2) := by decide +kernel
theorem dL_law_1552 : decode cL_law 1552 = .ok (.iload 7, 2) := by decide +kernel
theorem dL_law_1554 : decode cL_law 1554 = .ok (.iload 23, 2) := by decide +kernel
theorem dL_law_1556 : decode cL_law 1556 = .ok (.ifCond .eq 7, 3) := by decide +kernel
theorem dL_law_1559 : decode cL_law 1559 = .ok (.iconst 1, 1) := by decide +kernel
theorem dL_law_1560 : decode cL_law 1560 = .ok (.goto 4, 3) := by decide +kernel
theorem dL_law_1563 : decode cL_law 1563 = .ok (.iconst 0, 1) := by decide +kernel
theorem dL_law_1564 : decode cL_law 1564 = .ok (.iadd, 1) := by decide +kernel
theorem dL_law_1565 : decode cL_law 1565 = .ok (.istore 7, 2) := by decide +kernel
theorem dL_law_1567 : decode cL_law 1567 = .ok (.goto 73, 3) := by decide +kernel
theorem dL_law_1570 : decode cL_law 1570 = .ok (.aload_n 1, 1) := by decide +kernel
theorem dL_law_1571 : decode cL_law 1571 = .ok (.invokevirtual 147, 3) := by decide +kernel
theorem dL_law_1574 : decode cL_law 1574 = .ok (.istore 21, 2) := by decide +kernel
theorem dL_law_1576 : decode cL_law 1576 = .ok (.iload 21, 2) := by decide +kernel
theorem dL_law_1578 : decode cL_law 1578 = .ok (.iconst (-1), 1) := by decide +kernel
theorem dL_law_1579 : decode cL_law 1579 = .ok (.if_icmp .lt 14, 3) := by decide +kernel
theorem dL_law_1582 : decode cL_law 1582 = .ok (.iload 21, 2) := by decide +kernel
theorem dL_law_1584 : decode cL_law 1584 = .ok (.iload 7, 2) := by decide +kernel
theorem dL_law_1586 : decode cL_law 1586 = .ok (.if_icmp .ge 7, 3) := by decide +kernel
theorem dL_law_1589 : decode cL_law 1589 = .ok (.iconst 1, 1) := by decide +kernel
theorem dL_law_1590 : decode cL_law 1590 = .ok (.goto 4, 3) := by decide +kernel
theorem dL_law_1593 : decode cL_law 1593 = .ok (.iconst 0, 1) := by decide +kernel
theorem dL_law_1594 : decode cL_law 1594 = .ok (.istore 9, 2) := by decide +kernel
theorem dL_law_1596 : decode cL_law 1596 = .ok (.iload 8, 2) := by decide +kernel
theorem dL_law_1598 : decode cL_law 1598 = .ok (.iload 21, 2) := by decide +kernel
theorem dL_law_1600 : decode cL_law 1600 = .ok (.ifCond .lt 7, 3) := by decide +kernel
theorem dL_law_1603 : decode cL_law 1603 = .ok (.iconst 1, 1) := by decide +kernel
theorem dL_law_1604 : decode cL_law 1604 = .ok (.goto 4, 3) := by decide +kernel
theorem dL_law_1607 : decode cL_law 1607 = .ok (.iconst 0, 1) := by decide +kernel
theorem dL_law_1608 : decode cL_law 1608 = .ok (.iadd, 1) := by decide +kernel
theorem dL_law_1609 : decode cL_law 1609 = .ok (.istore 8, 2) := by decide +kernel
theorem dL_law_1611 : decode cL_law 1611 = .ok (.iload 9, 2) := by decide +kernel
theorem dL_law_1613 : decode cL_law 1613 = .ok (.ifCond .eq 24, 3) := by decide +kernel
theorem dL_law_1616 : decode cL_law 1616 = .ok (.iload 21, 2) := by decide +kernel
theorem dL_law_1618 : decode cL_law 1618 = .ok (.ifCond .lt 15, 3) := by decide +kernel
theorem dL_law_1621 : decode cL_law 1621 = .ok (.aload_n 1, 1) := by decide +kernel
theorem dL_law_1622 : decode cL_law 1622 = .ok (.invokevirtual 103, 3) := by decide +kernel
theorem dL_law_1625 : decode cL_law 1625 = .ok (.iload 7, 2) := by decide +kernel
theorem dL_law_1627 : decode cL_law 1627 = .ok (.iload 8, 2) := by decide +kernel
theorem dL_law_1629 : decode cL_law 1629 = .ok (.isub, 1) := by decide +kernel
theorem dL_law_1630 : decode cL_law 1630 = .ok (.if_icmp .ne 7, 3) := by decide +kernel
theorem dL_law_1633 : decode cL_law 1633 = .ok (.iconst 1, 1) := by decide +kernel
theorem dL_law_1634 : decode cL_law 1634 = .ok (.goto 4, 3) := by decide +kernel
theorem dL_law_1637 : decode cL_law 1637 = .ok (.iconst 0, 1) := by decide +kernel
theorem dL_law_1638 : decode cL_law 1638 = .ok (.istore 9, 2) := by decide +kernel
theorem dL_law_1640 : decode cL_law 1640 = .ok (.iconst 0, 1) := by decide +kernel
theorem dL_law_1641 : decode cL_law 1641 = .ok (.istore 21, 2) := by decide +kernel
theorem dL_law_1643 : decode cL_law 1643 = .ok (.iload 21, 2) := by decide +kernel
theorem dL_law_1645 : decode cL_law 1645 = .ok (.iconst 3, 1) := by decide +kernel
theorem dL_law_1646 : decode cL_law 1646 = .ok (.if_icmp .ge 87, 3) := by decide +kernel
theorem dL_law_1649 : decode cL_law 1649 = .ok (.iload 9, 2) := by decide +kernel
theorem dL_law_1651 : decode cL_law 1651 = .ok (.ifCond .eq 82, 3) := by decide +kernel
theorem dL_law_1654 : decode cL_law 1654 = .ok (.aload_n 1, 1) := by decide +kernel
theorem dL_law_1655 : decode cL_law 1655 = .ok (.iload 21, 2) := by decide +kernel
theorem dL_law_1657 : decode cL_law 1657 = .ok (.invokestatic 115, 3) := by decide +kernel
theorem dL_law_1660 : decode cL_law 1660 = .ok (.aload_n 2, 1) := by decide +kernel
theorem dL_law_1661 : decode cL_law 1661 = .ok (.iload 21, 2) := by decide +kernel
theorem dL_law_1663 : decode cL_law 1663 = .ok (.iaload, 1) := by decide +kernel
theorem dL_law_1664 : decode cL_law 1664 = .ok (.if_icmp .lt 50, 3) := by decide +kernel
theorem dL_law_1667 : decode cL_law 1667 = .ok (.aload_n 1, 1) := by decide +kernel
theorem dL_law_1668 : decode cL_law 1668 = .ok (.iload 21, 2) := by decide +kernel
theorem dL_law_1670 : decode cL_law 1670 = .ok (.iload 10, 2) := by decide +kernel
theorem dL_law_1672 : decode cL_law 1672 = .ok (.invokestatic 150, 3) := by decide +kernel
theorem dL_law_1675 : decode cL_law 1675 = .ok (.ifCond .eq 39, 3) := by decide +kernel
theorem dL_law_1678 : decode cL_law 1678 = .ok (.aload_n 1, 1) := by decide +kernel
theorem dL_law_1679 : decode cL_law 1679 = .ok (.iload 21, 2) := by decide +kernel
theorem dL_law_1681 : decode cL_law 1681 = .ok (.invokestatic 154, 3) := by decide +kernel
theorem dL_law_1684 : decode cL_law 1684 = .ok (.aload_n 1, 1) := by decide +kernel
theorem dL_law_1685 : decode cL_law 1685 = .ok (.iload 21, 2) := by decide +kernel
theorem dL_law_1687 : decode cL_law 1687 = .ok (.invokestatic 115, 3) := by decide +kernel
theorem dL_law_1690 : decode cL_law 1690 = .ok (.if_icmp .gt 24, 3) := by decide +kernel
theorem dL_law_1693 : decode cL_law 1693 = .ok (.aload_n 1, 1) := by decide +kernel
theorem dL_law_1694 : decode cL_law 1694 = .ok (.iload 21, 2) := by decide +kernel
theorem dL_law_1696 : decode cL_law 1696 = .ok (.aload_n 1, 1) := by decide +kernel
theorem dL_law_1697 : decode cL_law 1697 = .ok (.iload 21, 2) := by decide +kernel
theorem dL_law_1699 : decode cL_law 1699 = .ok (.invokestatic 156, 3) := by decide +kernel
theorem dL_law_1702 : decode cL_law 1702 = .ok (.invokestatic 158, 3) := by decide +kernel
theorem dL_law_1705 : decode cL_law 1705 = .ok (.bipush (-101), 2) := by decide +kernel
theorem dL_law_1707 : decode cL_law 1707 = .ok (.if_icmp .ne 7, 3) := by decide +kernel
theorem dL_law_1710 : decode cL_law 1710 = .ok (.iconst 1, 1) := by decide +kernel
theorem dL_law_1711 : decode cL_law 1711 = .ok (.goto 4, 3) := by decide +kernel
theorem dL_law_1714 : decode cL_law 1714 = .ok (.iconst 0, 1) := by decide +kernel
theorem dL_law_1715 : decode cL_law 1715 = .ok (.istore 9, 2) := by decide +kernel
theorem dL_law_1717 : decode cL_law 1717 = .ok (.aload_n 2, 1) := by decide +kernel
theorem dL_law_1718 : decode cL_law 1718 = .ok (.iload 21, 2) := by decide +kernel
theorem dL_law_1720 : decode cL_law 1720 = .ok (.aload_n 1, 1) := by decide +kernel
theorem dL_law_1721 : decode cL_law 1721 = .ok (.iload 21, 2) := by decide +kernel
theorem dL_law_1723 : decode cL_law 1723 = .ok (.invokestatic 115, 3) := by decide +kernel
theorem dL_law_1726 : decode cL_law 1726 = .ok (.iastore, 1) := by decide +kernel
theorem dL_law_1727 : decode cL_law 1727 = .ok (.iinc 21 1, 3) := by decide +kernel
theorem dL_law_1730 : decode cL_law 1730 = .ok (.goto (-87), 3) := by decide +kernel
theorem dL_law_1733 : decode cL_law 1733 = .ok (.iconst 0, 1) := by decide +kernel
theorem dL_law_1734 : decode cL_law 1734 = .ok (.istore 21, 2) := by decide +kernel
theorem dL_law_1736 : decode cL_law 1736 = .ok (.iload 21, 2) := by decide +kernel
theorem dL_law_1738 : decode cL_law 1738 = .ok (.iload 6, 2) := by decide +kernel
theorem dL_law_1740 : decode cL_law 1740 = .ok (.if_icmp .ge 44, 3) := by decide +kernel
theorem dL_law_1743 : decode cL_law 1743 = .ok (.iload 9, 2) := by decide +kernel
theorem dL_law_1745 : decode cL_law 1745 = .ok (.ifCond .eq 39, 3) := by decide +kernel
theorem dL_law_1748 : decode cL_law 1748 = .ok (.aload_n 1, 1) := by decide +kernel
theorem dL_law_1749 : decode cL_law 1749 = .ok (.iload 21, 2) := by decide +kernel
theorem dL_law_1751 : decode cL_law 1751 = .ok (.invokestatic 131, 3) := by decide +kernel
theorem dL_law_1754 : decode cL_law 1754 = .ok (.aload 4, 2) := by decide +kernel
theorem dL_law_1756 : decode cL_law 1756 = .ok (.iload 21, 2) := by decide +kernel
theorem dL_law_1758 : decode cL_law 1758 = .ok (.iaload, 1) := by decide +kernel
theorem dL_law_1759 : decode cL_law 1759 = .ok (.if_icmp .ne 16, 3) := by decide +kernel
theorem dL_law_1762 : decode cL_law 1762 = .ok (.aload_n 1, 1) := by decide +kernel
theorem dL_law_1763 : decode cL_law 1763 = .ok (.iload 21, 2) := by decide +kernel
theorem dL_law_1765 : decode cL_law 1765 = .ok (.invokestatic 133, 3) := by decide +kernel
theorem dL_law_1768 : decode cL_law 1768 = .ok (.ifCond .lt 7, 3) := by decide +kernel
theorem dL_law_1771 : decode cL_law 1771 = .ok (.iconst 1, 1) := by decide +kernel
theorem dL_law_1772 : decode cL_law 1772 = .ok (.goto 4, 3) := by decide +kernel
theorem dL_law_1775 : decode cL_law 1775 = .ok (.iconst 0, 1) := by decide +kernel
theorem dL_law_1776 : decode cL_law 1776 = .ok (.istore 9, 2) := by decide +kernel
theorem dL_law_1778 : decode cL_law 1778 = .ok (.iinc 21 1, 3) := by decide +kernel
theorem dL_law_1781 : decode cL_law 1781 = .ok (.goto (-45), 3) := by decide +kernel
theorem dL_law_1784 : decode cL_law 1784 = .ok (.iload 9, 2) := by decide +kernel
theorem dL_law_1786 : decode cL_law 1786 = .ok (.ifCond .eq 19, 3) := by decide +kernel
theorem dL_law_1789 : decode cL_law 1789 = .ok (.aload_n 1, 1) := by decide +kernel
theorem dL_law_1790 : decode cL_law 1790 = .ok (.invokevirtual 103, 3) := by decide +kernel
theorem dL_law_1793 : decode cL_law 1793 = .ok (.iload 7, 2) := by decide +kernel
theorem dL_law_1795 : decode cL_law 1795 = .ok (.iload 8, 2) := by decide +kernel
theorem dL_law_1797 : decode cL_law 1797 = .ok (.isub, 1) := by decide +kernel
theorem dL_law_1798 : decode cL_law 1798 = .ok (.if_icmp .ne 7, 3) := by decide +kernel
theorem dL_law_1801 : decode cL_law 1801 = .ok (.iconst 1, 1) := by decide +kernel
theorem dL_law_1802 : decode cL_law 1802 = .ok (.goto 4, 3) := by decide +kernel
theorem dL_law_1805 : decode cL_law 1805 = .ok (.iconst 0, 1) := by decide +kernel
theorem dL_law_1806 : decode cL_law 1806 = .ok (.istore 9, 2) := by decide +kernel
theorem dL_law_1808 : decode cL_law 1808 = .ok (.iinc 10 1, 3) := by decide +kernel
theorem dL_law_1811 : decode cL_law 1811 = .ok (.goto (-1757), 3) := by decide +kernel
theorem dL_law_1814 : decode cL_law 1814 = .ok (.iload 9, 2) := by decide +kernel
theorem dL_law_1816 : decode cL_law 1816 = .ok (.ireturn, 1) := by decide +kernel
abbrev vwCl : List vw_C := [(RJx4a65c, TJx4a65c, 3), (RX0, TX0, 3), (RX1, TX1, 6), (RX2, TX2, 3), (RX3, TX3, 4), (RX4, TX4, 2), (RX5, TX5, 3), (RX6, TX6, 4), (RX7, TX7, 4), (RX8, TX8, 4), (RX9, TX9, 10), (RX10, TX10, 7)]
