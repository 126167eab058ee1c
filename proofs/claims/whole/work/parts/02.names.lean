def RX0 : String := "CursorKeep$Act"
def TX0 : u_T := fun k => match k with
  | 0 => ("CursorKeep$Act", "text", "LCursorKeep$Text;", true)
  | 1 => ("CursorKeep$Act", "letter", "I", true)
  | _ => ("CursorKeep$Act", "typed", "Z", true)
def tyX0 : Nat → FieldType := fun k => match k with
  | 0 => .object "CursorKeep$Text"
  | 1 => .int
  | _ => .boolean
abbrev wsX00 : List Cond := u_ws RX0 TX0 3
theorem nmX0 : ∀ a, a < 3 → ∀ b, b < 3 → a ≠ b → (TX0 a).2.1 ≠ (TX0 b).2.1 := by decide +kernel
theorem tyX0_ok : ∀ k, k < 3 → parseFieldDescriptor (TX0 k).2.2.1 = some (tyX0 k) := by decide +kernel
abbrev cX0_init : ByteArray := prog_2_method_1_code
def yX0_init : MethodName := ⟨RX0, "<init>", "(LCursorKeep$Text;IZ)V"⟩
def RX1 : String := "CursorKeep$Change"
def TX1 : u_T := fun k => match k with
  | 0 => ("CursorKeep$Change", "letter", "I", true)
  | 1 => ("CursorKeep$Change", "had", "C", true)
  | 2 => ("CursorKeep$Change", "wanted", "C", true)
  | 3 => ("CursorKeep$Change", "ahead", "I", true)
  | 4 => ("CursorKeep$Change", "behind", "I", true)
  | _ => ("CursorKeep$Change", "isSpared", "Z", false)
def tyX1 : Nat → FieldType := fun k => match k with
  | 0 => .int
  | 1 => .char
  | 2 => .char
  | 3 => .int
  | 4 => .int
  | _ => .boolean
abbrev wsX10 : List Cond := u_ws RX1 TX1 6
theorem nmX1 : ∀ a, a < 6 → ∀ b, b < 6 → a ≠ b → (TX1 a).2.1 ≠ (TX1 b).2.1 := by decide +kernel
theorem tyX1_ok : ∀ k, k < 6 → parseFieldDescriptor (TX1 k).2.2.1 = some (tyX1 k) := by decide +kernel
abbrev cX1_init : ByteArray := prog_3_method_1_code
def yX1_init : MethodName := ⟨RX1, "<init>", "(ICCII)V"⟩
abbrev cX1_goes : ByteArray := prog_3_method_2_code
def yX1_goes : MethodName := ⟨RX1, "goes", "()Z"⟩
def RX2 : String := "CursorKeep$Deed"
def TX2 : u_T := fun k => match k with
  | 0 => ("CursorKeep$Deed", "kind", "I", true)
  | 1 => ("CursorKeep$Deed", "where", "I", true)
  | _ => ("CursorKeep$Deed", "sign", "C", true)
def tyX2 : Nat → FieldType := fun k => match k with
  | 0 => .int
  | 1 => .int
  | _ => .char
abbrev wsX20 : List Cond := u_ws RX2 TX2 3
theorem nmX2 : ∀ a, a < 3 → ∀ b, b < 3 → a ≠ b → (TX2 a).2.1 ≠ (TX2 b).2.1 := by decide +kernel
theorem tyX2_ok : ∀ k, k < 3 → parseFieldDescriptor (TX2 k).2.2.1 = some (tyX2 k) := by decide +kernel
abbrev cX2_init : ByteArray := prog_4_method_1_code
def yX2_init : MethodName := ⟨RX2, "<init>", "(IIC)V"⟩
abbrev cX2_doTo : ByteArray := prog_4_method_2_code
def yX2_doTo : MethodName := ⟨RX2, "doTo", "(LCursorKeep$Row;)V"⟩
def RX3 : String := "CursorKeep$Format"
def TX3 : u_T := fun k => match k with
  | 0 => ("CursorKeep$Format", "text", "LCursorKeep$Text;", true)
  | 1 => ("CursorKeep$Format", "changes", "Ljava/util/List;", true)
  | 2 => ("CursorKeep$Format", "state", "I", false)
  | _ => ("CursorKeep$Format", "sparedAtEnd", "I", false)
def tyX3 : Nat → FieldType := fun k => match k with
  | 0 => .object "CursorKeep$Text"
  | 1 => .object "java/util/List"
  | 2 => .int
  | _ => .int
abbrev wsX30 : List Cond := u_ws RX3 TX3 4
theorem nmX3 : ∀ a, a < 4 → ∀ b, b < 4 → a ≠ b → (TX3 a).2.1 ≠ (TX3 b).2.1 := by decide +kernel
theorem tyX3_ok : ∀ k, k < 4 → parseFieldDescriptor (TX3 k).2.2.1 = some (tyX3 k) := by decide +kernel
abbrev cX3_init : ByteArray := prog_5_method_1_code
def yX3_init : MethodName := ⟨RX3, "<init>", "(LCursorKeep$Text;Ljava/util/List;)V"⟩
abbrev cX3_end : ByteArray := prog_5_method_2_code
def yX3_end : MethodName := ⟨RX3, "end", "(II)V"⟩
abbrev cX3_judge : ByteArray := prog_5_method_3_code
def yX3_judge : MethodName := ⟨RX3, "judge", "(LCursorKeep$Neighbours;)I"⟩
abbrev cX3_doChanges : ByteArray := prog_5_method_4_code
def yX3_doChanges : MethodName := ⟨RX3, "doChanges", "()V"⟩
abbrev cX3_spares : ByteArray := prog_5_method_5_code
def yX3_spares : MethodName := ⟨RX3, "spares", "(LCursorKeep$Change;LCursorKeep$Neighbours;)Z"⟩
def RX4 : String := "CursorKeep$Hand"
def TX4 : u_T := fun k => match k with
  | 0 => ("CursorKeep$Hand", "acts", "Ljava/util/List;", true)
  | _ => ("CursorKeep$Hand", "standing", "I", false)
def tyX4 : Nat → FieldType := fun k => match k with
  | 0 => .object "java/util/List"
  | _ => .int
abbrev wsX40 : List Cond := u_ws RX4 TX4 2
theorem nmX4 : ∀ a, a < 2 → ∀ b, b < 2 → a ≠ b → (TX4 a).2.1 ≠ (TX4 b).2.1 := by decide +kernel
theorem tyX4_ok : ∀ k, k < 2 → parseFieldDescriptor (TX4 k).2.2.1 = some (tyX4 k) := by decide +kernel
abbrev cX4_init : ByteArray := prog_6_method_1_code
def yX4_init : MethodName := ⟨RX4, "<init>", "()V"⟩
abbrev cX4_remember : ByteArray := prog_6_method_2_code
def yX4_remember : MethodName := ⟨RX4, "remember", "(LCursorKeep$Act;)V"⟩
abbrev cX4_stepBack : ByteArray := prog_6_method_3_code
def yX4_stepBack : MethodName := ⟨RX4, "stepBack", "()LCursorKeep$Act;"⟩
abbrev cX4_stepForth : ByteArray := prog_6_method_4_code
def yX4_stepForth : MethodName := ⟨RX4, "stepForth", "()LCursorKeep$Act;"⟩
def RX5 : String := "CursorKeep$Neighbours"
def TX5 : u_T := fun k => match k with
  | 0 => ("CursorKeep$Neighbours", "going", "[Z", true)
  | 1 => ("CursorKeep$Neighbours", "ahead", "[I", true)
  | _ => ("CursorKeep$Neighbours", "behind", "[I", true)
def tyX5 : Nat → FieldType := fun k => match k with
  | 0 => .array .boolean
  | 1 => .array .int
  | _ => .array .int
abbrev wsX50 : List Cond := u_ws RX5 TX5 3
theorem nmX5 : ∀ a, a < 3 → ∀ b, b < 3 → a ≠ b → (TX5 a).2.1 ≠ (TX5 b).2.1 := by decide +kernel
theorem tyX5_ok : ∀ k, k < 3 → parseFieldDescriptor (TX5 k).2.2.1 = some (tyX5 k) := by decide +kernel
abbrev cX5_init : ByteArray := prog_7_method_1_code
def yX5_init : MethodName := ⟨RX5, "<init>", "()V"⟩
abbrev cX5_forgetGoing : ByteArray := prog_7_method_2_code
def yX5_forgetGoing : MethodName := ⟨RX5, "forgetGoing", "()V"⟩
abbrev cX5_markGoing : ByteArray := prog_7_method_3_code
def yX5_markGoing : MethodName := ⟨RX5, "markGoing", "(I)V"⟩
abbrev cX5_find : ByteArray := prog_7_method_4_code
def yX5_find : MethodName := ⟨RX5, "find", "(LCursorKeep$Row;)V"⟩
abbrev cX5_aheadOf : ByteArray := prog_7_method_5_code
def yX5_aheadOf : MethodName := ⟨RX5, "aheadOf", "(I)I"⟩
abbrev cX5_behindOf : ByteArray := prog_7_method_6_code
def yX5_behindOf : MethodName := ⟨RX5, "behindOf", "(I)I"⟩
abbrev cX5_pass : ByteArray := prog_7_method_7_code
def yX5_pass : MethodName := ⟨RX5, "pass", "(LCursorKeep$Row;II[I)I"⟩
abbrev cX5_isLetter : ByteArray := prog_7_method_8_code
def yX5_isLetter : MethodName := ⟨RX5, "isLetter", "(I)Z"⟩
def RX6 : String := "CursorKeep$Plan"
def TX6 : u_T := fun k => match k with
  | 0 => ("CursorKeep$Plan", "letters", "[I", true)
  | 1 => ("CursorKeep$Plan", "signs", "[C", true)
  | 2 => ("CursorKeep$Plan", "wanted", "[C", true)
  | _ => ("CursorKeep$Plan", "count", "I", false)
def tyX6 : Nat → FieldType := fun k => match k with
  | 0 => .array .int
  | 1 => .array .char
  | 2 => .array .char
  | _ => .int
abbrev wsX60 : List Cond := u_ws RX6 TX6 4
theorem nmX6 : ∀ a, a < 4 → ∀ b, b < 4 → a ≠ b → (TX6 a).2.1 ≠ (TX6 b).2.1 := by decide +kernel
theorem tyX6_ok : ∀ k, k < 4 → parseFieldDescriptor (TX6 k).2.2.1 = some (tyX6 k) := by decide +kernel
abbrev cX6_init : ByteArray := prog_8_method_1_code
def yX6_init : MethodName := ⟨RX6, "<init>", "()V"⟩
abbrev cX6_draw : ByteArray := prog_8_method_2_code
def yX6_draw : MethodName := ⟨RX6, "draw", "(LCursorKeep$Row;II)V"⟩
abbrev cX6_changes : ByteArray := prog_8_method_3_code
def yX6_changes : MethodName := ⟨RX6, "changes", "(LCursorKeep$Row;LCursorKeep$Neighbours;)Ljava/util/List;"⟩
abbrev cX6_look : ByteArray := prog_8_method_4_code
def yX6_look : MethodName := ⟨RX6, "look", "(LCursorKeep$Row;)V"⟩
abbrev cX6_wantSingleSpaces : ByteArray := prog_8_method_5_code
def yX6_wantSingleSpaces : MethodName := ⟨RX6, "wantSingleSpaces", "()V"⟩
abbrev cX6_wantBareEnds : ByteArray := prog_8_method_6_code
def yX6_wantBareEnds : MethodName := ⟨RX6, "wantBareEnds", "()V"⟩
abbrev cX6_wantCapitals : ByteArray := prog_8_method_7_code
def yX6_wantCapitals : MethodName := ⟨RX6, "wantCapitals", "()V"⟩
abbrev cX6_wantWrapped : ByteArray := prog_8_method_8_code
def yX6_wantWrapped : MethodName := ⟨RX6, "wantWrapped", "(I)V"⟩
def RX7 : String := "CursorKeep$Row"
def TX7 : u_T := fun k => match k with
  | 0 => ("CursorKeep$Row", "order", "[I", true)
  | 1 => ("CursorKeep$Row", "signs", "[C", true)
  | 2 => ("CursorKeep$Row", "there", "[Z", true)
  | _ => ("CursorKeep$Row", "count", "I", false)
def tyX7 : Nat → FieldType := fun k => match k with
  | 0 => .array .int
  | 1 => .array .char
  | 2 => .array .boolean
  | _ => .int
abbrev wsX70 : List Cond := u_ws RX7 TX7 4
theorem nmX7 : ∀ a, a < 4 → ∀ b, b < 4 → a ≠ b → (TX7 a).2.1 ≠ (TX7 b).2.1 := by decide +kernel
theorem tyX7_ok : ∀ k, k < 4 → parseFieldDescriptor (TX7 k).2.2.1 = some (tyX7 k) := by decide +kernel
abbrev cX7_init : ByteArray := prog_9_method_1_code
def yX7_init : MethodName := ⟨RX7, "<init>", "()V"⟩
abbrev cX7_empty : ByteArray := prog_9_method_2_code
def yX7_empty : MethodName := ⟨RX7, "empty", "()V"⟩
abbrev cX7_count : ByteArray := prog_9_method_3_code
def yX7_count : MethodName := ⟨RX7, "count", "()I"⟩
abbrev cX7_isFull : ByteArray := prog_9_method_4_code
def yX7_isFull : MethodName := ⟨RX7, "isFull", "()Z"⟩
abbrev cX7_has : ByteArray := prog_9_method_5_code
def yX7_has : MethodName := ⟨RX7, "has", "(I)Z"⟩
abbrev cX7_shows : ByteArray := prog_9_method_6_code
def yX7_shows : MethodName := ⟨RX7, "shows", "(I)Z"⟩
abbrev cX7_signOf : ByteArray := prog_9_method_7_code
def yX7_signOf : MethodName := ⟨RX7, "signOf", "(I)C"⟩
abbrev cX7_letterAt : ByteArray := prog_9_method_8_code
def yX7_letterAt : MethodName := ⟨RX7, "letterAt", "(I)I"⟩
abbrev cX7_spotOf : ByteArray := prog_9_method_9_code
def yX7_spotOf : MethodName := ⟨RX7, "spotOf", "(I)I"⟩
abbrev cX7_nearestShownAhead : ByteArray := prog_9_method_10_code
def yX7_nearestShownAhead : MethodName := ⟨RX7, "nearestShownAhead", "(I)I"⟩
abbrev cX7_nearestShownFrom : ByteArray := prog_9_method_11_code
def yX7_nearestShownFrom : MethodName := ⟨RX7, "nearestShownFrom", "(I)I"⟩
abbrev cX7_shownCount : ByteArray := prog_9_method_12_code
def yX7_shownCount : MethodName := ⟨RX7, "shownCount", "()I"⟩
abbrev cX7_shownCountAhead : ByteArray := prog_9_method_13_code
def yX7_shownCountAhead : MethodName := ⟨RX7, "shownCountAhead", "(I)I"⟩
abbrev cX7_shownLetter : ByteArray := prog_9_method_14_code
def yX7_shownLetter : MethodName := ⟨RX7, "shownLetter", "(I)I"⟩
abbrev cX7_put : ByteArray := prog_9_method_15_code
def yX7_put : MethodName := ⟨RX7, "put", "(IC)V"⟩
abbrev cX7_setThere : ByteArray := prog_9_method_16_code
def yX7_setThere : MethodName := ⟨RX7, "setThere", "(IZ)V"⟩
abbrev cX7_setSign : ByteArray := prog_9_method_17_code
def yX7_setSign : MethodName := ⟨RX7, "setSign", "(IC)V"⟩
def RX8 : String := "CursorKeep$Save"
def TX8 : u_T := fun k => match k with
  | 0 => ("CursorKeep$Save", "number", "I", true)
  | 1 => ("CursorKeep$Save", "text", "LCursorKeep$Text;", true)
  | 2 => ("CursorKeep$Save", "hand", "I", true)
  | _ => ("CursorKeep$Save", "awaited", "LCursorKeep$Format;", true)
def tyX8 : Nat → FieldType := fun k => match k with
  | 0 => .int
  | 1 => .object "CursorKeep$Text"
  | 2 => .int
  | _ => .object "CursorKeep$Format"
abbrev wsX80 : List Cond := u_ws RX8 TX8 4
theorem nmX8 : ∀ a, a < 4 → ∀ b, b < 4 → a ≠ b → (TX8 a).2.1 ≠ (TX8 b).2.1 := by decide +kernel
theorem tyX8_ok : ∀ k, k < 4 → parseFieldDescriptor (TX8 k).2.2.1 = some (tyX8 k) := by decide +kernel
abbrev cX8_init : ByteArray := prog_10_method_1_code
def yX8_init : MethodName := ⟨RX8, "<init>", "(IILCursorKeep$Text;LCursorKeep$Format;)V"⟩
abbrev cX8_isReady : ByteArray := prog_10_method_2_code
def yX8_isReady : MethodName := ⟨RX8, "isReady", "()Z"⟩
def RX9 : String := "CursorKeep$Text"
def TX9 : u_T := fun k => match k with
  | 0 => ("CursorKeep$Text", "number", "I", true)
  | 1 => ("CursorKeep$Text", "row", "LCursorKeep$Row;", true)
  | 2 => ("CursorKeep$Text", "savedSigns", "[C", true)
  | 3 => ("CursorKeep$Text", "version", "I", false)
  | 4 => ("CursorKeep$Text", "lockedBy", "I", false)
  | 5 => ("CursorKeep$Text", "savedVersion", "I", false)
  | 6 => ("CursorKeep$Text", "savedCount", "I", false)
  | 7 => ("CursorKeep$Text", "anew", "LCursorKeep$Row;", true)
  | 8 => ("CursorKeep$Text", "deeds", "Ljava/util/List;", true)
  | _ => ("CursorKeep$Text", "cursors", "[I", true)
def tyX9 : Nat → FieldType := fun k => match k with
  | 0 => .int
  | 1 => .object "CursorKeep$Row"
  | 2 => .array .char
  | 3 => .int
  | 4 => .int
  | 5 => .int
  | 6 => .int
  | 7 => .object "CursorKeep$Row"
  | 8 => .object "java/util/List"
  | _ => .array .int
abbrev wsX90 : List Cond := u_ws RX9 TX9 10
theorem nmX9 : ∀ a, a < 10 → ∀ b, b < 10 → a ≠ b → (TX9 a).2.1 ≠ (TX9 b).2.1 := by decide +kernel
theorem tyX9_ok : ∀ k, k < 10 → parseFieldDescriptor (TX9 k).2.2.1 = some (tyX9 k) := by decide +kernel
abbrev cX9_init : ByteArray := prog_11_method_1_code
def yX9_init : MethodName := ⟨RX9, "<init>", "(I)V"⟩
abbrev cX9_isFreeFor : ByteArray := prog_11_method_2_code
def yX9_isFreeFor : MethodName := ⟨RX9, "isFreeFor", "(I)Z"⟩
abbrev cX9_cursorPlace : ByteArray := prog_11_method_3_code
def yX9_cursorPlace : MethodName := ⟨RX9, "cursorPlace", "(I)I"⟩
abbrev cX9_letterAheadOfCursor : ByteArray := prog_11_method_4_code
def yX9_letterAheadOfCursor : MethodName := ⟨RX9, "letterAheadOfCursor", "(I)I"⟩
abbrev cX9_setCursor : ByteArray := prog_11_method_5_code
def yX9_setCursor : MethodName := ⟨RX9, "setCursor", "(II)V"⟩
abbrev cX9_hasCursorAt : ByteArray := prog_11_method_6_code
def yX9_hasCursorAt : MethodName := ⟨RX9, "hasCursorAt", "(I)Z"⟩
abbrev cX9_putAheadOfCursor : ByteArray := prog_11_method_7_code
def yX9_putAheadOfCursor : MethodName := ⟨RX9, "putAheadOfCursor", "(IC)I"⟩
abbrev cX9_turn : ByteArray := prog_11_method_8_code
def yX9_turn : MethodName := ⟨RX9, "turn", "(IZ)V"⟩
abbrev cX9_letGo : ByteArray := prog_11_method_9_code
def yX9_letGo : MethodName := ⟨RX9, "letGo", "(I)V"⟩
abbrev cX9_become : ByteArray := prog_11_method_10_code
def yX9_become : MethodName := ⟨RX9, "become", "(IC)V"⟩
abbrev cX9_rowAnew : ByteArray := prog_11_method_11_code
def yX9_rowAnew : MethodName := ⟨RX9, "rowAnew", "()LCursorKeep$Row;"⟩
abbrev cX9_keepAsSaved : ByteArray := prog_11_method_12_code
def yX9_keepAsSaved : MethodName := ⟨RX9, "keepAsSaved", "()V"⟩
abbrev cX9_cursorSpot : ByteArray := prog_11_method_13_code
def yX9_cursorSpot : MethodName := ⟨RX9, "cursorSpot", "(I)I"⟩
abbrev cX9_perform : ByteArray := prog_11_method_14_code
def yX9_perform : MethodName := ⟨RX9, "perform", "(LCursorKeep$Deed;)V"⟩
def RX10 : String := "CursorKeep"
def TX10 : u_T := fun k => match k with
  | 0 => ("CursorKeep", "texts", "[LCursorKeep$Text;", true)
  | 1 => ("CursorKeep", "hands", "[LCursorKeep$Hand;", true)
  | 2 => ("CursorKeep", "formats", "Ljava/util/List;", true)
  | 3 => ("CursorKeep", "queue", "Ljava/util/List;", true)
  | 4 => ("CursorKeep", "plan", "LCursorKeep$Plan;", true)
  | 5 => ("CursorKeep", "neighbours", "LCursorKeep$Neighbours;", true)
  | _ => ("CursorKeep", "saves", "I", false)
def tyX10 : Nat → FieldType := fun k => match k with
  | 0 => .array (.object "CursorKeep$Text")
  | 1 => .array (.object "CursorKeep$Hand")
  | 2 => .object "java/util/List"
  | 3 => .object "java/util/List"
  | 4 => .object "CursorKeep$Plan"
  | 5 => .object "CursorKeep$Neighbours"
  | _ => .int
abbrev wsX100 : List Cond := u_ws RX10 TX10 7
theorem nmX10 : ∀ a, a < 7 → ∀ b, b < 7 → a ≠ b → (TX10 a).2.1 ≠ (TX10 b).2.1 := by decide +kernel
theorem tyX10_ok : ∀ k, k < 7 → parseFieldDescriptor (TX10 k).2.2.1 = some (tyX10 k) := by decide +kernel
abbrev cX10_init : ByteArray := prog_1_method_1_code
def yX10_init : MethodName := ⟨RX10, "<init>", "()V"⟩
abbrev cX10_type : ByteArray := prog_1_method_2_code
def yX10_type : MethodName := ⟨RX10, "type", "(IIC)I"⟩
abbrev cX10_erase : ByteArray := prog_1_method_3_code
def yX10_erase : MethodName := ⟨RX10, "erase", "(II)I"⟩
abbrev cX10_moveTo : ByteArray := prog_1_method_4_code
def yX10_moveTo : MethodName := ⟨RX10, "moveTo", "(III)I"⟩
abbrev cX10_undo : ByteArray := prog_1_method_5_code
def yX10_undo : MethodName := ⟨RX10, "undo", "(I)I"⟩
abbrev cX10_redo : ByteArray := prog_1_method_6_code
def yX10_redo : MethodName := ⟨RX10, "redo", "(I)I"⟩
abbrev cX10_place : ByteArray := prog_1_method_7_code
def yX10_place : MethodName := ⟨RX10, "place", "(II)I"⟩
abbrev cX10_length : ByteArray := prog_1_method_8_code
def yX10_length : MethodName := ⟨RX10, "length", "(I)I"⟩
abbrev cX10_letter : ByteArray := prog_1_method_9_code
def yX10_letter : MethodName := ⟨RX10, "letter", "(II)C"⟩
abbrev cX10_letterAnew : ByteArray := prog_1_method_10_code
def yX10_letterAnew : MethodName := ⟨RX10, "letterAnew", "(II)C"⟩
abbrev cX10_version : ByteArray := prog_1_method_11_code
def yX10_version : MethodName := ⟨RX10, "version", "(I)I"⟩
abbrev cX10_ask : ByteArray := prog_1_method_12_code
def yX10_ask : MethodName := ⟨RX10, "ask", "(III)I"⟩
abbrev cX10_come : ByteArray := prog_1_method_13_code
def yX10_come : MethodName := ⟨RX10, "come", "(I)I"⟩
abbrev cX10_drop : ByteArray := prog_1_method_14_code
def yX10_drop : MethodName := ⟨RX10, "drop", "(I)I"⟩
abbrev cX10_state : ByteArray := prog_1_method_15_code
def yX10_state : MethodName := ⟨RX10, "state", "(I)I"⟩
abbrev cX10_spared : ByteArray := prog_1_method_16_code
def yX10_spared : MethodName := ⟨RX10, "spared", "(I)I"⟩
abbrev cX10_lock : ByteArray := prog_1_method_17_code
def yX10_lock : MethodName := ⟨RX10, "lock", "(II)Z"⟩
abbrev cX10_save : ByteArray := prog_1_method_18_code
def yX10_save : MethodName := ⟨RX10, "save", "(III)I"⟩
abbrev cX10_write : ByteArray := prog_1_method_19_code
def yX10_write : MethodName := ⟨RX10, "write", "()I"⟩
abbrev cX10_queued : ByteArray := prog_1_method_20_code
def yX10_queued : MethodName := ⟨RX10, "queued", "()I"⟩
abbrev cX10_savedVersion : ByteArray := prog_1_method_21_code
def yX10_savedVersion : MethodName := ⟨RX10, "savedVersion", "(I)I"⟩
abbrev cX10_savedLength : ByteArray := prog_1_method_22_code
def yX10_savedLength : MethodName := ⟨RX10, "savedLength", "(I)I"⟩
abbrev cX10_savedLetter : ByteArray := prog_1_method_23_code
def yX10_savedLetter : MethodName := ⟨RX10, "savedLetter", "(II)C"⟩
abbrev cX10_handAt : ByteArray := prog_1_method_24_code
def yX10_handAt : MethodName := ⟨RX10, "handAt", "(I)LCursorKeep$Hand;"⟩
abbrev cX10_textAt : ByteArray := prog_1_method_25_code
def yX10_textAt : MethodName := ⟨RX10, "textAt", "(I)LCursorKeep$Text;"⟩
abbrev cX10_formatAt : ByteArray := prog_1_method_26_code
def yX10_formatAt : MethodName := ⟨RX10, "formatAt", "(I)LCursorKeep$Format;"⟩
abbrev cX10_waitingFormatAt : ByteArray := prog_1_method_27_code
def yX10_waitingFormatAt : MethodName := ⟨RX10, "waitingFormatAt", "(I)LCursorKeep$Format;"⟩
abbrev cX10_isFirstForItsText : ByteArray := prog_1_method_28_code
def yX10_isFirstForItsText : MethodName := ⟨RX10, "isFirstForItsText", "(LCursorKeep$Save;)Z"⟩
abbrev cX10_shownSign : ByteArray := prog_1_method_29_code
def yX10_shownSign : MethodName := ⟨RX10, "shownSign", "(LCursorKeep$Row;I)C"⟩
abbrev cX10_canBeTyped : ByteArray := prog_1_method_30_code
def yX10_canBeTyped : MethodName := ⟨RX10, "canBeTyped", "(C)Z"⟩
abbrev cX10_canBeAsked : ByteArray := prog_1_method_31_code
def yX10_canBeAsked : MethodName := ⟨RX10, "canBeAsked", "(II)Z"⟩
def RX11 : String := "CursorKeepModel"
def TX11 : u_T := fun k => match k with
  | 0 => ("CursorKeepModel", "order", "[I", true)
  | 1 => ("CursorKeepModel", "sign", "[I", true)
  | 2 => ("CursorKeepModel", "isThere", "[Z", true)
  | 3 => ("CursorKeepModel", "typed", "[I", true)
  | 4 => ("CursorKeepModel", "version", "[I", true)
  | 5 => ("CursorKeepModel", "cursor", "[I", true)
  | 6 => ("CursorKeepModel", "act", "[I", true)
  | 7 => ("CursorKeepModel", "acts", "[I", true)
  | 8 => ("CursorKeepModel", "undone", "[I", true)
  | 9 => ("CursorKeepModel", "formatText", "[I", true)
  | 10 => ("CursorKeepModel", "formatState", "[I", true)
  | 11 => ("CursorKeepModel", "changes", "[I", true)
  | 12 => ("CursorKeepModel", "sparedThen", "[I", true)
  | 13 => ("CursorKeepModel", "letter", "[I", true)
  | 14 => ("CursorKeepModel", "was", "[I", true)
  | 15 => ("CursorKeepModel", "becomes", "[I", true)
  | 16 => ("CursorKeepModel", "ahead", "[I", true)
  | 17 => ("CursorKeepModel", "behind", "[I", true)
  | 18 => ("CursorKeepModel", "formats", "I", false)
  | 19 => ("CursorKeepModel", "saveHand", "[I", true)
  | 20 => ("CursorKeepModel", "saveText", "[I", true)
  | 21 => ("CursorKeepModel", "saveFormat", "[I", true)
  | 22 => ("CursorKeepModel", "isWritten", "[Z", true)
  | 23 => ("CursorKeepModel", "saves", "I", false)
  | 24 => ("CursorKeepModel", "locker", "[I", true)
  | 25 => ("CursorKeepModel", "savedVersion", "[I", true)
  | 26 => ("CursorKeepModel", "savedLength", "[I", true)
  | 27 => ("CursorKeepModel", "saved", "[I", true)
  | 28 => ("CursorKeepModel", "shown", "[I", true)
  | 29 => ("CursorKeepModel", "many", "I", false)
  | 30 => ("CursorKeepModel", "isLeaving", "[Z", true)
  | _ => ("CursorKeepModel", "thrown", "I", false)
def tyX11 : Nat → FieldType := fun k => match k with
  | 0 => .array .int
  | 1 => .array .int
  | 2 => .array .boolean
  | 3 => .array .int
  | 4 => .array .int
  | 5 => .array .int
  | 6 => .array .int
  | 7 => .array .int
  | 8 => .array .int
  | 9 => .array .int
  | 10 => .array .int
  | 11 => .array .int
  | 12 => .array .int
  | 13 => .array .int
  | 14 => .array .int
  | 15 => .array .int
  | 16 => .array .int
  | 17 => .array .int
  | 18 => .int
  | 19 => .array .int
  | 20 => .array .int
  | 21 => .array .int
  | 22 => .array .boolean
  | 23 => .int
  | 24 => .array .int
  | 25 => .array .int
  | 26 => .array .int
  | 27 => .array .int
  | 28 => .array .int
  | 29 => .int
  | 30 => .array .boolean
  | _ => .int
abbrev wsX110 : List Cond := u_ws RX11 TX11 32
theorem nmX11 : ∀ a, a < 32 → ∀ b, b < 32 → a ≠ b → (TX11 a).2.1 ≠ (TX11 b).2.1 := by decide +kernel
theorem tyX11_ok : ∀ k, k < 32 → parseFieldDescriptor (TX11 k).2.2.1 = some (tyX11 k) := by decide +kernel
abbrev cX11_init : ByteArray := prog_13_method_1_code
def yX11_init : MethodName := ⟨RX11, "<init>", "()V"⟩
abbrev cX11_thrown : ByteArray := prog_13_method_2_code
def yX11_thrown : MethodName := ⟨RX11, "thrown", "()I"⟩
abbrev cX11_goes : ByteArray := prog_13_method_3_code
def yX11_goes : MethodName := ⟨RX11, "goes", "(ZZZ)Z"⟩
abbrev cX11_isBelow : ByteArray := prog_13_method_4_code
def yX11_isBelow : MethodName := ⟨RX11, "isBelow", "(II)Z"⟩
abbrev cX11_isHand : ByteArray := prog_13_method_5_code
def yX11_isHand : MethodName := ⟨RX11, "isHand", "(II)Z"⟩
abbrev cX11_shows : ByteArray := prog_13_method_6_code
def yX11_shows : MethodName := ⟨RX11, "shows", "(I)V"⟩
abbrev cX11_at : ByteArray := prog_13_method_7_code
def yX11_at : MethodName := ⟨RX11, "at", "(II)I"⟩
abbrev cX11_placeOf : ByteArray := prog_13_method_8_code
def yX11_placeOf : MethodName := ⟨RX11, "placeOf", "(II)I"⟩
abbrev cX11_leaves : ByteArray := prog_13_method_9_code
def yX11_leaves : MethodName := ⟨RX11, "leaves", "(II)V"⟩
abbrev cX11_keeps : ByteArray := prog_13_method_10_code
def yX11_keeps : MethodName := ⟨RX11, "keeps", "(II)V"⟩
abbrev cX11_isLetter : ByteArray := prog_13_method_11_code
def yX11_isLetter : MethodName := ⟨RX11, "isLetter", "(I)Z"⟩
abbrev cX11_type : ByteArray := prog_13_method_12_code
def yX11_type : MethodName := ⟨RX11, "type", "(IIC)I"⟩
abbrev cX11_erase : ByteArray := prog_13_method_13_code
def yX11_erase : MethodName := ⟨RX11, "erase", "(II)I"⟩
abbrev cX11_moveTo : ByteArray := prog_13_method_14_code
def yX11_moveTo : MethodName := ⟨RX11, "moveTo", "(III)I"⟩
abbrev cX11_turns : ByteArray := prog_13_method_15_code
def yX11_turns : MethodName := ⟨RX11, "turns", "(IZ)I"⟩
abbrev cX11_undo : ByteArray := prog_13_method_16_code
def yX11_undo : MethodName := ⟨RX11, "undo", "(I)I"⟩
abbrev cX11_redo : ByteArray := prog_13_method_17_code
def yX11_redo : MethodName := ⟨RX11, "redo", "(I)I"⟩
abbrev cX11_isText : ByteArray := prog_13_method_18_code
def yX11_isText : MethodName := ⟨RX11, "isText", "(I)Z"⟩
abbrev cX11_place : ByteArray := prog_13_method_19_code
def yX11_place : MethodName := ⟨RX11, "place", "(II)I"⟩
abbrev cX11_length : ByteArray := prog_13_method_20_code
def yX11_length : MethodName := ⟨RX11, "length", "(I)I"⟩
abbrev cX11_letter : ByteArray := prog_13_method_21_code
def yX11_letter : MethodName := ⟨RX11, "letter", "(II)C"⟩
abbrev cX11_letterAnew : ByteArray := prog_13_method_22_code
def yX11_letterAnew : MethodName := ⟨RX11, "letterAnew", "(II)C"⟩
abbrev cX11_version : ByteArray := prog_13_method_23_code
def yX11_version : MethodName := ⟨RX11, "version", "(I)I"⟩
abbrev cX11_signAt : ByteArray := prog_13_method_24_code
def yX11_signAt : MethodName := ⟨RX11, "signAt", "(II)I"⟩
abbrev cX11_wants : ByteArray := prog_13_method_25_code
def yX11_wants : MethodName := ⟨RX11, "wants", "(III)V"⟩
abbrev cX11_nextEnd : ByteArray := prog_13_method_26_code
def yX11_nextEnd : MethodName := ⟨RX11, "nextEnd", "(II)I"⟩
abbrev cX11_wantsLetters : ByteArray := prog_13_method_27_code
def yX11_wantsLetters : MethodName := ⟨RX11, "wantsLetters", "(II)V"⟩
abbrev cX11_wantsLines : ByteArray := prog_13_method_28_code
def yX11_wantsLines : MethodName := ⟨RX11, "wantsLines", "(II)V"⟩
abbrev cX11_marks : ByteArray := prog_13_method_29_code
def yX11_marks : MethodName := ⟨RX11, "marks", "(I)V"⟩
abbrev cX11_nearest : ByteArray := prog_13_method_30_code
def yX11_nearest : MethodName := ⟨RX11, "nearest", "(III)I"⟩
abbrev cX11_ask : ByteArray := prog_13_method_31_code
def yX11_ask : MethodName := ⟨RX11, "ask", "(III)I"⟩
abbrev cX11_isFormat : ByteArray := prog_13_method_32_code
def yX11_isFormat : MethodName := ⟨RX11, "isFormat", "(I)Z"⟩
abbrev cX11_hasCursor : ByteArray := prog_13_method_33_code
def yX11_hasCursor : MethodName := ⟨RX11, "hasCursor", "(II)Z"⟩
abbrev cX11_isSpared : ByteArray := prog_13_method_34_code
def yX11_isSpared : MethodName := ⟨RX11, "isSpared", "(II)Z"⟩
abbrev cX11_sparedNow : ByteArray := prog_13_method_35_code
def yX11_sparedNow : MethodName := ⟨RX11, "sparedNow", "(I)I"⟩
abbrev cX11_come : ByteArray := prog_13_method_36_code
def yX11_come : MethodName := ⟨RX11, "come", "(I)I"⟩
abbrev cX11_drop : ByteArray := prog_13_method_37_code
def yX11_drop : MethodName := ⟨RX11, "drop", "(I)I"⟩
abbrev cX11_state : ByteArray := prog_13_method_38_code
def yX11_state : MethodName := ⟨RX11, "state", "(I)I"⟩
abbrev cX11_spared : ByteArray := prog_13_method_39_code
def yX11_spared : MethodName := ⟨RX11, "spared", "(I)I"⟩
abbrev cX11_lock : ByteArray := prog_13_method_40_code
def yX11_lock : MethodName := ⟨RX11, "lock", "(II)Z"⟩
abbrev cX11_save : ByteArray := prog_13_method_41_code
def yX11_save : MethodName := ⟨RX11, "save", "(III)I"⟩
abbrev cX11_canWrite : ByteArray := prog_13_method_42_code
def yX11_canWrite : MethodName := ⟨RX11, "canWrite", "(I)Z"⟩
abbrev cX11_write : ByteArray := prog_13_method_43_code
def yX11_write : MethodName := ⟨RX11, "write", "()I"⟩
abbrev cX11_queued : ByteArray := prog_13_method_44_code
def yX11_queued : MethodName := ⟨RX11, "queued", "()I"⟩
abbrev cX11_savedVersion : ByteArray := prog_13_method_45_code
def yX11_savedVersion : MethodName := ⟨RX11, "savedVersion", "(I)I"⟩
abbrev cX11_savedLength : ByteArray := prog_13_method_46_code
def yX11_savedLength : MethodName := ⟨RX11, "savedLength", "(I)I"⟩
abbrev cX11_savedLetter : ByteArray := prog_13_method_47_code
def yX11_savedLetter : MethodName := ⟨RX11, "savedLetter", "(II)C"⟩
def RJx145de : String := "java/io/Serializable"
def TJx145de : u_T := fun k => match k with
  | _ => ("", "", "", false)
def tyJx145de : Nat → FieldType := fun k => match k with
  | _ => .int
abbrev wsJx145de0 : List Cond := u_ws RJx145de TJx145de 0
theorem nmJx145de : ∀ a, a < 0 → ∀ b, b < 0 → a ≠ b → (TJx145de a).2.1 ≠ (TJx145de b).2.1 := by decide +kernel
theorem tyJx145de_ok : ∀ k, k < 0 → parseFieldDescriptor (TJx145de k).2.2.1 = some (tyJx145de k) := by decide +kernel
def RJx8e188 : String := "java/lang/Cloneable"
def TJx8e188 : u_T := fun k => match k with
  | _ => ("", "", "", false)
def tyJx8e188 : Nat → FieldType := fun k => match k with
  | _ => .int
abbrev wsJx8e1880 : List Cond := u_ws RJx8e188 TJx8e188 0
theorem nmJx8e188 : ∀ a, a < 0 → ∀ b, b < 0 → a ≠ b → (TJx8e188 a).2.1 ≠ (TJx8e188 b).2.1 := by decide +kernel
theorem tyJx8e188_ok : ∀ k, k < 0 → parseFieldDescriptor (TJx8e188 k).2.2.1 = some (tyJx8e188 k) := by decide +kernel
def RJxab1ab : String := "java/lang/Iterable"
def TJxab1ab : u_T := fun k => match k with
  | _ => ("", "", "", false)
def tyJxab1ab : Nat → FieldType := fun k => match k with
  | _ => .int
abbrev wsJxab1ab0 : List Cond := u_ws RJxab1ab TJxab1ab 0
theorem nmJxab1ab : ∀ a, a < 0 → ∀ b, b < 0 → a ≠ b → (TJxab1ab a).2.1 ≠ (TJxab1ab b).2.1 := by decide +kernel
theorem tyJxab1ab_ok : ∀ k, k < 0 → parseFieldDescriptor (TJxab1ab k).2.2.1 = some (tyJxab1ab k) := by decide +kernel
def RJ9 : String := "java/lang/Math"
def TJ9 : u_T := fun k => match k with
  | _ => ("", "", "", false)
def tyJ9 : Nat → FieldType := fun k => match k with
  | _ => .int
abbrev wsJ90 : List Cond := u_ws RJ9 TJ9 0
theorem nmJ9 : ∀ a, a < 0 → ∀ b, b < 0 → a ≠ b → (TJ9 a).2.1 ≠ (TJ9 b).2.1 := by decide +kernel
theorem tyJ9_ok : ∀ k, k < 0 → parseFieldDescriptor (TJ9 k).2.2.1 = some (tyJ9 k) := by decide +kernel
abbrev cJ9_max_7cf53 : ByteArray := prog_21_method_65_code
def yJ9_max_7cf53 : MethodName := ⟨RJ9, "max", "(II)I"⟩
abbrev cJ9_min_7cf53 : ByteArray := prog_21_method_69_code
def yJ9_min_7cf53 : MethodName := ⟨RJ9, "min", "(II)I"⟩
def RJ0 : String := "java/lang/String"
def TJ0 : u_T := fun k => match k with
  | _ => ("", "", "", false)
def tyJ0 : Nat → FieldType := fun k => match k with
  | _ => .int
abbrev wsJ00 : List Cond := u_ws RJ0 TJ0 0
theorem nmJ0 : ∀ a, a < 0 → ∀ b, b < 0 → a ≠ b → (TJ0 a).2.1 ≠ (TJ0 b).2.1 := by decide +kernel
theorem tyJ0_ok : ∀ k, k < 0 → parseFieldDescriptor (TJ0 k).2.2.1 = some (tyJ0 k) := by decide +kernel
def RJ10 : String := "java/lang/System"
def TJ10 : u_T := fun k => match k with
  | _ => ("", "", "", false)
def tyJ10 : Nat → FieldType := fun k => match k with
  | _ => .int
abbrev wsJ100 : List Cond := u_ws RJ10 TJ10 0
theorem nmJ10 : ∀ a, a < 0 → ∀ b, b < 0 → a ≠ b → (TJ10 a).2.1 ≠ (TJ10 b).2.1 := by decide +kernel
theorem tyJ10_ok : ∀ k, k < 0 → parseFieldDescriptor (TJ10 k).2.2.1 = some (tyJ10 k) := by decide +kernel
def RJxa1e45 : String := "java/util/AbstractCollection"
def TJxa1e45 : u_T := fun k => match k with
  | _ => ("", "", "", false)
def tyJxa1e45 : Nat → FieldType := fun k => match k with
  | _ => .int
abbrev wsJxa1e450 : List Cond := u_ws RJxa1e45 TJxa1e45 0
theorem nmJxa1e45 : ∀ a, a < 0 → ∀ b, b < 0 → a ≠ b → (TJxa1e45 a).2.1 ≠ (TJxa1e45 b).2.1 := by decide +kernel
theorem tyJxa1e45_ok : ∀ k, k < 0 → parseFieldDescriptor (TJxa1e45 k).2.2.1 = some (tyJxa1e45 k) := by decide +kernel
abbrev cJxa1e45_init_da8c8 : ByteArray := prog_26_method_1_code
def yJxa1e45_init_da8c8 : MethodName := ⟨RJxa1e45, "<init>", "()V"⟩
def RJxc12de : String := "java/util/AbstractList"
def TJxc12de : u_T := fun k => match k with
  | _ => ("", "", "", false)
def tyJxc12de : Nat → FieldType := fun k => match k with
  | _ => .int
abbrev wsJxc12de0 : List Cond := u_ws RJxc12de TJxc12de 0
theorem nmJxc12de : ∀ a, a < 0 → ∀ b, b < 0 → a ≠ b → (TJxc12de a).2.1 ≠ (TJxc12de b).2.1 := by decide +kernel
theorem tyJxc12de_ok : ∀ k, k < 0 → parseFieldDescriptor (TJxc12de k).2.2.1 = some (tyJxc12de k) := by decide +kernel
abbrev cJxc12de_init_da8c8 : ByteArray := prog_27_method_1_code
def yJxc12de_init_da8c8 : MethodName := ⟨RJxc12de, "<init>", "()V"⟩
def RJx4a65c : String := "java/util/ArrayList"
def TJx4a65c : u_T := fun k => match k with
  | 0 => ("java/util/AbstractList", "modCount", "I", false)
  | 1 => ("java/util/ArrayList", "elementData", "[Ljava/lang/Object;", false)
  | _ => ("java/util/ArrayList", "size", "I", false)
def tyJx4a65c : Nat → FieldType := fun k => match k with
  | 0 => .int
  | 1 => .array (.object "java/lang/Object")
  | _ => .int
abbrev wsJx4a65c0 : List Cond := u_ws RJx4a65c TJx4a65c 3
theorem nmJx4a65c : ∀ a, a < 3 → ∀ b, b < 3 → a ≠ b → (TJx4a65c a).2.1 ≠ (TJx4a65c b).2.1 := by decide +kernel
theorem tyJx4a65c_ok : ∀ k, k < 3 → parseFieldDescriptor (TJx4a65c k).2.2.1 = some (tyJx4a65c k) := by decide +kernel
abbrev cJx4a65c_init_da8c8 : ByteArray := prog_28_method_2_code
def yJx4a65c_init_da8c8 : MethodName := ⟨RJx4a65c, "<init>", "()V"⟩
abbrev cJx4a65c_grow_92f84 : ByteArray := prog_28_method_6_code
def yJx4a65c_grow_92f84 : MethodName := ⟨RJx4a65c, "grow", "(I)[Ljava/lang/Object;"⟩
abbrev cJx4a65c_grow_d5877 : ByteArray := prog_28_method_7_code
def yJx4a65c_grow_d5877 : MethodName := ⟨RJx4a65c, "grow", "()[Ljava/lang/Object;"⟩
abbrev cJx4a65c_size_8abf5 : ByteArray := prog_28_method_8_code
def yJx4a65c_size_8abf5 : MethodName := ⟨RJx4a65c, "size", "()I"⟩
abbrev cJx4a65c_elementData_915e3 : ByteArray := prog_28_method_18_code
def yJx4a65c_elementData_915e3 : MethodName := ⟨RJx4a65c, "elementData", "(I)Ljava/lang/Object;"⟩
abbrev cJx4a65c_get_915e3 : ByteArray := prog_28_method_20_code
def yJx4a65c_get_915e3 : MethodName := ⟨RJx4a65c, "get", "(I)Ljava/lang/Object;"⟩
abbrev cJx4a65c_add_72be8 : ByteArray := prog_28_method_24_code
def yJx4a65c_add_72be8 : MethodName := ⟨RJx4a65c, "add", "(Ljava/lang/Object;[Ljava/lang/Object;I)V"⟩
abbrev cJx4a65c_add_9ea2d : ByteArray := prog_28_method_25_code
def yJx4a65c_add_9ea2d : MethodName := ⟨RJx4a65c, "add", "(Ljava/lang/Object;)Z"⟩
abbrev cJx4a65c_remove_915e3 : ByteArray := prog_28_method_29_code
def yJx4a65c_remove_915e3 : MethodName := ⟨RJx4a65c, "remove", "(I)Ljava/lang/Object;"⟩
abbrev cJx4a65c_fastRemove_b59b0 : ByteArray := prog_28_method_39_code
def yJx4a65c_fastRemove_b59b0 : MethodName := ⟨RJx4a65c, "fastRemove", "([Ljava/lang/Object;I)V"⟩
def RJ7 : String := "java/util/Arrays"
def TJ7 : u_T := fun k => match k with
  | _ => ("", "", "", false)
def tyJ7 : Nat → FieldType := fun k => match k with
  | _ => .int
abbrev wsJ70 : List Cond := u_ws RJ7 TJ7 0
theorem nmJ7 : ∀ a, a < 0 → ∀ b, b < 0 → a ≠ b → (TJ7 a).2.1 ≠ (TJ7 b).2.1 := by decide +kernel
theorem tyJ7_ok : ∀ k, k < 0 → parseFieldDescriptor (TJ7 k).2.2.1 = some (tyJ7 k) := by decide +kernel
abbrev cJ7_copyOf_1904c : ByteArray := prog_29_method_119_code
def yJ7_copyOf_1904c : MethodName := ⟨RJ7, "copyOf", "([Ljava/lang/Object;I)[Ljava/lang/Object;"⟩
abbrev cJ7_copyOf_6403c : ByteArray := prog_29_method_120_code
def yJ7_copyOf_6403c : MethodName := ⟨RJ7, "copyOf", "([Ljava/lang/Object;ILjava/lang/Class;)[Ljava/lang/Object;"⟩
def RJx5ef63 : String := "java/util/Collection"
def TJx5ef63 : u_T := fun k => match k with
  | _ => ("", "", "", false)
def tyJx5ef63 : Nat → FieldType := fun k => match k with
  | _ => .int
abbrev wsJx5ef630 : List Cond := u_ws RJx5ef63 TJx5ef63 0
theorem nmJx5ef63 : ∀ a, a < 0 → ∀ b, b < 0 → a ≠ b → (TJx5ef63 a).2.1 ≠ (TJx5ef63 b).2.1 := by decide +kernel
theorem tyJx5ef63_ok : ∀ k, k < 0 → parseFieldDescriptor (TJx5ef63 k).2.2.1 = some (tyJx5ef63 k) := by decide +kernel
def RJxbd725 : String := "java/util/List"
def TJxbd725 : u_T := fun k => match k with
  | _ => ("", "", "", false)
def tyJxbd725 : Nat → FieldType := fun k => match k with
  | _ => .int
abbrev wsJxbd7250 : List Cond := u_ws RJxbd725 TJxbd725 0
theorem nmJxbd725 : ∀ a, a < 0 → ∀ b, b < 0 → a ≠ b → (TJxbd725 a).2.1 ≠ (TJxbd725 b).2.1 := by decide +kernel
theorem tyJxbd725_ok : ∀ k, k < 0 → parseFieldDescriptor (TJxbd725 k).2.2.1 = some (tyJxbd725 k) := by decide +kernel
def RJ15 : String := "java/util/Objects"
def TJ15 : u_T := fun k => match k with
  | _ => ("", "", "", false)
def tyJ15 : Nat → FieldType := fun k => match k with
  | _ => .int
abbrev wsJ150 : List Cond := u_ws RJ15 TJ15 0
theorem nmJ15 : ∀ a, a < 0 → ∀ b, b < 0 → a ≠ b → (TJ15 a).2.1 ≠ (TJ15 b).2.1 := by decide +kernel
theorem tyJ15_ok : ∀ k, k < 0 → parseFieldDescriptor (TJ15 k).2.2.1 = some (tyJ15 k) := by decide +kernel
abbrev cJ15_checkIndex_7cf53 : ByteArray := prog_32_method_17_code
def yJ15_checkIndex_7cf53 : MethodName := ⟨RJ15, "checkIndex", "(II)I"⟩
def RJxf0a74 : String := "java/util/RandomAccess"
def TJxf0a74 : u_T := fun k => match k with
  | _ => ("", "", "", false)
def tyJxf0a74 : Nat → FieldType := fun k => match k with
  | _ => .int
abbrev wsJxf0a740 : List Cond := u_ws RJxf0a74 TJxf0a74 0
theorem nmJxf0a74 : ∀ a, a < 0 → ∀ b, b < 0 → a ≠ b → (TJxf0a74 a).2.1 ≠ (TJxf0a74 b).2.1 := by decide +kernel
theorem tyJxf0a74_ok : ∀ k, k < 0 → parseFieldDescriptor (TJxf0a74 k).2.2.1 = some (tyJxf0a74 k) := by decide +kernel
def RJxa66e6 : String := "java/util/SequencedCollection"
def TJxa66e6 : u_T := fun k => match k with
  | _ => ("", "", "", false)
def tyJxa66e6 : Nat → FieldType := fun k => match k with
  | _ => .int
abbrev wsJxa66e60 : List Cond := u_ws RJxa66e6 TJxa66e6 0
theorem nmJxa66e6 : ∀ a, a < 0 → ∀ b, b < 0 → a ≠ b → (TJxa66e6 a).2.1 ≠ (TJxa66e6 b).2.1 := by decide +kernel
theorem tyJxa66e6_ok : ∀ k, k < 0 → parseFieldDescriptor (TJxa66e6 k).2.2.1 = some (tyJxa66e6 k) := by decide +kernel
def RJ8 : String := "jdk/internal/util/ArraysSupport"
def TJ8 : u_T := fun k => match k with
  | _ => ("", "", "", false)
def tyJ8 : Nat → FieldType := fun k => match k with
  | _ => .int
abbrev wsJ80 : List Cond := u_ws RJ8 TJ8 0
theorem nmJ8 : ∀ a, a < 0 → ∀ b, b < 0 → a ≠ b → (TJ8 a).2.1 ≠ (TJ8 b).2.1 := by decide +kernel
theorem tyJ8_ok : ∀ k, k < 0 → parseFieldDescriptor (TJ8 k).2.2.1 = some (tyJ8 k) := by decide +kernel
abbrev cJ8_newLength_cabcc : ByteArray := prog_35_method_27_code
def yJ8_newLength_cabcc : MethodName := ⟨RJ8, "newLength", "(III)I"⟩
abbrev cJ8_hugeLength_7cf53 : ByteArray := prog_35_method_28_code
def yJ8_hugeLength_7cf53 : MethodName := ⟨RJ8, "hugeLength", "(II)I"⟩
def RJ3 : String := "jdk/internal/util/Preconditions"
def TJ3 : u_T := fun k => match k with
  | _ => ("", "", "", false)
def tyJ3 : Nat → FieldType := fun k => match k with
  | _ => .int
abbrev wsJ30 : List Cond := u_ws RJ3 TJ3 0
theorem nmJ3 : ∀ a, a < 0 → ∀ b, b < 0 → a ≠ b → (TJ3 a).2.1 ≠ (TJ3 b).2.1 := by decide +kernel
theorem tyJ3_ok : ∀ k, k < 0 → parseFieldDescriptor (TJ3 k).2.2.1 = some (tyJ3 k) := by decide +kernel
abbrev cJ3_checkIndex_8e157 : ByteArray := prog_36_method_11_code
def yJ3_checkIndex_8e157 : MethodName := ⟨RJ3, "checkIndex", "(IILjava/util/function/BiFunction;)I"⟩
def RL : String := "CursorKeepLaw"
abbrev cL_type : ByteArray := method_3_code
def yL_type : MethodName := ⟨RL, "type", "(LCursorKeep;IIC[J)I"⟩
abbrev cL_erase : ByteArray := method_4_code
def yL_erase : MethodName := ⟨RL, "erase", "(LCursorKeep;II[J)I"⟩
abbrev cL_moveTo : ByteArray := method_5_code
def yL_moveTo : MethodName := ⟨RL, "moveTo", "(LCursorKeep;III[J)I"⟩
abbrev cL_undo : ByteArray := method_6_code
def yL_undo : MethodName := ⟨RL, "undo", "(LCursorKeep;I[J)I"⟩
abbrev cL_redo : ByteArray := method_7_code
def yL_redo : MethodName := ⟨RL, "redo", "(LCursorKeep;I[J)I"⟩
abbrev cL_place : ByteArray := method_8_code
def yL_place : MethodName := ⟨RL, "place", "(LCursorKeep;II[J)I"⟩
abbrev cL_length : ByteArray := method_9_code
def yL_length : MethodName := ⟨RL, "length", "(LCursorKeep;I[J)I"⟩
abbrev cL_letter : ByteArray := method_10_code
def yL_letter : MethodName := ⟨RL, "letter", "(LCursorKeep;II[J)I"⟩
abbrev cL_letterAnew : ByteArray := method_11_code
def yL_letterAnew : MethodName := ⟨RL, "letterAnew", "(LCursorKeep;II[J)I"⟩
abbrev cL_version : ByteArray := method_12_code
def yL_version : MethodName := ⟨RL, "version", "(LCursorKeep;I[J)I"⟩
abbrev cL_ask : ByteArray := method_13_code
def yL_ask : MethodName := ⟨RL, "ask", "(LCursorKeep;III[J)I"⟩
abbrev cL_come : ByteArray := method_14_code
def yL_come : MethodName := ⟨RL, "come", "(LCursorKeep;I[J)I"⟩
abbrev cL_drop : ByteArray := method_15_code
def yL_drop : MethodName := ⟨RL, "drop", "(LCursorKeep;I[J)I"⟩
abbrev cL_state : ByteArray := method_16_code
def yL_state : MethodName := ⟨RL, "state", "(LCursorKeep;I[J)I"⟩
abbrev cL_spared : ByteArray := method_17_code
def yL_spared : MethodName := ⟨RL, "spared", "(LCursorKeep;I[J)I"⟩
abbrev cL_lock : ByteArray := method_18_code
def yL_lock : MethodName := ⟨RL, "lock", "(LCursorKeep;II[J)I"⟩
abbrev cL_save : ByteArray := method_19_code
def yL_save : MethodName := ⟨RL, "save", "(LCursorKeep;III[J)I"⟩
abbrev cL_savedVersion : ByteArray := method_20_code
def yL_savedVersion : MethodName := ⟨RL, "savedVersion", "(LCursorKeep;I[J)I"⟩
abbrev cL_savedLength : ByteArray := method_21_code
def yL_savedLength : MethodName := ⟨RL, "savedLength", "(LCursorKeep;I[J)I"⟩
abbrev cL_savedLetter : ByteArray := method_22_code
def yL_savedLetter : MethodName := ⟨RL, "savedLetter", "(LCursorKeep;II[J)I"⟩
abbrev cL_law : ByteArray := code
def yL_law : MethodName := ⟨RL, "law", "([I)Z"⟩
set_option maxRecDepth 20000 in
theorem dX0_init_0 : decode cX0_init 0 = .ok (.aload_n 0, 1) := by decide +kernel
theorem dX0_init_1 : decode cX0_init 1 = .ok (.invokespecial 1, 3) := by decide +kernel
theorem dX0_init_4 : decode cX0_init 4 = .ok (.aload_n 0, 1) := by decide +kernel
theorem dX0_init_5 : decode cX0_init 5 = .ok (.aload_n 1, 1) := by decide +kernel
theorem dX0_init_6 : decode cX0_init 6 = .ok (.putfield 7, 3) := by decide +kernel
theorem dX0_init_9 : decode cX0_init 9 = .ok (.aload_n 0, 1) := by decide +kernel
theorem dX0_init_10 : decode cX0_init 10 = .ok (.iload_n 2, 1) := by decide +kernel
theorem dX0_init_11 : decode cX0_init 11 = .ok (.putfield 13, 3) := by decide +kernel
theorem dX0_init_14 : decode cX0_init 14 = .ok (.aload_n 0, 1) := by decide +kernel
theorem dX0_init_15 : decode cX0_init 15 = .ok (.iload_n 3, 1) := by decide +kernel
theorem dX0_init_16 : decode cX0_init 16 = .ok (.putfield 17, 3) := by decide +kernel
theorem dX0_init_19 : decode cX0_init 19 = .ok (.return_, 1) := by decide +kernel
theorem dX1_init_0 : decode cX1_init 0 = .ok (.aload_n 0, 1) := by decide +kernel
theorem dX1_init_1 : decode cX1_init 1 = .ok (.invokespecial 3, 3) := by decide +kernel
theorem dX1_init_4 : decode cX1_init 4 = .ok (.aload_n 0, 1) := by decide +kernel
theorem dX1_init_5 : decode cX1_init 5 = .ok (.iload_n 1, 1) := by decide +kernel
theorem dX1_init_6 : decode cX1_init 6 = .ok (.putfield 9, 3) := by decide +kernel
theorem dX1_init_9 : decode cX1_init 9 = .ok (.aload_n 0, 1) := by decide +kernel
theorem dX1_init_10 : decode cX1_init 10 = .ok (.iload_n 2, 1) := by decide +kernel
theorem dX1_init_11 : decode cX1_init 11 = .ok (.putfield 15, 3) := by decide +kernel
theorem dX1_init_14 : decode cX1_init 14 = .ok (.aload_n 0, 1) := by decide +kernel
theorem dX1_init_15 : decode cX1_init 15 = .ok (.iload_n 3, 1) := by decide +kernel
theorem dX1_init_16 : decode cX1_init 16 = .ok (.putfield 19, 3) := by decide +kernel
theorem dX1_init_19 : decode cX1_init 19 = .ok (.aload_n 0, 1) := by decide +kernel
theorem dX1_init_20 : decode cX1_init 20 = .ok (.iload 4, 2) := by decide +kernel
theorem dX1_init_22 : decode cX1_init 22 = .ok (.putfield 22, 3) := by decide +kernel
theorem dX1_init_25 : decode cX1_init 25 = .ok (.aload_n 0, 1) := by decide +kernel
theorem dX1_init_26 : decode cX1_init 26 = .ok (.iload 5, 2) := by decide +kernel
theorem dX1_init_28 : decode cX1_init 28 = .ok (.putfield 25, 3) := by decide +kernel
theorem dX1_init_31 : decode cX1_init 31 = .ok (.return_, 1) := by decide +kernel
theorem dX1_goes_0 : decode cX1_goes 0 = .ok (.aload_n 0, 1) := by decide +kernel
theorem dX1_goes_1 : decode cX1_goes 1 = .ok (.getfield 19, 3) := by decide +kernel
theorem dX1_goes_4 : decode cX1_goes 4 = .ok (.iconst 1, 1) := by decide +kernel
theorem dX1_goes_5 : decode cX1_goes 5 = .ok (.if_icmp .ne 7, 3) := by decide +kernel
theorem dX1_goes_8 : decode cX1_goes 8 = .ok (.iconst 1, 1) := by decide +kernel
theorem dX1_goes_9 : decode cX1_goes 9 = .ok (.goto 4, 3) := by decide +kernel
theorem dX1_goes_12 : decode cX1_goes 12 = .ok (.iconst 0, 1) := by decide +kernel
theorem dX1_goes_13 : decode cX1_goes 13 = .ok (.ireturn, 1) := by decide +kernel
theorem dX2_init_0 : decode cX2_init 0 = .ok (.aload_n 0, 1) := by decide +kernel
theorem dX2_init_1 : decode cX2_init 1 = .ok (.invokespecial 1, 3) := by decide +kernel
theorem dX2_init_4 : decode cX2_init 4 = .ok (.aload_n 0, 1) := by decide +kernel
theorem dX2_init_5 : decode cX2_init 5 = .ok (.iload_n 1, 1) := by decide +kernel
theorem dX2_init_6 : decode cX2_init 6 = .ok (.putfield 7, 3) := by decide +kernel
theorem dX2_init_9 : decode cX2_init 9 = .ok (.aload_n 0, 1) := by decide +kernel
theorem dX2_init_10 : decode cX2_init 10 = .ok (.iload_n 2, 1) := by decide +kernel
theorem dX2_init_11 : decode cX2_init 11 = .ok (.putfield 13, 3) := by decide +kernel
theorem dX2_init_14 : decode cX2_init 14 = .ok (.aload_n 0, 1) := by decide +kernel
theorem dX2_init_15 : decode cX2_init 15 = .ok (.iload_n 3, 1) := by decide +kernel
theorem dX2_init_16 : decode cX2_init 16 = .ok (.putfield 16, 3) := by decide +kernel
theorem dX2_init_19 : decode cX2_init 19 = .ok (.return_, 1) := by decide +kernel
theorem dX2_doTo_0 : decode cX2_doTo 0 = .ok (.aload_n 0, 1) := by decide +kernel
theorem dX2_doTo_1 : decode cX2_doTo 1 = .ok (.getfield 7, 3) := by decide +kernel
theorem dX2_doTo_4 : decode cX2_doTo 4 = .ok (.tableswitch 67 0 2 #[28, 43, 55], 28) := by decide +kernel
theorem dX2_doTo_32 : decode cX2_doTo 32 = .ok (.aload_n 1, 1) := by decide +kernel
theorem dX2_doTo_33 : decode cX2_doTo 33 = .ok (.aload_n 0, 1) := by decide +kernel
theorem dX2_doTo_34 : decode cX2_doTo 34 = .ok (.getfield 13, 3) := by decide +kernel
theorem dX2_doTo_37 : decode cX2_doTo 37 = .ok (.aload_n 0, 1) := by decide +kernel
theorem dX2_doTo_38 : decode cX2_doTo 38 = .ok (.getfield 16, 3) := by decide +kernel
theorem dX2_doTo_41 : decode cX2_doTo 41 = .ok (.invokevirtual 20, 3) := by decide +kernel
theorem dX2_doTo_44 : decode cX2_doTo 44 = .ok (.goto 39, 3) := by decide +kernel
theorem dX2_doTo_47 : decode cX2_doTo 47 = .ok (.aload_n 1, 1) := by decide +kernel
theorem dX2_doTo_48 : decode cX2_doTo 48 = .ok (.aload_n 0, 1) := by decide +kernel
theorem dX2_doTo_49 : decode cX2_doTo 49 = .ok (.getfield 13, 3) := by decide +kernel
theorem dX2_doTo_52 : decode cX2_doTo 52 = .ok (.iconst 0, 1) := by decide +kernel
theorem dX2_doTo_53 : decode cX2_doTo 53 = .ok (.invokevirtual 26, 3) := by decide +kernel
theorem dX2_doTo_56 : decode cX2_doTo 56 = .ok (.goto 27, 3) := by decide +kernel
theorem dX2_doTo_59 : decode cX2_doTo 59 = .ok (.aload_n 1, 1) := by decide +kernel
theorem dX2_doTo_60 : decode cX2_doTo 60 = .ok (.aload_n 0, 1) := by decide +kernel
theorem dX2_doTo_61 : decode cX2_doTo 61 = .ok (.getfield 13, 3) := by decide +kernel
theorem dX2_doTo_64 : decode cX2_doTo 64 = .ok (.iconst 1, 1) := by decide +kernel
theorem dX2_doTo_65 : decode cX2_doTo 65 = .ok (.invokevirtual 26, 3) := by decide +kernel
theorem dX2_doTo_68 : decode cX2_doTo 68 = .ok (.goto 15, 3) := by decide +kernel
theorem dX2_doTo_71 : decode cX2_doTo 71 = .ok (.aload_n 1, 1) := by decide +kernel
theorem dX2_doTo_72 : decode cX2_doTo 72 = .ok (.aload_n 0, 1) := by decide +kernel
theorem dX2_doTo_73 : decode cX2_doTo 73 = .ok (.getfield 13, 3) := by decide +kernel
theorem dX2_doTo_76 : decode cX2_doTo 76 = .ok (.aload_n 0, 1) := by decide +kernel
theorem dX2_doTo_77 : decode cX2_doTo 77 = .ok (.getfield 16, 3) := by decide +kernel
theorem dX2_doTo_80 : decode cX2_doTo 80 = .ok (.invokevirtual 30, 3) := by decide +kernel
theorem dX2_doTo_83 : decode cX2_doTo 83 = .ok (.return_, 1) := by decide +kernel
theorem dX3_init_0 : decode cX3_init 0 = .ok (.aload_n 0, 1) := by decide +kernel
theorem dX3_init_1 : decode cX3_init 1 = .ok (.invokespecial 3, 3) := by decide +kernel
theorem dX3_init_4 : decode cX3_init 4 = .ok (.aload_n 0, 1) := by decide +kernel
theorem dX3_init_5 : decode cX3_init 5 = .ok (.iconst 0, 1) := by decide +kernel
theorem dX3_init_6 : decode cX3_init 6 = .ok (.putfield 9, 3) := by decide +kernel
theorem dX3_init_9 : decode cX3_init 9 = .ok (.aload_n 0, 1) := by decide +kernel
theorem dX3_init_10 : decode cX3_init 10 = .ok (.aload_n 1, 1) := by decide +kernel
theorem dX3_init_11 : decode cX3_init 11 = .ok (.putfield 15, 3) := by decide +kernel
theorem dX3_init_14 : decode cX3_init 14 = .ok (.aload_n 0, 1) := by decide +kernel
theorem dX3_init_15 : decode cX3_init 15 = .ok (.aload_n 2, 1) := by decide +kernel
theorem dX3_init_16 : decode cX3_init 16 = .ok (.putfield 19, 3) := by decide +kernel
theorem dX3_init_19 : decode cX3_init 19 = .ok (.return_, 1) := by decide +kernel
theorem dX3_end_0 : decode cX3_end 0 = .ok (.aload_n 0, 1) := by decide +kernel
theorem dX3_end_1 : decode cX3_end 1 = .ok (.iload_n 1, 1) := by decide +kernel
theorem dX3_end_2 : decode cX3_end 2 = .ok (.putfield 9, 3) := by decide +kernel
theorem dX3_end_5 : decode cX3_end 5 = .ok (.aload_n 0, 1) := by decide +kernel
theorem dX3_end_6 : decode cX3_end 6 = .ok (.iload_n 2, 1) := by decide +kernel
theorem dX3_end_7 : decode cX3_end 7 = .ok (.putfield 23, 3) := by decide +kernel
theorem dX3_end_10 : decode cX3_end 10 = .ok (.return_, 1) := by decide +kernel
theorem dX3_judge_0 : decode cX3_judge 0 = .ok (.aload_n 1, 1) := by decide +kernel
theorem dX3_judge_1 : decode cX3_judge 1 = .ok (.invokevirtual 26, 3) := by decide +kernel
theorem dX3_judge_4 : decode cX3_judge 4 = .ok (.iconst 0, 1) := by decide +kernel
theorem dX3_judge_5 : decode cX3_judge 5 = .ok (.istore_n 2, 1) := by decide +kernel
theorem dX3_judge_6 : decode cX3_judge 6 = .ok (.iload_n 2, 1) := by decide +kernel
theorem dX3_judge_7 : decode cX3_judge 7 = .ok (.aload_n 0, 1) := by decide +kernel
theorem dX3_judge_8 : decode cX3_judge 8 = .ok (.getfield 19, 3) := by decide +kernel
theorem dX3_judge_11 : decode cX3_judge 11 = .ok (.invokeinterface 31 1, 5) := by decide +kernel
theorem dX3_judge_16 : decode cX3_judge 16 = .ok (.if_icmp .ge 48, 3) := by decide +kernel
theorem dX3_judge_19 : decode cX3_judge 19 = .ok (.aload_n 0, 1) := by decide +kernel
theorem dX3_judge_20 : decode cX3_judge 20 = .ok (.getfield 19, 3) := by decide +kernel
theorem dX3_judge_23 : decode cX3_judge 23 = .ok (.iload_n 2, 1) := by decide +kernel
theorem dX3_judge_24 : decode cX3_judge 24 = .ok (.invokeinterface 37 2, 5) := by decide +kernel
theorem dX3_judge_29 : decode cX3_judge 29 = .ok (.checkcast 41, 3) := by decide +kernel
theorem dX3_judge_32 : decode cX3_judge 32 = .ok (.invokevirtual 43, 3) := by decide +kernel
theorem dX3_judge_35 : decode cX3_judge 35 = .ok (.ifCond .eq 23, 3) := by decide +kernel
theorem dX3_judge_38 : decode cX3_judge 38 = .ok (.aload_n 1, 1) := by decide +kernel
theorem dX3_judge_39 : decode cX3_judge 39 = .ok (.aload_n 0, 1) := by decide +kernel
theorem dX3_judge_40 : decode cX3_judge 40 = .ok (.getfield 19, 3) := by decide +kernel
theorem dX3_judge_43 : decode cX3_judge 43 = .ok (.iload_n 2, 1) := by decide +kernel
theorem dX3_judge_44 : decode cX3_judge 44 = .ok (.invokeinterface 37 2, 5) := by decide +kernel
theorem dX3_judge_49 : decode cX3_judge 49 = .ok (.checkcast 41, 3) := by decide +kernel
theorem dX3_judge_52 : decode cX3_judge 52 = .ok (.getfield 47, 3) := by decide +kernel
theorem dX3_judge_55 : decode cX3_judge 55 = .ok (.invokevirtual 50, 3) := by decide +kernel
theorem dX3_judge_58 : decode cX3_judge 58 = .ok (.iinc 2 1, 3) := by decide +kernel
theorem dX3_judge_61 : decode cX3_judge 61 = .ok (.goto (-55), 3) := by decide +kernel
theorem dX3_judge_64 : decode cX3_judge 64 = .ok (.aload_n 1, 1) := by decide +kernel
theorem dX3_judge_65 : decode cX3_judge 65 = .ok (.aload_n 0, 1) := by decide +kernel
theorem dX3_judge_66 : decode cX3_judge 66 = .ok (.getfield 15, 3) := by decide +kernel
theorem dX3_judge_69 : decode cX3_judge 69 = .ok (.getfield 54, 3) := by decide +kernel
theorem dX3_judge_72 : decode cX3_judge 72 = .ok (.invokevirtual 60, 3) := by decide +kernel
theorem dX3_judge_75 : decode cX3_judge 75 = .ok (.iconst 0, 1) := by decide +kernel
theorem dX3_judge_76 : decode cX3_judge 76 = .ok (.istore_n 2, 1) := by decide +kernel
theorem dX3_judge_77 : decode cX3_judge 77 = .ok (.iconst 0, 1) := by decide +kernel
theorem dX3_judge_78 : decode cX3_judge 78 = .ok (.istore_n 3, 1) := by decide +kernel
theorem dX3_judge_79 : decode cX3_judge 79 = .ok (.iload_n 3, 1) := by decide +kernel
theorem dX3_judge_80 : decode cX3_judge 80 = .ok (.aload_n 0, 1) := by decide +kernel
theorem dX3_judge_81 : decode cX3_judge 81 = .ok (.getfield 19, 3) := by decide +kernel
theorem dX3_judge_84 : decode cX3_judge 84 = .ok (.invokeinterface 31 1, 5) := by decide +kernel
theorem dX3_judge_89 : decode cX3_judge 89 = .ok (.if_icmp .ge 47, 3) := by decide +kernel
theorem dX3_judge_92 : decode cX3_judge 92 = .ok (.aload_n 0, 1) := by decide +kernel
theorem dX3_judge_93 : decode cX3_judge 93 = .ok (.getfield 19, 3) := by decide +kernel
theorem dX3_judge_96 : decode cX3_judge 96 = .ok (.iload_n 3, 1) := by decide +kernel
theorem dX3_judge_97 : decode cX3_judge 97 = .ok (.invokeinterface 37 2, 5) := by decide +kernel
theorem dX3_judge_102 : decode cX3_judge 102 = .ok (.checkcast 41, 3) := by decide +kernel
theorem dX3_judge_105 : decode cX3_judge 105 = .ok (.astore 4, 2) := by decide +kernel
theorem dX3_judge_107 : decode cX3_judge 107 = .ok (.aload 4, 2) := by decide +kernel
theorem dX3_judge_109 : decode cX3_judge 109 = .ok (.aload_n 0, 1) := by decide +kernel
theorem dX3_judge_110 : decode cX3_judge 110 = .ok (.aload 4, 2) := by decide +kernel
theorem dX3_judge_112 : decode cX3_judge 112 = .ok (.aload_n 1, 1) := by decide +kernel
theorem dX3_judge_113 : decode cX3_judge 113 = .ok (.invokevirtual 64, 3) := by decide +kernel
theorem dX3_judge_116 : decode cX3_judge 116 = .ok (.putfield 68, 3) := by decide +kernel
theorem dX3_judge_119 : decode cX3_judge 119 = .ok (.aload 4, 2) := by decide +kernel
theorem dX3_judge_121 : decode cX3_judge 121 = .ok (.getfield 68, 3) := by decide +kernel
theorem dX3_judge_124 : decode cX3_judge 124 = .ok (.ifCond .eq 6, 3) := by decide +kernel
theorem dX3_judge_127 : decode cX3_judge 127 = .ok (.iinc 2 1, 3) := by decide +kernel
theorem dX3_judge_130 : decode cX3_judge 130 = .ok (.iinc 3 1, 3) := by decide +kernel
theorem dX3_judge_133 : decode cX3_judge 133 = .ok (.goto (-54), 3) := by decide +kernel
theorem dX3_judge_136 : decode cX3_judge 136 = .ok (.iload_n 2, 1) := by decide +kernel
theorem dX3_judge_137 : decode cX3_judge 137 = .ok (.ireturn, 1) := by decide +kernel
theorem dX3_doChanges_0 : decode cX3_doChanges 0 = .ok (.iconst 0, 1) := by decide +kernel
theorem dX3_doChanges_1 : decode cX3_doChanges 1 = .ok (.istore_n 1, 1) := by decide +kernel
theorem dX3_doChanges_2 : decode cX3_doChanges 2 = .ok (.iconst 0, 1) := by decide +kernel
theorem dX3_doChanges_3 : decode cX3_doChanges 3 = .ok (.istore_n 2, 1) := by decide +kernel
theorem dX3_doChanges_4 : decode cX3_doChanges 4 = .ok (.iload_n 2, 1) := by decide +kernel
theorem dX3_doChanges_5 : decode cX3_doChanges 5 = .ok (.aload_n 0, 1) := by decide +kernel
theorem dX3_doChanges_6 : decode cX3_doChanges 6 = .ok (.getfield 19, 3) := by decide +kernel
theorem dX3_doChanges_9 : decode cX3_doChanges 9 = .ok (.invokeinterface 31 1, 5) := by decide +kernel
theorem dX3_doChanges_14 : decode cX3_doChanges 14 = .ok (.if_icmp .ge 71, 3) := by decide +kernel
theorem dX3_doChanges_17 : decode cX3_doChanges 17 = .ok (.aload_n 0, 1) := by decide +kernel
theorem dX3_doChanges_18 : decode cX3_doChanges 18 = .ok (.getfield 19, 3) := by decide +kernel
theorem dX3_doChanges_21 : decode cX3_doChanges 21 = .ok (.iload_n 2, 1) := by decide +kernel
theorem dX3_doChanges_22 : decode cX3_doChanges 22 = .ok (.invokeinterface 37 2, 5) := by decide +kernel
theorem dX3_doChanges_27 : decode cX3_doChanges 27 = .ok (.checkcast 41, 3) := by decide +kernel
theorem dX3_doChanges_30 : decode cX3_doChanges 30 = .ok (.astore_n 3, 1) := by decide +kernel
theorem dX3_doChanges_31 : decode cX3_doChanges 31 = .ok (.aload_n 3, 1) := by decide +kernel
theorem dX3_doChanges_32 : decode cX3_doChanges 32 = .ok (.getfield 68, 3) := by decide +kernel
theorem dX3_doChanges_35 : decode cX3_doChanges 35 = .ok (.ifCond .eq 6, 3) := by decide +kernel
theorem dX3_doChanges_38 : decode cX3_doChanges 38 = .ok (.goto 41, 3) := by decide +kernel
theorem dX3_doChanges_41 : decode cX3_doChanges 41 = .ok (.iconst 1, 1) := by decide +kernel
theorem dX3_doChanges_42 : decode cX3_doChanges 42 = .ok (.istore_n 1, 1) := by decide +kernel
theorem dX3_doChanges_43 : decode cX3_doChanges 43 = .ok (.aload_n 3, 1) := by decide +kernel
theorem dX3_doChanges_44 : decode cX3_doChanges 44 = .ok (.invokevirtual 43, 3) := by decide +kernel
theorem dX3_doChanges_47 : decode cX3_doChanges 47 = .ok (.ifCond .eq 17, 3) := by decide +kernel
theorem dX3_doChanges_50 : decode cX3_doChanges 50 = .ok (.aload_n 0, 1) := by decide +kernel
theorem dX3_doChanges_51 : decode cX3_doChanges 51 = .ok (.getfield 15, 3) := by decide +kernel
theorem dX3_doChanges_54 : decode cX3_doChanges 54 = .ok (.aload_n 3, 1) := by decide +kernel
theorem dX3_doChanges_55 : decode cX3_doChanges 55 = .ok (.getfield 47, 3) := by decide +kernel
theorem dX3_doChanges_58 : decode cX3_doChanges 58 = .ok (.invokevirtual 72, 3) := by decide +kernel
theorem dX3_doChanges_61 : decode cX3_doChanges 61 = .ok (.goto 18, 3) := by decide +kernel
theorem dX3_doChanges_64 : decode cX3_doChanges 64 = .ok (.aload_n 0, 1) := by decide +kernel
theorem dX3_doChanges_65 : decode cX3_doChanges 65 = .ok (.getfield 15, 3) := by decide +kernel
theorem dX3_doChanges_68 : decode cX3_doChanges 68 = .ok (.aload_n 3, 1) := by decide +kernel
theorem dX3_doChanges_69 : decode cX3_doChanges 69 = .ok (.getfield 47, 3) := by decide +kernel
theorem dX3_doChanges_72 : decode cX3_doChanges 72 = .ok (.aload_n 3, 1) := by decide +kernel
theorem dX3_doChanges_73 : decode cX3_doChanges 73 = .ok (.getfield 75, 3) := by decide +kernel
theorem dX3_doChanges_76 : decode cX3_doChanges 76 = .ok (.invokevirtual 79, 3) := by decide +kernel
theorem dX3_doChanges_79 : decode cX3_doChanges 79 = .ok (.iinc 2 1, 3) := by decide +kernel
theorem dX3_doChanges_82 : decode cX3_doChanges 82 = .ok (.goto (-78), 3) := by decide +kernel
theorem dX3_doChanges_85 : decode cX3_doChanges 85 = .ok (.iload_n 1, 1) := by decide +kernel
theorem dX3_doChanges_86 : decode cX3_doChanges 86 = .ok (.ifCond .eq 16, 3) := by decide +kernel
theorem dX3_doChanges_89 : decode cX3_doChanges 89 = .ok (.aload_n 0, 1) := by decide +kernel
theorem dX3_doChanges_90 : decode cX3_doChanges 90 = .ok (.getfield 15, 3) := by decide +kernel
theorem dX3_doChanges_93 : decode cX3_doChanges 93 = .ok (.dup, 1) := by decide +kernel
theorem dX3_doChanges_94 : decode cX3_doChanges 94 = .ok (.getfield 83, 3) := by decide +kernel
theorem dX3_doChanges_97 : decode cX3_doChanges 97 = .ok (.iconst 1, 1) := by decide +kernel
theorem dX3_doChanges_98 : decode cX3_doChanges 98 = .ok (.iadd, 1) := by decide +kernel
theorem dX3_doChanges_99 : decode cX3_doChanges 99 = .ok (.putfield 83, 3) := by decide +kernel
theorem dX3_doChanges_102 : decode cX3_doChanges 102 = .ok (.return_, 1) := by decide +kernel
theorem dX3_spares_0 : decode cX3_spares 0 = .ok (.aload_n 1, 1) := by decide +kernel
theorem dX3_spares_1 : decode cX3_spares 1 = .ok (.getfield 47, 3) := by decide +kernel
theorem dX3_spares_4 : decode cX3_spares 4 = .ok (.istore_n 3, 1) := by decide +kernel
theorem dX3_spares_5 : decode cX3_spares 5 = .ok (.aload_n 0, 1) := by decide +kernel
theorem dX3_spares_6 : decode cX3_spares 6 = .ok (.getfield 15, 3) := by decide +kernel
theorem dX3_spares_9 : decode cX3_spares 9 = .ok (.getfield 54, 3) := by decide +kernel
theorem dX3_spares_12 : decode cX3_spares 12 = .ok (.iload_n 3, 1) := by decide +kernel
theorem dX3_spares_13 : decode cX3_spares 13 = .ok (.invokevirtual 86, 3) := by decide +kernel
theorem dX3_spares_16 : decode cX3_spares 16 = .ok (.ifCond .eq 63, 3) := by decide +kernel
theorem dX3_spares_19 : decode cX3_spares 19 = .ok (.aload_n 0, 1) := by decide +kernel
theorem dX3_spares_20 : decode cX3_spares 20 = .ok (.getfield 15, 3) := by decide +kernel
theorem dX3_spares_23 : decode cX3_spares 23 = .ok (.getfield 54, 3) := by decide +kernel
theorem dX3_spares_26 : decode cX3_spares 26 = .ok (.iload_n 3, 1) := by decide +kernel
theorem dX3_spares_27 : decode cX3_spares 27 = .ok (.invokevirtual 92, 3) := by decide +kernel
theorem dX3_spares_30 : decode cX3_spares 30 = .ok (.aload_n 1, 1) := by decide +kernel
theorem dX3_spares_31 : decode cX3_spares 31 = .ok (.getfield 96, 3) := by decide +kernel
theorem dX3_spares_34 : decode cX3_spares 34 = .ok (.if_icmp .ne 45, 3) := by decide +kernel
theorem dX3_spares_37 : decode cX3_spares 37 = .ok (.aload_n 1, 1) := by decide +kernel
theorem dX3_spares_38 : decode cX3_spares 38 = .ok (.invokevirtual 43, 3) := by decide +kernel
theorem dX3_spares_41 : decode cX3_spares 41 = .ok (.ifCond .eq 14, 3) := by decide +kernel
theorem dX3_spares_44 : decode cX3_spares 44 = .ok (.aload_n 0, 1) := by decide +kernel
theorem dX3_spares_45 : decode cX3_spares 45 = .ok (.getfield 15, 3) := by decide +kernel
theorem dX3_spares_48 : decode cX3_spares 48 = .ok (.iload_n 3, 1) := by decide +kernel
theorem dX3_spares_49 : decode cX3_spares 49 = .ok (.invokevirtual 99, 3) := by decide +kernel
theorem dX3_spares_52 : decode cX3_spares 52 = .ok (.ifCond .ne 27, 3) := by decide +kernel
theorem dX3_spares_55 : decode cX3_spares 55 = .ok (.aload_n 2, 1) := by decide +kernel
theorem dX3_spares_56 : decode cX3_spares 56 = .ok (.iload_n 3, 1) := by decide +kernel
theorem dX3_spares_57 : decode cX3_spares 57 = .ok (.invokevirtual 102, 3) := by decide +kernel
theorem dX3_spares_60 : decode cX3_spares 60 = .ok (.aload_n 1, 1) := by decide +kernel
theorem dX3_spares_61 : decode cX3_spares 61 = .ok (.getfield 106, 3) := by decide +kernel
theorem dX3_spares_64 : decode cX3_spares 64 = .ok (.if_icmp .ne 15, 3) := by decide +kernel
theorem dX3_spares_67 : decode cX3_spares 67 = .ok (.aload_n 2, 1) := by decide +kernel
theorem dX3_spares_68 : decode cX3_spares 68 = .ok (.iload_n 3, 1) := by decide +kernel
theorem dX3_spares_69 : decode cX3_spares 69 = .ok (.invokevirtual 109, 3) := by decide +kernel
theorem dX3_spares_72 : decode cX3_spares 72 = .ok (.aload_n 1, 1) := by decide +kernel
theorem dX3_spares_73 : decode cX3_spares 73 = .ok (.getfield 112, 3) := by decide +kernel
theorem dX3_spares_76 : decode cX3_spares 76 = .ok (.if_icmp .eq 7, 3) := by decide +kernel
theorem dX3_spares_79 : decode cX3_spares 79 = .ok (.iconst 1, 1) := by decide +kernel
theorem dX3_spares_80 : decode cX3_spares 80 = .ok (.goto 4, 3) := by decide +kernel
theorem dX3_spares_83 : decode cX3_spares 83 = .ok (.iconst 0, 1) := by decide +kernel
theorem dX3_spares_84 : decode cX3_spares 84 = .ok (.ireturn, 1) := by decide +kernel
theorem dX4_init_0 : decode cX4_init 0 = .ok (.aload_n 0, 1) := by decide +kernel
theorem dX4_init_1 : decode cX4_init 1 = .ok (.invokespecial 3, 3) := by decide +kernel
theorem dX4_init_4 : decode cX4_init 4 = .ok (.aload_n 0, 1) := by decide +kernel
theorem dX4_init_5 : decode cX4_init 5 = .ok (.new 9, 3) := by decide +kernel
theorem dX4_init_8 : decode cX4_init 8 = .ok (.dup, 1) := by decide +kernel
theorem dX4_init_9 : decode cX4_init 9 = .ok (.invokespecial 11, 3) := by decide +kernel
theorem dX4_init_12 : decode cX4_init 12 = .ok (.putfield 12, 3) := by decide +kernel
theorem dX4_init_15 : decode cX4_init 15 = .ok (.return_, 1) := by decide +kernel
theorem dX4_remember_0 : decode cX4_remember 0 = .ok (.aload_n 0, 1) := by decide +kernel
theorem dX4_remember_1 : decode cX4_remember 1 = .ok (.getfield 12, 3) := by decide +kernel
theorem dX4_remember_4 : decode cX4_remember 4 = .ok (.invokeinterface 18 1, 5) := by decide +kernel
theorem dX4_remember_9 : decode cX4_remember 9 = .ok (.iconst 1, 1) := by decide +kernel
theorem dX4_remember_10 : decode cX4_remember 10 = .ok (.isub, 1) := by decide +kernel
theorem dX4_remember_11 : decode cX4_remember 11 = .ok (.istore_n 2, 1) := by decide +kernel
theorem dX4_remember_12 : decode cX4_remember 12 = .ok (.iload_n 2, 1) := by decide +kernel
theorem dX4_remember_13 : decode cX4_remember 13 = .ok (.aload_n 0, 1) := by decide +kernel
theorem dX4_remember_14 : decode cX4_remember 14 = .ok (.getfield 24, 3) := by decide +kernel
theorem dX4_remember_17 : decode cX4_remember 17 = .ok (.if_icmp .lt 20, 3) := by decide +kernel
theorem dX4_remember_20 : decode cX4_remember 20 = .ok (.aload_n 0, 1) := by decide +kernel
theorem dX4_remember_21 : decode cX4_remember 21 = .ok (.getfield 12, 3) := by decide +kernel
theorem dX4_remember_24 : decode cX4_remember 24 = .ok (.iload_n 2, 1) := by decide +kernel
theorem dX4_remember_25 : decode cX4_remember 25 = .ok (.invokeinterface 28 2, 5) := by decide +kernel
theorem dX4_remember_30 : decode cX4_remember 30 = .ok (.pop, 1) := by decide +kernel
theorem dX4_remember_31 : decode cX4_remember 31 = .ok (.iinc 2 (-1), 3) := by decide +kernel
theorem dX4_remember_34 : decode cX4_remember 34 = .ok (.goto (-22), 3) := by decide +kernel
theorem dX4_remember_37 : decode cX4_remember 37 = .ok (.aload_n 0, 1) := by decide +kernel
theorem dX4_remember_38 : decode cX4_remember 38 = .ok (.getfield 12, 3) := by decide +kernel
theorem dX4_remember_41 : decode cX4_remember 41 = .ok (.invokeinterface 18 1, 5) := by decide +kernel
theorem dX4_remember_46 : decode cX4_remember 46 = .ok (.sipush 512, 3) := by decide +kernel
theorem dX4_remember_49 : decode cX4_remember 49 = .ok (.if_icmp .ge 14, 3) := by decide +kernel
theorem dX4_remember_52 : decode cX4_remember 52 = .ok (.aload_n 0, 1) := by decide +kernel
theorem dX4_remember_53 : decode cX4_remember 53 = .ok (.getfield 12, 3) := by decide +kernel
theorem dX4_remember_56 : decode cX4_remember 56 = .ok (.aload_n 1, 1) := by decide +kernel
theorem dX4_remember_57 : decode cX4_remember 57 = .ok (.invokeinterface 32 2, 5) := by decide +kernel
theorem dX4_remember_62 : decode cX4_remember 62 = .ok (.pop, 1) := by decide +kernel
theorem dX4_remember_63 : decode cX4_remember 63 = .ok (.aload_n 0, 1) := by decide +kernel
theorem dX4_remember_64 : decode cX4_remember 64 = .ok (.aload_n 0, 1) := by decide +kernel
theorem dX4_remember_65 : decode cX4_remember 65 = .ok (.getfield 12, 3) := by decide +kernel
theorem dX4_remember_68 : decode cX4_remember 68 = .ok (.invokeinterface 18 1, 5) := by decide +kernel
theorem dX4_remember_73 : decode cX4_remember 73 = .ok (.putfield 24, 3) := by decide +kernel
theorem dX4_remember_76 : decode cX4_remember 76 = .ok (.return_, 1) := by decide +kernel
theorem dX4_stepBack_0 : decode cX4_stepBack 0 = .ok (.aload_n 0, 1) := by decide +kernel
theorem dX4_stepBack_1 : decode cX4_stepBack 1 = .ok (.getfield 24, 3) := by decide +kernel
theorem dX4_stepBack_4 : decode cX4_stepBack 4 = .ok (.ifCond .le 19, 3) := by decide +kernel
theorem dX4_stepBack_7 : decode cX4_stepBack 7 = .ok (.aload_n 0, 1) := by decide +kernel
theorem dX4_stepBack_8 : decode cX4_stepBack 8 = .ok (.getfield 24, 3) := by decide +kernel
theorem dX4_stepBack_11 : decode cX4_stepBack 11 = .ok (.aload_n 0, 1) := by decide +kernel
theorem dX4_stepBack_12 : decode cX4_stepBack 12 = .ok (.getfield 12, 3) := by decide +kernel
theorem dX4_stepBack_15 : decode cX4_stepBack 15 = .ok (.invokeinterface 18 1, 5) := by decide +kernel
theorem dX4_stepBack_20 : decode cX4_stepBack 20 = .ok (.if_icmp .le 5, 3) := by decide +kernel
theorem dX4_stepBack_23 : decode cX4_stepBack 23 = .ok (.aconst_null, 1) := by decide +kernel
theorem dX4_stepBack_24 : decode cX4_stepBack 24 = .ok (.areturn, 1) := by decide +kernel
theorem dX4_stepBack_25 : decode cX4_stepBack 25 = .ok (.aload_n 0, 1) := by decide +kernel
theorem dX4_stepBack_26 : decode cX4_stepBack 26 = .ok (.dup, 1) := by decide +kernel
theorem dX4_stepBack_27 : decode cX4_stepBack 27 = .ok (.getfield 24, 3) := by decide +kernel
theorem dX4_stepBack_30 : decode cX4_stepBack 30 = .ok (.iconst 1, 1) := by decide +kernel
theorem dX4_stepBack_31 : decode cX4_stepBack 31 = .ok (.isub, 1) := by decide +kernel
theorem dX4_stepBack_32 : decode cX4_stepBack 32 = .ok (.putfield 24, 3) := by decide +kernel
theorem dX4_stepBack_35 : decode cX4_stepBack 35 = .ok (.aload_n 0, 1) := by decide +kernel
theorem dX4_stepBack_36 : decode cX4_stepBack 36 = .ok (.getfield 12, 3) := by decide +kernel
theorem dX4_stepBack_39 : decode cX4_stepBack 39 = .ok (.aload_n 0, 1) := by decide +kernel
theorem dX4_stepBack_40 : decode cX4_stepBack 40 = .ok (.getfield 24, 3) := by decide +kernel
theorem dX4_stepBack_43 : decode cX4_stepBack 43 = .ok (.invokeinterface 36 2, 5) := by decide +kernel
theorem dX4_stepBack_48 : decode cX4_stepBack 48 = .ok (.checkcast 39, 3) := by decide +kernel
theorem dX4_stepBack_51 : decode cX4_stepBack 51 = .ok (.areturn, 1) := by decide +kernel
theorem dX4_stepForth_0 : decode cX4_stepForth 0 = .ok (.aload_n 0, 1) := by decide +kernel
theorem dX4_stepForth_1 : decode cX4_stepForth 1 = .ok (.getfield 24, 3) := by decide +kernel
theorem dX4_stepForth_4 : decode cX4_stepForth 4 = .ok (.ifCond .lt 19, 3) := by decide +kernel
theorem dX4_stepForth_7 : decode cX4_stepForth 7 = .ok (.aload_n 0, 1) := by decide +kernel
theorem dX4_stepForth_8 : decode cX4_stepForth 8 = .ok (.getfield 24, 3) := by decide +kernel
theorem dX4_stepForth_11 : decode cX4_stepForth 11 = .ok (.aload_n 0, 1) := by decide +kernel
theorem dX4_stepForth_12 : decode cX4_stepForth 12 = .ok (.getfield 12, 3) := by decide +kernel
theorem dX4_stepForth_15 : decode cX4_stepForth 15 = .ok (.invokeinterface 18 1, 5) := by decide +kernel
theorem dX4_stepForth_20 : decode cX4_stepForth 20 = .ok (.if_icmp .lt 5, 3) := by decide +kernel
theorem dX4_stepForth_23 : decode cX4_stepForth 23 = .ok (.aconst_null, 1) := by decide +kernel
theorem dX4_stepForth_24 : decode cX4_stepForth 24 = .ok (.areturn, 1) := by decide +kernel
theorem dX4_stepForth_25 : decode cX4_stepForth 25 = .ok (.aload_n 0, 1) := by decide +kernel
theorem dX4_stepForth_26 : decode cX4_stepForth 26 = .ok (.dup, 1) := by decide +kernel
theorem dX4_stepForth_27 : decode cX4_stepForth 27 = .ok (.getfield 24, 3) := by decide +kernel
theorem dX4_stepForth_30 : decode cX4_stepForth 30 = .ok (.iconst 1, 1) := by decide +kernel
theorem dX4_stepForth_31 : decode cX4_stepForth 31 = .ok (.iadd, 1) := by decide +kernel
theorem dX4_stepForth_32 : decode cX4_stepForth 32 = .ok (.putfield 24, 3) := by decide +kernel
theorem dX4_stepForth_35 : decode cX4_stepForth 35 = .ok (.aload_n 0, 1) := by decide +kernel
theorem dX4_stepForth_36 : decode cX4_stepForth 36 = .ok (.getfield 12, 3) := by decide +kernel
theorem dX4_stepForth_39 : decode cX4_stepForth 39 = .ok (.aload_n 0, 1) := by decide +kernel
theorem dX4_stepForth_40 : decode cX4_stepForth 40 = .ok (.getfield 24, 3) := by decide +kernel
theorem dX4_stepForth_43 : decode cX4_stepForth 43 = .ok (.iconst 1, 1) := by decide +kernel
theorem dX4_stepForth_44 : decode cX4_stepForth 44 = .ok (.isub, 1) := by decide +kernel
theorem dX4_stepForth_45 : decode cX4_stepForth 45 = .ok (.invokeinterface 36 2, 5) := by decide +kernel
theorem dX4_stepForth_50 : decode cX4_stepForth 50 = .ok (.checkcast 39, 3) := by decide +kernel
theorem dX4_stepForth_53 : decode cX4_stepForth 53 = .ok (.areturn, 1) := by decide +kernel
theorem dX5_init_0 : decode cX5_init 0 = .ok (.aload_n 0, 1) := by decide +kernel
theorem dX5_init_1 : decode cX5_init 1 = .ok (.invokespecial 3, 3) := by decide +kernel
theorem dX5_init_4 : decode cX5_init 4 = .ok (.aload_n 0, 1) := by decide +kernel
theorem dX5_init_5 : decode cX5_init 5 = .ok (.sipush 150, 3) := by decide +kernel
theorem dX5_init_8 : decode cX5_init 8 = .ok (.newarray .boolean, 2) := by decide +kernel
theorem dX5_init_10 : decode cX5_init 10 = .ok (.putfield 9, 3) := by decide +kernel
theorem dX5_init_13 : decode cX5_init 13 = .ok (.aload_n 0, 1) := by decide +kernel
theorem dX5_init_14 : decode cX5_init 14 = .ok (.sipush 150, 3) := by decide +kernel
theorem dX5_init_17 : decode cX5_init 17 = .ok (.newarray .int, 2) := by decide +kernel
theorem dX5_init_19 : decode cX5_init 19 = .ok (.putfield 15, 3) := by decide +kernel
theorem dX5_init_22 : decode cX5_init 22 = .ok (.aload_n 0, 1) := by decide +kernel
theorem dX5_init_23 : decode cX5_init 23 = .ok (.sipush 150, 3) := by decide +kernel
theorem dX5_init_26 : decode cX5_init 26 = .ok (.newarray .int, 2) := by decide +kernel
theorem dX5_init_28 : decode cX5_init 28 = .ok (.putfield 19, 3) := by decide +kernel
theorem dX5_init_31 : decode cX5_init 31 = .ok (.return_, 1) := by decide +kernel
theorem dX5_forgetGoing_0 : decode cX5_forgetGoing 0 = .ok (.iconst 0, 1) := by decide +kernel
theorem dX5_forgetGoing_1 : decode cX5_forgetGoing 1 = .ok (.istore_n 1, 1) := by decide +kernel
theorem dX5_forgetGoing_2 : decode cX5_forgetGoing 2 = .ok (.iload_n 1, 1) := by decide +kernel
theorem dX5_forgetGoing_3 : decode cX5_forgetGoing 3 = .ok (.sipush 150, 3) := by decide +kernel
theorem dX5_forgetGoing_6 : decode cX5_forgetGoing 6 = .ok (.if_icmp .ge 16, 3) := by decide +kernel
theorem dX5_forgetGoing_9 : decode cX5_forgetGoing 9 = .ok (.aload_n 0, 1) := by decide +kernel
theorem dX5_forgetGoing_10 : decode cX5_forgetGoing 10 = .ok (.getfield 9, 3) := by decide +kernel
theorem dX5_forgetGoing_13 : decode cX5_forgetGoing 13 = .ok (.iload_n 1, 1) := by decide +kernel
theorem dX5_forgetGoing_14 : decode cX5_forgetGoing 14 = .ok (.iconst 0, 1) := by decide +kernel
theorem dX5_forgetGoing_15 : decode cX5_forgetGoing 15 = .ok (.bastore, 1) := by decide +kernel
theorem dX5_forgetGoing_16 : decode cX5_forgetGoing 16 = .ok (.iinc 1 1, 3) := by decide +kernel
theorem dX5_forgetGoing_19 : decode cX5_forgetGoing 19 = .ok (.goto (-17), 3) := by decide +kernel
theorem dX5_forgetGoing_22 : decode cX5_forgetGoing 22 = .ok (.return_, 1) := by decide +kernel
theorem dX5_markGoing_0 : decode cX5_markGoing 0 = .ok (.iload_n 1, 1) := by decide +kernel
theorem dX5_markGoing_1 : decode cX5_markGoing 1 = .ok (.invokestatic 22, 3) := by decide +kernel
theorem dX5_markGoing_4 : decode cX5_markGoing 4 = .ok (.ifCond .eq 10, 3) := by decide +kernel
theorem dX5_markGoing_7 : decode cX5_markGoing 7 = .ok (.aload_n 0, 1) := by decide +kernel
theorem dX5_markGoing_8 : decode cX5_markGoing 8 = .ok (.getfield 9, 3) := by decide +kernel
theorem dX5_markGoing_11 : decode cX5_markGoing 11 = .ok (.iload_n 1, 1) := by decide +kernel
theorem dX5_markGoing_12 : decode cX5_markGoing 12 = .ok (.iconst 1, 1) := by decide +kernel
theorem dX5_markGoing_13 : decode cX5_markGoing 13 = .ok (.bastore, 1) := by decide +kernel
theorem dX5_markGoing_14 : decode cX5_markGoing 14 = .ok (.return_, 1) := by decide +kernel
theorem dX5_find_0 : decode cX5_find 0 = .ok (.iconst (-1), 1) := by decide +kernel
theorem dX5_find_1 : decode cX5_find 1 = .ok (.istore_n 2, 1) := by decide +kernel
theorem dX5_find_2 : decode cX5_find 2 = .ok (.iconst 0, 1) := by decide +kernel
theorem dX5_find_3 : decode cX5_find 3 = .ok (.istore_n 3, 1) := by decide +kernel
theorem dX5_find_4 : decode cX5_find 4 = .ok (.iload_n 3, 1) := by decide +kernel
theorem dX5_find_5 : decode cX5_find 5 = .ok (.aload_n 1, 1) := by decide +kernel
theorem dX5_find_6 : decode cX5_find 6 = .ok (.invokevirtual 26, 3) := by decide +kernel
theorem dX5_find_9 : decode cX5_find 9 = .ok (.if_icmp .ge 25, 3) := by decide +kernel
theorem dX5_find_12 : decode cX5_find 12 = .ok (.aload_n 0, 1) := by decide +kernel
theorem dX5_find_13 : decode cX5_find 13 = .ok (.aload_n 1, 1) := by decide +kernel
theorem dX5_find_14 : decode cX5_find 14 = .ok (.aload_n 1, 1) := by decide +kernel
theorem dX5_find_15 : decode cX5_find 15 = .ok (.iload_n 3, 1) := by decide +kernel
theorem dX5_find_16 : decode cX5_find 16 = .ok (.invokevirtual 32, 3) := by decide +kernel
theorem dX5_find_19 : decode cX5_find 19 = .ok (.iload_n 2, 1) := by decide +kernel
theorem dX5_find_20 : decode cX5_find 20 = .ok (.aload_n 0, 1) := by decide +kernel
theorem dX5_find_21 : decode cX5_find 21 = .ok (.getfield 15, 3) := by decide +kernel
theorem dX5_find_24 : decode cX5_find 24 = .ok (.invokevirtual 36, 3) := by decide +kernel
theorem dX5_find_27 : decode cX5_find 27 = .ok (.istore_n 2, 1) := by decide +kernel
theorem dX5_find_28 : decode cX5_find 28 = .ok (.iinc 3 1, 3) := by decide +kernel
theorem dX5_find_31 : decode cX5_find 31 = .ok (.goto (-27), 3) := by decide +kernel
theorem dX5_find_34 : decode cX5_find 34 = .ok (.iconst (-1), 1) := by decide +kernel
theorem dX5_find_35 : decode cX5_find 35 = .ok (.istore_n 2, 1) := by decide +kernel
theorem dX5_find_36 : decode cX5_find 36 = .ok (.aload_n 1, 1) := by decide +kernel
theorem dX5_find_37 : decode cX5_find 37 = .ok (.invokevirtual 26, 3) := by decide +kernel
theorem dX5_find_40 : decode cX5_find 40 = .ok (.iconst 1, 1) := by decide +kernel
theorem dX5_find_41 : decode cX5_find 41 = .ok (.isub, 1) := by decide +kernel
theorem dX5_find_42 : decode cX5_find 42 = .ok (.istore_n 3, 1) := by decide +kernel
theorem dX5_find_43 : decode cX5_find 43 = .ok (.iload_n 3, 1) := by decide +kernel
theorem dX5_find_44 : decode cX5_find 44 = .ok (.ifCond .lt 25, 3) := by decide +kernel
theorem dX5_find_47 : decode cX5_find 47 = .ok (.aload_n 0, 1) := by decide +kernel
theorem dX5_find_48 : decode cX5_find 48 = .ok (.aload_n 1, 1) := by decide +kernel
theorem dX5_find_49 : decode cX5_find 49 = .ok (.aload_n 1, 1) := by decide +kernel
theorem dX5_find_50 : decode cX5_find 50 = .ok (.iload_n 3, 1) := by decide +kernel
theorem dX5_find_51 : decode cX5_find 51 = .ok (.invokevirtual 32, 3) := by decide +kernel
theorem dX5_find_54 : decode cX5_find 54 = .ok (.iload_n 2, 1) := by decide +kernel
theorem dX5_find_55 : decode cX5_find 55 = .ok (.aload_n 0, 1) := by decide +kernel
theorem dX5_find_56 : decode cX5_find 56 = .ok (.getfield 19, 3) := by decide +kernel
theorem dX5_find_59 : decode cX5_find 59 = .ok (.invokevirtual 36, 3) := by decide +kernel
theorem dX5_find_62 : decode cX5_find 62 = .ok (.istore_n 2, 1) := by decide +kernel
theorem dX5_find_63 : decode cX5_find 63 = .ok (.iinc 3 (-1), 3) := by decide +kernel
theorem dX5_find_66 : decode cX5_find 66 = .ok (.goto (-23), 3) := by decide +kernel
theorem dX5_find_69 : decode cX5_find 69 = .ok (.return_, 1) := by decide +kernel
theorem dX5_aheadOf_0 : decode cX5_aheadOf 0 = .ok (.iload_n 1, 1) := by decide +kernel
theorem dX5_aheadOf_1 : decode cX5_aheadOf 1 = .ok (.invokestatic 22, 3) := by decide +kernel
theorem dX5_aheadOf_4 : decode cX5_aheadOf 4 = .ok (.ifCond .eq 12, 3) := by decide +kernel
theorem dX5_aheadOf_7 : decode cX5_aheadOf 7 = .ok (.aload_n 0, 1) := by decide +kernel
theorem dX5_aheadOf_8 : decode cX5_aheadOf 8 = .ok (.getfield 15, 3) := by decide +kernel
theorem dX5_aheadOf_11 : decode cX5_aheadOf 11 = .ok (.iload_n 1, 1) := by decide +kernel
theorem dX5_aheadOf_12 : decode cX5_aheadOf 12 = .ok (.iaload, 1) := by decide +kernel
theorem dX5_aheadOf_13 : decode cX5_aheadOf 13 = .ok (.goto 4, 3) := by decide +kernel
theorem dX5_aheadOf_16 : decode cX5_aheadOf 16 = .ok (.iconst (-1), 1) := by decide +kernel
theorem dX5_aheadOf_17 : decode cX5_aheadOf 17 = .ok (.ireturn, 1) := by decide +kernel
theorem dX5_behindOf_0 : decode cX5_behindOf 0 = .ok (.iload_n 1, 1) := by decide +kernel
theorem dX5_behindOf_1 : decode cX5_behindOf 1 = .ok (.invokestatic 22, 3) := by decide +kernel
theorem dX5_behindOf_4 : decode cX5_behindOf 4 = .ok (.ifCond .eq 12, 3) := by decide +kernel
theorem dX5_behindOf_7 : decode cX5_behindOf 7 = .ok (.aload_n 0, 1) := by decide +kernel
theorem dX5_behindOf_8 : decode cX5_behindOf 8 = .ok (.getfield 19, 3) := by decide +kernel
theorem dX5_behindOf_11 : decode cX5_behindOf 11 = .ok (.iload_n 1, 1) := by decide +kernel
theorem dX5_behindOf_12 : decode cX5_behindOf 12 = .ok (.iaload, 1) := by decide +kernel
theorem dX5_behindOf_13 : decode cX5_behindOf 13 = .ok (.goto 4, 3) := by decide +kernel
theorem dX5_behindOf_16 : decode cX5_behindOf 16 = .ok (.iconst (-1), 1) := by decide +kernel
theorem dX5_behindOf_17 : decode cX5_behindOf 17 = .ok (.ireturn, 1) := by decide +kernel
theorem dX5_pass_0 : decode cX5_pass 0 = .ok (.iload_n 2, 1) := by decide +kernel
theorem dX5_pass_1 : decode cX5_pass 1 = .ok (.invokestatic 22, 3) := by decide +kernel
theorem dX5_pass_4 : decode cX5_pass 4 = .ok (.ifCond .eq 10, 3) := by decide +kernel
theorem dX5_pass_7 : decode cX5_pass 7 = .ok (.iload_n 2, 1) := by decide +kernel
theorem dX5_pass_8 : decode cX5_pass 8 = .ok (.aload 4, 2) := by decide +kernel
theorem dX5_pass_10 : decode cX5_pass 10 = .ok (.arraylength, 1) := by decide +kernel
theorem dX5_pass_11 : decode cX5_pass 11 = .ok (.if_icmp .lt 5, 3) := by decide +kernel
theorem dX5_pass_14 : decode cX5_pass 14 = .ok (.iload_n 3, 1) := by decide +kernel
theorem dX5_pass_15 : decode cX5_pass 15 = .ok (.ireturn, 1) := by decide +kernel
theorem dX5_pass_16 : decode cX5_pass 16 = .ok (.aload 4, 2) := by decide +kernel
theorem dX5_pass_18 : decode cX5_pass 18 = .ok (.iload_n 2, 1) := by decide +kernel
theorem dX5_pass_19 : decode cX5_pass 19 = .ok (.iload_n 3, 1) := by decide +kernel
theorem dX5_pass_20 : decode cX5_pass 20 = .ok (.iastore, 1) := by decide +kernel
theorem dX5_pass_21 : decode cX5_pass 21 = .ok (.aload_n 1, 1) := by decide +kernel
theorem dX5_pass_22 : decode cX5_pass 22 = .ok (.iload_n 2, 1) := by decide +kernel
theorem dX5_pass_23 : decode cX5_pass 23 = .ok (.invokevirtual 40, 3) := by decide +kernel
theorem dX5_pass_26 : decode cX5_pass 26 = .ok (.ifCond .eq 16, 3) := by decide +kernel
theorem dX5_pass_29 : decode cX5_pass 29 = .ok (.aload_n 0, 1) := by decide +kernel
theorem dX5_pass_30 : decode cX5_pass 30 = .ok (.getfield 9, 3) := by decide +kernel
theorem dX5_pass_33 : decode cX5_pass 33 = .ok (.iload_n 2, 1) := by decide +kernel
theorem dX5_pass_34 : decode cX5_pass 34 = .ok (.baload, 1) := by decide +kernel
theorem dX5_pass_35 : decode cX5_pass 35 = .ok (.ifCond .ne 7, 3) := by decide +kernel
theorem dX5_pass_38 : decode cX5_pass 38 = .ok (.iload_n 2, 1) := by decide +kernel
theorem dX5_pass_39 : decode cX5_pass 39 = .ok (.goto 4, 3) := by decide +kernel
theorem dX5_pass_42 : decode cX5_pass 42 = .ok (.iload_n 3, 1) := by decide +kernel
theorem dX5_pass_43 : decode cX5_pass 43 = .ok (.ireturn, 1) := by decide +kernel
theorem dX5_isLetter_0 : decode cX5_isLetter 0 = .ok (.iload_n 0, 1) := by decide +kernel
theorem dX5_isLetter_1 : decode cX5_isLetter 1 = .ok (.ifCond .lt 14, 3) := by decide +kernel
theorem dX5_isLetter_4 : decode cX5_isLetter 4 = .ok (.iload_n 0, 1) := by decide +kernel
theorem dX5_isLetter_5 : decode cX5_isLetter 5 = .ok (.sipush 150, 3) := by decide +kernel
theorem dX5_isLetter_8 : decode cX5_isLetter 8 = .ok (.if_icmp .ge 7, 3) := by decide +kernel
theorem dX5_isLetter_11 : decode cX5_isLetter 11 = .ok (.iconst 1, 1) := by decide +kernel
theorem dX5_isLetter_12 : decode cX5_isLetter 12 = .ok (.goto 4, 3) := by decide +kernel
theorem dX5_isLetter_15 : decode cX5_isLetter 15 = .ok (.iconst 0, 1) := by decide +kernel
theorem dX5_isLetter_16 : decode cX5_isLetter 16 = .ok (.ireturn, 1) := by decide +kernel
theorem dX6_init_0 : decode cX6_init 0 = .ok (.aload_n 0, 1) := by decide +kernel
theorem dX6_init_1 : decode cX6_init 1 = .ok (.invokespecial 3, 3) := by decide +kernel
theorem dX6_init_4 : decode cX6_init 4 = .ok (.aload_n 0, 1) := by decide +kernel
theorem dX6_init_5 : decode cX6_init 5 = .ok (.sipush 150, 3) := by decide +kernel
theorem dX6_init_8 : decode cX6_init 8 = .ok (.newarray .int, 2) := by decide +kernel
theorem dX6_init_10 : decode cX6_init 10 = .ok (.putfield 9, 3) := by decide +kernel
theorem dX6_init_13 : decode cX6_init 13 = .ok (.aload_n 0, 1) := by decide +kernel
theorem dX6_init_14 : decode cX6_init 14 = .ok (.sipush 150, 3) := by decide +kernel
theorem dX6_init_17 : decode cX6_init 17 = .ok (.newarray .char, 2) := by decide +kernel
theorem dX6_init_19 : decode cX6_init 19 = .ok (.putfield 15, 3) := by decide +kernel
theorem dX6_init_22 : decode cX6_init 22 = .ok (.aload_n 0, 1) := by decide +kernel
theorem dX6_init_23 : decode cX6_init 23 = .ok (.sipush 150, 3) := by decide +kernel
theorem dX6_init_26 : decode cX6_init 26 = .ok (.newarray .char, 2) := by decide +kernel
theorem dX6_init_28 : decode cX6_init 28 = .ok (.putfield 19, 3) := by decide +kernel
theorem dX6_init_31 : decode cX6_init 31 = .ok (.return_, 1) := by decide +kernel
theorem dX6_draw_0 : decode cX6_draw 0 = .ok (.aload_n 0, 1) := by decide +kernel
theorem dX6_draw_1 : decode cX6_draw 1 = .ok (.aload_n 1, 1) := by decide +kernel
theorem dX6_draw_2 : decode cX6_draw 2 = .ok (.invokevirtual 22, 3) := by decide +kernel
theorem dX6_draw_5 : decode cX6_draw 5 = .ok (.iload_n 2, 1) := by decide +kernel
theorem dX6_draw_6 : decode cX6_draw 6 = .ok (.tableswitch 47 0 2 #[26, 33, 40], 26) := by decide +kernel
theorem dX6_draw_32 : decode cX6_draw 32 = .ok (.aload_n 0, 1) := by decide +kernel
theorem dX6_draw_33 : decode cX6_draw 33 = .ok (.invokevirtual 26, 3) := by decide +kernel
theorem dX6_draw_36 : decode cX6_draw 36 = .ok (.goto 22, 3) := by decide +kernel
theorem dX6_draw_39 : decode cX6_draw 39 = .ok (.aload_n 0, 1) := by decide +kernel
theorem dX6_draw_40 : decode cX6_draw 40 = .ok (.invokevirtual 29, 3) := by decide +kernel
theorem dX6_draw_43 : decode cX6_draw 43 = .ok (.goto 15, 3) := by decide +kernel
theorem dX6_draw_46 : decode cX6_draw 46 = .ok (.aload_n 0, 1) := by decide +kernel
theorem dX6_draw_47 : decode cX6_draw 47 = .ok (.invokevirtual 32, 3) := by decide +kernel
theorem dX6_draw_50 : decode cX6_draw 50 = .ok (.goto 8, 3) := by decide +kernel
theorem dX6_draw_53 : decode cX6_draw 53 = .ok (.aload_n 0, 1) := by decide +kernel
theorem dX6_draw_54 : decode cX6_draw 54 = .ok (.iload_n 3, 1) := by decide +kernel
theorem dX6_draw_55 : decode cX6_draw 55 = .ok (.invokevirtual 35, 3) := by decide +kernel
theorem dX6_draw_58 : decode cX6_draw 58 = .ok (.return_, 1) := by decide +kernel
theorem dX6_changes_0 : decode cX6_changes 0 = .ok (.aload_n 2, 1) := by decide +kernel
theorem dX6_changes_1 : decode cX6_changes 1 = .ok (.invokevirtual 39, 3) := by decide +kernel
theorem dX6_changes_4 : decode cX6_changes 4 = .ok (.iconst 0, 1) := by decide +kernel
theorem dX6_changes_5 : decode cX6_changes 5 = .ok (.istore_n 3, 1) := by decide +kernel
theorem dX6_changes_6 : decode cX6_changes 6 = .ok (.iload_n 3, 1) := by decide +kernel
theorem dX6_changes_7 : decode cX6_changes 7 = .ok (.aload_n 0, 1) := by decide +kernel
theorem dX6_changes_8 : decode cX6_changes 8 = .ok (.getfield 44, 3) := by decide +kernel
theorem dX6_changes_11 : decode cX6_changes 11 = .ok (.if_icmp .ge 29, 3) := by decide +kernel
theorem dX6_changes_14 : decode cX6_changes 14 = .ok (.aload_n 0, 1) := by decide +kernel
theorem dX6_changes_15 : decode cX6_changes 15 = .ok (.getfield 19, 3) := by decide +kernel
theorem dX6_changes_18 : decode cX6_changes 18 = .ok (.iload_n 3, 1) := by decide +kernel
theorem dX6_changes_19 : decode cX6_changes 19 = .ok (.caload, 1) := by decide +kernel
theorem dX6_changes_20 : decode cX6_changes 20 = .ok (.iconst 1, 1) := by decide +kernel
theorem dX6_changes_21 : decode cX6_changes 21 = .ok (.if_icmp .ne 13, 3) := by decide +kernel
theorem dX6_changes_24 : decode cX6_changes 24 = .ok (.aload_n 2, 1) := by decide +kernel
theorem dX6_changes_25 : decode cX6_changes 25 = .ok (.aload_n 0, 1) := by decide +kernel
theorem dX6_changes_26 : decode cX6_changes 26 = .ok (.getfield 9, 3) := by decide +kernel
theorem dX6_changes_29 : decode cX6_changes 29 = .ok (.iload_n 3, 1) := by decide +kernel
theorem dX6_changes_30 : decode cX6_changes 30 = .ok (.iaload, 1) := by decide +kernel
theorem dX6_changes_31 : decode cX6_changes 31 = .ok (.invokevirtual 48, 3) := by decide +kernel
theorem dX6_changes_34 : decode cX6_changes 34 = .ok (.iinc 3 1, 3) := by decide +kernel
theorem dX6_changes_37 : decode cX6_changes 37 = .ok (.goto (-31), 3) := by decide +kernel
theorem dX6_changes_40 : decode cX6_changes 40 = .ok (.aload_n 2, 1) := by decide +kernel
theorem dX6_changes_41 : decode cX6_changes 41 = .ok (.aload_n 1, 1) := by decide +kernel
theorem dX6_changes_42 : decode cX6_changes 42 = .ok (.invokevirtual 51, 3) := by decide +kernel
theorem dX6_changes_45 : decode cX6_changes 45 = .ok (.new 54, 3) := by decide +kernel
theorem dX6_changes_48 : decode cX6_changes 48 = .ok (.dup, 1) := by decide +kernel
theorem dX6_changes_49 : decode cX6_changes 49 = .ok (.invokespecial 56, 3) := by decide +kernel
theorem dX6_changes_52 : decode cX6_changes 52 = .ok (.astore_n 3, 1) := by decide +kernel
theorem dX6_changes_53 : decode cX6_changes 53 = .ok (.iconst 0, 1) := by decide +kernel
theorem dX6_changes_54 : decode cX6_changes 54 = .ok (.istore 4, 2) := by decide +kernel
theorem dX6_changes_56 : decode cX6_changes 56 = .ok (.iload 4, 2) := by decide +kernel
theorem dX6_changes_58 : decode cX6_changes 58 = .ok (.aload_n 0, 1) := by decide +kernel
theorem dX6_changes_59 : decode cX6_changes 59 = .ok (.getfield 44, 3) := by decide +kernel
theorem dX6_changes_62 : decode cX6_changes 62 = .ok (.if_icmp .ge 70, 3) := by decide +kernel
theorem dX6_changes_65 : decode cX6_changes 65 = .ok (.aload_n 0, 1) := by decide +kernel
theorem dX6_changes_66 : decode cX6_changes 66 = .ok (.getfield 19, 3) := by decide +kernel
theorem dX6_changes_69 : decode cX6_changes 69 = .ok (.iload 4, 2) := by decide +kernel
theorem dX6_changes_71 : decode cX6_changes 71 = .ok (.caload, 1) := by decide +kernel
theorem dX6_changes_72 : decode cX6_changes 72 = .ok (.ifCond .eq 54, 3) := by decide +kernel
theorem dX6_changes_75 : decode cX6_changes 75 = .ok (.aload_n 0, 1) := by decide +kernel
theorem dX6_changes_76 : decode cX6_changes 76 = .ok (.getfield 9, 3) := by decide +kernel
theorem dX6_changes_79 : decode cX6_changes 79 = .ok (.iload 4, 2) := by decide +kernel
theorem dX6_changes_81 : decode cX6_changes 81 = .ok (.iaload, 1) := by decide +kernel
theorem dX6_changes_82 : decode cX6_changes 82 = .ok (.istore 5, 2) := by decide +kernel
theorem dX6_changes_84 : decode cX6_changes 84 = .ok (.aload_n 3, 1) := by decide +kernel
theorem dX6_changes_85 : decode cX6_changes 85 = .ok (.new 57, 3) := by decide +kernel
theorem dX6_changes_88 : decode cX6_changes 88 = .ok (.dup, 1) := by decide +kernel
theorem dX6_changes_89 : decode cX6_changes 89 = .ok (.iload 5, 2) := by decide +kernel
theorem dX6_changes_91 : decode cX6_changes 91 = .ok (.aload_n 0, 1) := by decide +kernel
theorem dX6_changes_92 : decode cX6_changes 92 = .ok (.getfield 15, 3) := by decide +kernel
theorem dX6_changes_95 : decode cX6_changes 95 = .ok (.iload 4, 2) := by decide +kernel
theorem dX6_changes_97 : decode cX6_changes 97 = .ok (.caload, 1) := by decide +kernel
theorem dX6_changes_98 : decode cX6_changes 98 = .ok (.aload_n 0, 1) := by decide +kernel
theorem dX6_changes_99 : decode cX6_changes 99 = .ok (.getfield 19, 3) := by decide +kernel
theorem dX6_changes_102 : decode cX6_changes 102 = .ok (.iload 4, 2) := by decide +kernel
theorem dX6_changes_104 : decode cX6_changes 104 = .ok (.caload, 1) := by decide +kernel
theorem dX6_changes_105 : decode cX6_changes 105 = .ok (.aload_n 2, 1) := by decide +kernel
theorem dX6_changes_106 : decode cX6_changes 106 = .ok (.iload 5, 2) := by decide +kernel
theorem dX6_changes_108 : decode cX6_changes 108 = .ok (.invokevirtual 59, 3) := by decide +kernel
theorem dX6_changes_111 : decode cX6_changes 111 = .ok (.aload_n 2, 1) := by decide +kernel
theorem dX6_changes_112 : decode cX6_changes 112 = .ok (.iload 5, 2) := by decide +kernel
theorem dX6_changes_114 : decode cX6_changes 114 = .ok (.invokevirtual 63, 3) := by decide +kernel
theorem dX6_changes_117 : decode cX6_changes 117 = .ok (.invokespecial 66, 3) := by decide +kernel
theorem dX6_changes_120 : decode cX6_changes 120 = .ok (.invokeinterface 69 2, 5) := by decide +kernel
theorem dX6_changes_125 : decode cX6_changes 125 = .ok (.pop, 1) := by decide +kernel
theorem dX6_changes_126 : decode cX6_changes 126 = .ok (.iinc 4 1, 3) := by decide +kernel
theorem dX6_changes_129 : decode cX6_changes 129 = .ok (.goto (-73), 3) := by decide +kernel
theorem dX6_changes_132 : decode cX6_changes 132 = .ok (.aload_n 3, 1) := by decide +kernel
theorem dX6_changes_133 : decode cX6_changes 133 = .ok (.areturn, 1) := by decide +kernel
theorem dX6_look_0 : decode cX6_look 0 = .ok (.aload_n 0, 1) := by decide +kernel
theorem dX6_look_1 : decode cX6_look 1 = .ok (.iconst 0, 1) := by decide +kernel
theorem dX6_look_2 : decode cX6_look 2 = .ok (.putfield 44, 3) := by decide +kernel
theorem dX6_look_5 : decode cX6_look 5 = .ok (.iconst 0, 1) := by decide +kernel
theorem dX6_look_6 : decode cX6_look 6 = .ok (.istore_n 2, 1) := by decide +kernel
theorem dX6_look_7 : decode cX6_look 7 = .ok (.iload_n 2, 1) := by decide +kernel
theorem dX6_look_8 : decode cX6_look 8 = .ok (.aload_n 1, 1) := by decide +kernel
theorem dX6_look_9 : decode cX6_look 9 = .ok (.invokevirtual 75, 3) := by decide +kernel
theorem dX6_look_12 : decode cX6_look 12 = .ok (.if_icmp .ge 77, 3) := by decide +kernel
theorem dX6_look_15 : decode cX6_look 15 = .ok (.aload_n 1, 1) := by decide +kernel
theorem dX6_look_16 : decode cX6_look 16 = .ok (.iload_n 2, 1) := by decide +kernel
theorem dX6_look_17 : decode cX6_look 17 = .ok (.invokevirtual 80, 3) := by decide +kernel
theorem dX6_look_20 : decode cX6_look 20 = .ok (.istore_n 3, 1) := by decide +kernel
theorem dX6_look_21 : decode cX6_look 21 = .ok (.aload_n 1, 1) := by decide +kernel
theorem dX6_look_22 : decode cX6_look 22 = .ok (.iload_n 3, 1) := by decide +kernel
theorem dX6_look_23 : decode cX6_look 23 = .ok (.invokevirtual 83, 3) := by decide +kernel
theorem dX6_look_26 : decode cX6_look 26 = .ok (.ifCond .eq 57, 3) := by decide +kernel
theorem dX6_look_29 : decode cX6_look 29 = .ok (.aload_n 0, 1) := by decide +kernel
theorem dX6_look_30 : decode cX6_look 30 = .ok (.getfield 44, 3) := by decide +kernel
theorem dX6_look_33 : decode cX6_look 33 = .ok (.sipush 150, 3) := by decide +kernel
theorem dX6_look_36 : decode cX6_look 36 = .ok (.if_icmp .ge 47, 3) := by decide +kernel
theorem dX6_look_39 : decode cX6_look 39 = .ok (.aload_n 0, 1) := by decide +kernel
theorem dX6_look_40 : decode cX6_look 40 = .ok (.getfield 9, 3) := by decide +kernel
theorem dX6_look_43 : decode cX6_look 43 = .ok (.aload_n 0, 1) := by decide +kernel
theorem dX6_look_44 : decode cX6_look 44 = .ok (.getfield 44, 3) := by decide +kernel
theorem dX6_look_47 : decode cX6_look 47 = .ok (.iload_n 3, 1) := by decide +kernel
theorem dX6_look_48 : decode cX6_look 48 = .ok (.iastore, 1) := by decide +kernel
theorem dX6_look_49 : decode cX6_look 49 = .ok (.aload_n 0, 1) := by decide +kernel
theorem dX6_look_50 : decode cX6_look 50 = .ok (.getfield 15, 3) := by decide +kernel
theorem dX6_look_53 : decode cX6_look 53 = .ok (.aload_n 0, 1) := by decide +kernel
theorem dX6_look_54 : decode cX6_look 54 = .ok (.getfield 44, 3) := by decide +kernel
theorem dX6_look_57 : decode cX6_look 57 = .ok (.aload_n 1, 1) := by decide +kernel
theorem dX6_look_58 : decode cX6_look 58 = .ok (.iload_n 3, 1) := by decide +kernel
theorem dX6_look_59 : decode cX6_look 59 = .ok (.invokevirtual 87, 3) := by decide +kernel
theorem dX6_look_62 : decode cX6_look 62 = .ok (.castore, 1) := by decide +kernel
theorem dX6_look_63 : decode cX6_look 63 = .ok (.aload_n 0, 1) := by decide +kernel
theorem dX6_look_64 : decode cX6_look 64 = .ok (.getfield 19, 3) := by decide +kernel
theorem dX6_look_67 : decode cX6_look 67 = .ok (.aload_n 0, 1) := by decide +kernel
theorem dX6_look_68 : decode cX6_look 68 = .ok (.getfield 44, 3) := by decide +kernel
theorem dX6_look_71 : decode cX6_look 71 = .ok (.iconst 0, 1) := by decide +kernel
theorem dX6_look_72 : decode cX6_look 72 = .ok (.castore, 1) := by decide +kernel
theorem dX6_look_73 : decode cX6_look 73 = .ok (.aload_n 0, 1) := by decide +kernel
theorem dX6_look_74 : decode cX6_look 74 = .ok (.dup, 1) := by decide +kernel
theorem dX6_look_75 : decode cX6_look 75 = .ok (.getfield 44, 3) := by decide +kernel
theorem dX6_look_78 : decode cX6_look 78 = .ok (.iconst 1, 1) := by decide +kernel
theorem dX6_look_79 : decode cX6_look 79 = .ok (.iadd, 1) := by decide +kernel
theorem dX6_look_80 : decode cX6_look 80 = .ok (.putfield 44, 3) := by decide +kernel
theorem dX6_look_83 : decode cX6_look 83 = .ok (.iinc 2 1, 3) := by decide +kernel
theorem dX6_look_86 : decode cX6_look 86 = .ok (.goto (-79), 3) := by decide +kernel
theorem dX6_look_89 : decode cX6_look 89 = .ok (.return_, 1) := by decide +kernel
theorem dX6_wantSingleSpaces_0 : decode cX6_wantSingleSpaces 0 = .ok (.iconst 1, 1) := by decide +kernel
theorem dX6_wantSingleSpaces_1 : decode cX6_wantSingleSpaces 1 = .ok (.istore_n 1, 1) := by decide +kernel
theorem dX6_wantSingleSpaces_2 : decode cX6_wantSingleSpaces 2 = .ok (.iload_n 1, 1) := by decide +kernel
theorem dX6_wantSingleSpaces_3 : decode cX6_wantSingleSpaces 3 = .ok (.aload_n 0, 1) := by decide +kernel
theorem dX6_wantSingleSpaces_4 : decode cX6_wantSingleSpaces 4 = .ok (.getfield 44, 3) := by decide +kernel
theorem dX6_wantSingleSpaces_7 : decode cX6_wantSingleSpaces 7 = .ok (.if_icmp .ge 40, 3) := by decide +kernel
theorem dX6_wantSingleSpaces_10 : decode cX6_wantSingleSpaces 10 = .ok (.aload_n 0, 1) := by decide +kernel
theorem dX6_wantSingleSpaces_11 : decode cX6_wantSingleSpaces 11 = .ok (.getfield 15, 3) := by decide +kernel
theorem dX6_wantSingleSpaces_14 : decode cX6_wantSingleSpaces 14 = .ok (.iload_n 1, 1) := by decide +kernel
theorem dX6_wantSingleSpaces_15 : decode cX6_wantSingleSpaces 15 = .ok (.caload, 1) := by decide +kernel
theorem dX6_wantSingleSpaces_16 : decode cX6_wantSingleSpaces 16 = .ok (.bipush 32, 2) := by decide +kernel
theorem dX6_wantSingleSpaces_18 : decode cX6_wantSingleSpaces 18 = .ok (.if_icmp .ne 23, 3) := by decide +kernel
theorem dX6_wantSingleSpaces_21 : decode cX6_wantSingleSpaces 21 = .ok (.aload_n 0, 1) := by decide +kernel
theorem dX6_wantSingleSpaces_22 : decode cX6_wantSingleSpaces 22 = .ok (.getfield 15, 3) := by decide +kernel
theorem dX6_wantSingleSpaces_25 : decode cX6_wantSingleSpaces 25 = .ok (.iload_n 1, 1) := by decide +kernel
theorem dX6_wantSingleSpaces_26 : decode cX6_wantSingleSpaces 26 = .ok (.iconst 1, 1) := by decide +kernel
theorem dX6_wantSingleSpaces_27 : decode cX6_wantSingleSpaces 27 = .ok (.isub, 1) := by decide +kernel
theorem dX6_wantSingleSpaces_28 : decode cX6_wantSingleSpaces 28 = .ok (.caload, 1) := by decide +kernel
theorem dX6_wantSingleSpaces_29 : decode cX6_wantSingleSpaces 29 = .ok (.bipush 32, 2) := by decide +kernel
theorem dX6_wantSingleSpaces_31 : decode cX6_wantSingleSpaces 31 = .ok (.if_icmp .ne 10, 3) := by decide +kernel
theorem dX6_wantSingleSpaces_34 : decode cX6_wantSingleSpaces 34 = .ok (.aload_n 0, 1) := by decide +kernel
theorem dX6_wantSingleSpaces_35 : decode cX6_wantSingleSpaces 35 = .ok (.getfield 19, 3) := by decide +kernel
theorem dX6_wantSingleSpaces_38 : decode cX6_wantSingleSpaces 38 = .ok (.iload_n 1, 1) := by decide +kernel
theorem dX6_wantSingleSpaces_39 : decode cX6_wantSingleSpaces 39 = .ok (.iconst 1, 1) := by decide +kernel
theorem dX6_wantSingleSpaces_40 : decode cX6_wantSingleSpaces 40 = .ok (.castore, 1) := by decide +kernel
theorem dX6_wantSingleSpaces_41 : decode cX6_wantSingleSpaces 41 = .ok (.iinc 1 1, 3) := by decide +kernel
theorem dX6_wantSingleSpaces_44 : decode cX6_wantSingleSpaces 44 = .ok (.goto (-42), 3) := by decide +kernel
theorem dX6_wantSingleSpaces_47 : decode cX6_wantSingleSpaces 47 = .ok (.return_, 1) := by decide +kernel
theorem dX6_wantBareEnds_0 : decode cX6_wantBareEnds 0 = .ok (.iconst 1, 1) := by decide +kernel
theorem dX6_wantBareEnds_1 : decode cX6_wantBareEnds 1 = .ok (.istore_n 1, 1) := by decide +kernel
theorem dX6_wantBareEnds_2 : decode cX6_wantBareEnds 2 = .ok (.aload_n 0, 1) := by decide +kernel
theorem dX6_wantBareEnds_3 : decode cX6_wantBareEnds 3 = .ok (.getfield 44, 3) := by decide +kernel
theorem dX6_wantBareEnds_6 : decode cX6_wantBareEnds 6 = .ok (.iconst 1, 1) := by decide +kernel
theorem dX6_wantBareEnds_7 : decode cX6_wantBareEnds 7 = .ok (.isub, 1) := by decide +kernel
theorem dX6_wantBareEnds_8 : decode cX6_wantBareEnds 8 = .ok (.istore_n 2, 1) := by decide +kernel
theorem dX6_wantBareEnds_9 : decode cX6_wantBareEnds 9 = .ok (.iload_n 2, 1) := by decide +kernel
theorem dX6_wantBareEnds_10 : decode cX6_wantBareEnds 10 = .ok (.ifCond .lt 51, 3) := by decide +kernel
theorem dX6_wantBareEnds_13 : decode cX6_wantBareEnds 13 = .ok (.aload_n 0, 1) := by decide +kernel
theorem dX6_wantBareEnds_14 : decode cX6_wantBareEnds 14 = .ok (.getfield 15, 3) := by decide +kernel
theorem dX6_wantBareEnds_17 : decode cX6_wantBareEnds 17 = .ok (.iload_n 2, 1) := by decide +kernel
theorem dX6_wantBareEnds_18 : decode cX6_wantBareEnds 18 = .ok (.caload, 1) := by decide +kernel
theorem dX6_wantBareEnds_19 : decode cX6_wantBareEnds 19 = .ok (.bipush 32, 2) := by decide +kernel
theorem dX6_wantBareEnds_21 : decode cX6_wantBareEnds 21 = .ok (.if_icmp .eq 23, 3) := by decide +kernel
theorem dX6_wantBareEnds_24 : decode cX6_wantBareEnds 24 = .ok (.aload_n 0, 1) := by decide +kernel
theorem dX6_wantBareEnds_25 : decode cX6_wantBareEnds 25 = .ok (.getfield 15, 3) := by decide +kernel
theorem dX6_wantBareEnds_28 : decode cX6_wantBareEnds 28 = .ok (.iload_n 2, 1) := by decide +kernel
theorem dX6_wantBareEnds_29 : decode cX6_wantBareEnds 29 = .ok (.caload, 1) := by decide +kernel
theorem dX6_wantBareEnds_30 : decode cX6_wantBareEnds 30 = .ok (.bipush 47, 2) := by decide +kernel
theorem dX6_wantBareEnds_32 : decode cX6_wantBareEnds 32 = .ok (.if_icmp .ne 7, 3) := by decide +kernel
theorem dX6_wantBareEnds_35 : decode cX6_wantBareEnds 35 = .ok (.iconst 1, 1) := by decide +kernel
theorem dX6_wantBareEnds_36 : decode cX6_wantBareEnds 36 = .ok (.goto 4, 3) := by decide +kernel
theorem dX6_wantBareEnds_39 : decode cX6_wantBareEnds 39 = .ok (.iconst 0, 1) := by decide +kernel
theorem dX6_wantBareEnds_40 : decode cX6_wantBareEnds 40 = .ok (.istore_n 1, 1) := by decide +kernel
theorem dX6_wantBareEnds_41 : decode cX6_wantBareEnds 41 = .ok (.goto 14, 3) := by decide +kernel
theorem dX6_wantBareEnds_44 : decode cX6_wantBareEnds 44 = .ok (.iload_n 1, 1) := by decide +kernel
theorem dX6_wantBareEnds_45 : decode cX6_wantBareEnds 45 = .ok (.ifCond .eq 10, 3) := by decide +kernel
theorem dX6_wantBareEnds_48 : decode cX6_wantBareEnds 48 = .ok (.aload_n 0, 1) := by decide +kernel
theorem dX6_wantBareEnds_49 : decode cX6_wantBareEnds 49 = .ok (.getfield 19, 3) := by decide +kernel
theorem dX6_wantBareEnds_52 : decode cX6_wantBareEnds 52 = .ok (.iload_n 2, 1) := by decide +kernel
theorem dX6_wantBareEnds_53 : decode cX6_wantBareEnds 53 = .ok (.iconst 1, 1) := by decide +kernel
theorem dX6_wantBareEnds_54 : decode cX6_wantBareEnds 54 = .ok (.castore, 1) := by decide +kernel
theorem dX6_wantBareEnds_55 : decode cX6_wantBareEnds 55 = .ok (.iinc 2 (-1), 3) := by decide +kernel
theorem dX6_wantBareEnds_58 : decode cX6_wantBareEnds 58 = .ok (.goto (-49), 3) := by decide +kernel
theorem dX6_wantBareEnds_61 : decode cX6_wantBareEnds 61 = .ok (.return_, 1) := by decide +kernel
theorem dX6_wantCapitals_0 : decode cX6_wantCapitals 0 = .ok (.iconst 1, 1) := by decide +kernel
theorem dX6_wantCapitals_1 : decode cX6_wantCapitals 1 = .ok (.istore_n 1, 1) := by decide +kernel
theorem dX6_wantCapitals_2 : decode cX6_wantCapitals 2 = .ok (.iconst 0, 1) := by decide +kernel
theorem dX6_wantCapitals_3 : decode cX6_wantCapitals 3 = .ok (.istore_n 2, 1) := by decide +kernel
theorem dX6_wantCapitals_4 : decode cX6_wantCapitals 4 = .ok (.iload_n 2, 1) := by decide +kernel
theorem dX6_wantCapitals_5 : decode cX6_wantCapitals 5 = .ok (.aload_n 0, 1) := by decide +kernel
theorem dX6_wantCapitals_6 : decode cX6_wantCapitals 6 = .ok (.getfield 44, 3) := by decide +kernel
theorem dX6_wantCapitals_9 : decode cX6_wantCapitals 9 = .ok (.if_icmp .ge 71, 3) := by decide +kernel
theorem dX6_wantCapitals_12 : decode cX6_wantCapitals 12 = .ok (.iload_n 1, 1) := by decide +kernel
theorem dX6_wantCapitals_13 : decode cX6_wantCapitals 13 = .ok (.ifCond .eq 44, 3) := by decide +kernel
theorem dX6_wantCapitals_16 : decode cX6_wantCapitals 16 = .ok (.aload_n 0, 1) := by decide +kernel
theorem dX6_wantCapitals_17 : decode cX6_wantCapitals 17 = .ok (.getfield 15, 3) := by decide +kernel
theorem dX6_wantCapitals_20 : decode cX6_wantCapitals 20 = .ok (.iload_n 2, 1) := by decide +kernel
theorem dX6_wantCapitals_21 : decode cX6_wantCapitals 21 = .ok (.caload, 1) := by decide +kernel
theorem dX6_wantCapitals_22 : decode cX6_wantCapitals 22 = .ok (.bipush 97, 2) := by decide +kernel
theorem dX6_wantCapitals_24 : decode cX6_wantCapitals 24 = .ok (.if_icmp .lt 33, 3) := by decide +kernel
theorem dX6_wantCapitals_27 : decode cX6_wantCapitals 27 = .ok (.aload_n 0, 1) := by decide +kernel
theorem dX6_wantCapitals_28 : decode cX6_wantCapitals 28 = .ok (.getfield 15, 3) := by decide +kernel
theorem dX6_wantCapitals_31 : decode cX6_wantCapitals 31 = .ok (.iload_n 2, 1) := by decide +kernel
theorem dX6_wantCapitals_32 : decode cX6_wantCapitals 32 = .ok (.caload, 1) := by decide +kernel
theorem dX6_wantCapitals_33 : decode cX6_wantCapitals 33 = .ok (.bipush 122, 2) := by decide +kernel
theorem dX6_wantCapitals_35 : decode cX6_wantCapitals 35 = .ok (.if_icmp .gt 22, 3) := by decide +kernel
theorem dX6_wantCapitals_38 : decode cX6_wantCapitals 38 = .ok (.aload_n 0, 1) := by decide +kernel
theorem dX6_wantCapitals_39 : decode cX6_wantCapitals 39 = .ok (.getfield 19, 3) := by decide +kernel
theorem dX6_wantCapitals_42 : decode cX6_wantCapitals 42 = .ok (.iload_n 2, 1) := by decide +kernel
theorem dX6_wantCapitals_43 : decode cX6_wantCapitals 43 = .ok (.aload_n 0, 1) := by decide +kernel
theorem dX6_wantCapitals_44 : decode cX6_wantCapitals 44 = .ok (.getfield 15, 3) := by decide +kernel
theorem dX6_wantCapitals_47 : decode cX6_wantCapitals 47 = .ok (.iload_n 2, 1) := by decide +kernel
theorem dX6_wantCapitals_48 : decode cX6_wantCapitals 48 = .ok (.caload, 1) := by decide +kernel
theorem dX6_wantCapitals_49 : decode cX6_wantCapitals 49 = .ok (.bipush 97, 2) := by decide +kernel
theorem dX6_wantCapitals_51 : decode cX6_wantCapitals 51 = .ok (.isub, 1) := by decide +kernel
theorem dX6_wantCapitals_52 : decode cX6_wantCapitals 52 = .ok (.bipush 65, 2) := by decide +kernel
theorem dX6_wantCapitals_54 : decode cX6_wantCapitals 54 = .ok (.iadd, 1) := by decide +kernel
theorem dX6_wantCapitals_55 : decode cX6_wantCapitals 55 = .ok (.i2c, 1) := by decide +kernel
theorem dX6_wantCapitals_56 : decode cX6_wantCapitals 56 = .ok (.castore, 1) := by decide +kernel
theorem dX6_wantCapitals_57 : decode cX6_wantCapitals 57 = .ok (.aload_n 0, 1) := by decide +kernel
theorem dX6_wantCapitals_58 : decode cX6_wantCapitals 58 = .ok (.getfield 15, 3) := by decide +kernel
theorem dX6_wantCapitals_61 : decode cX6_wantCapitals 61 = .ok (.iload_n 2, 1) := by decide +kernel
theorem dX6_wantCapitals_62 : decode cX6_wantCapitals 62 = .ok (.caload, 1) := by decide +kernel
theorem dX6_wantCapitals_63 : decode cX6_wantCapitals 63 = .ok (.bipush 47, 2) := by decide +kernel
theorem dX6_wantCapitals_65 : decode cX6_wantCapitals 65 = .ok (.if_icmp .ne 7, 3) := by decide +kernel
theorem dX6_wantCapitals_68 : decode cX6_wantCapitals 68 = .ok (.iconst 1, 1) := by decide +kernel
theorem dX6_wantCapitals_69 : decode cX6_wantCapitals 69 = .ok (.goto 4, 3) := by decide +kernel
theorem dX6_wantCapitals_72 : decode cX6_wantCapitals 72 = .ok (.iconst 0, 1) := by decide +kernel
theorem dX6_wantCapitals_73 : decode cX6_wantCapitals 73 = .ok (.istore_n 1, 1) := by decide +kernel
theorem dX6_wantCapitals_74 : decode cX6_wantCapitals 74 = .ok (.iinc 2 1, 3) := by decide +kernel
theorem dX6_wantCapitals_77 : decode cX6_wantCapitals 77 = .ok (.goto (-73), 3) := by decide +kernel
theorem dX6_wantCapitals_80 : decode cX6_wantCapitals 80 = .ok (.return_, 1) := by decide +kernel
theorem dX6_wantWrapped_0 : decode cX6_wantWrapped 0 = .ok (.iconst 0, 1) := by decide +kernel
theorem dX6_wantWrapped_1 : decode cX6_wantWrapped 1 = .ok (.istore_n 2, 1) := by decide +kernel
theorem dX6_wantWrapped_2 : decode cX6_wantWrapped 2 = .ok (.iconst (-1), 1) := by decide +kernel
theorem dX6_wantWrapped_3 : decode cX6_wantWrapped 3 = .ok (.istore_n 3, 1) := by decide +kernel
theorem dX6_wantWrapped_4 : decode cX6_wantWrapped 4 = .ok (.iconst 0, 1) := by decide +kernel
theorem dX6_wantWrapped_5 : decode cX6_wantWrapped 5 = .ok (.istore 4, 2) := by decide +kernel
theorem dX6_wantWrapped_7 : decode cX6_wantWrapped 7 = .ok (.iload 4, 2) := by decide +kernel
theorem dX6_wantWrapped_9 : decode cX6_wantWrapped 9 = .ok (.aload_n 0, 1) := by decide +kernel
theorem dX6_wantWrapped_10 : decode cX6_wantWrapped 10 = .ok (.getfield 44, 3) := by decide +kernel
theorem dX6_wantWrapped_13 : decode cX6_wantWrapped 13 = .ok (.if_icmp .ge 72, 3) := by decide +kernel
theorem dX6_wantWrapped_16 : decode cX6_wantWrapped 16 = .ok (.aload_n 0, 1) := by decide +kernel
theorem dX6_wantWrapped_17 : decode cX6_wantWrapped 17 = .ok (.getfield 15, 3) := by decide +kernel
theorem dX6_wantWrapped_20 : decode cX6_wantWrapped 20 = .ok (.iload 4, 2) := by decide +kernel
theorem dX6_wantWrapped_22 : decode cX6_wantWrapped 22 = .ok (.caload, 1) := by decide +kernel
theorem dX6_wantWrapped_23 : decode cX6_wantWrapped 23 = .ok (.bipush 47, 2) := by decide +kernel
theorem dX6_wantWrapped_25 : decode cX6_wantWrapped 25 = .ok (.if_icmp .ne 13, 3) := by decide +kernel
theorem dX6_wantWrapped_28 : decode cX6_wantWrapped 28 = .ok (.iload 4, 2) := by decide +kernel
theorem dX6_wantWrapped_30 : decode cX6_wantWrapped 30 = .ok (.iconst 1, 1) := by decide +kernel
theorem dX6_wantWrapped_31 : decode cX6_wantWrapped 31 = .ok (.iadd, 1) := by decide +kernel
theorem dX6_wantWrapped_32 : decode cX6_wantWrapped 32 = .ok (.istore_n 2, 1) := by decide +kernel
theorem dX6_wantWrapped_33 : decode cX6_wantWrapped 33 = .ok (.iconst (-1), 1) := by decide +kernel
theorem dX6_wantWrapped_34 : decode cX6_wantWrapped 34 = .ok (.istore_n 3, 1) := by decide +kernel
theorem dX6_wantWrapped_35 : decode cX6_wantWrapped 35 = .ok (.goto 44, 3) := by decide +kernel
theorem dX6_wantWrapped_38 : decode cX6_wantWrapped 38 = .ok (.aload_n 0, 1) := by decide +kernel
theorem dX6_wantWrapped_39 : decode cX6_wantWrapped 39 = .ok (.getfield 15, 3) := by decide +kernel
theorem dX6_wantWrapped_42 : decode cX6_wantWrapped 42 = .ok (.iload 4, 2) := by decide +kernel
theorem dX6_wantWrapped_44 : decode cX6_wantWrapped 44 = .ok (.caload, 1) := by decide +kernel
theorem dX6_wantWrapped_45 : decode cX6_wantWrapped 45 = .ok (.bipush 32, 2) := by decide +kernel
theorem dX6_wantWrapped_47 : decode cX6_wantWrapped 47 = .ok (.if_icmp .ne 6, 3) := by decide +kernel
theorem dX6_wantWrapped_50 : decode cX6_wantWrapped 50 = .ok (.iload 4, 2) := by decide +kernel
theorem dX6_wantWrapped_52 : decode cX6_wantWrapped 52 = .ok (.istore_n 3, 1) := by decide +kernel
theorem dX6_wantWrapped_53 : decode cX6_wantWrapped 53 = .ok (.iload 4, 2) := by decide +kernel
theorem dX6_wantWrapped_55 : decode cX6_wantWrapped 55 = .ok (.iload_n 2, 1) := by decide +kernel
theorem dX6_wantWrapped_56 : decode cX6_wantWrapped 56 = .ok (.isub, 1) := by decide +kernel
theorem dX6_wantWrapped_57 : decode cX6_wantWrapped 57 = .ok (.iload_n 1, 1) := by decide +kernel
theorem dX6_wantWrapped_58 : decode cX6_wantWrapped 58 = .ok (.if_icmp .ne 21, 3) := by decide +kernel
theorem dX6_wantWrapped_61 : decode cX6_wantWrapped 61 = .ok (.iload_n 3, 1) := by decide +kernel
theorem dX6_wantWrapped_62 : decode cX6_wantWrapped 62 = .ok (.ifCond .lt 17, 3) := by decide +kernel
theorem dX6_wantWrapped_65 : decode cX6_wantWrapped 65 = .ok (.aload_n 0, 1) := by decide +kernel
theorem dX6_wantWrapped_66 : decode cX6_wantWrapped 66 = .ok (.getfield 19, 3) := by decide +kernel
theorem dX6_wantWrapped_69 : decode cX6_wantWrapped 69 = .ok (.iload_n 3, 1) := by decide +kernel
theorem dX6_wantWrapped_70 : decode cX6_wantWrapped 70 = .ok (.bipush 47, 2) := by decide +kernel
theorem dX6_wantWrapped_72 : decode cX6_wantWrapped 72 = .ok (.castore, 1) := by decide +kernel
theorem dX6_wantWrapped_73 : decode cX6_wantWrapped 73 = .ok (.iload_n 3, 1) := by decide +kernel
theorem dX6_wantWrapped_74 : decode cX6_wantWrapped 74 = .ok (.iconst 1, 1) := by decide +kernel
theorem dX6_wantWrapped_75 : decode cX6_wantWrapped 75 = .ok (.iadd, 1) := by decide +kernel
theorem dX6_wantWrapped_76 : decode cX6_wantWrapped 76 = .ok (.istore_n 2, 1) := by decide +kernel
theorem dX6_wantWrapped_77 : decode cX6_wantWrapped 77 = .ok (.iconst (-1), 1) := by decide +kernel
theorem dX6_wantWrapped_78 : decode cX6_wantWrapped 78 = .ok (.istore_n 3, 1) := by decide +kernel
theorem dX6_wantWrapped_79 : decode cX6_wantWrapped 79 = .ok (.iinc 4 1, 3) := by decide +kernel
theorem dX6_wantWrapped_82 : decode cX6_wantWrapped 82 = .ok (.goto (-75), 3) := by decide +kernel
theorem dX6_wantWrapped_85 : decode cX6_wantWrapped 85 = .ok (.return_, 1) := by decide +kernel
theorem dX7_init_0 : decode cX7_init 0 = .ok (.aload_n 0, 1) := by decide +kernel
theorem dX7_init_1 : decode cX7_init 1 = .ok (.invokespecial 3, 3) := by decide +kernel
theorem dX7_init_4 : decode cX7_init 4 = .ok (.aload_n 0, 1) := by decide +kernel
theorem dX7_init_5 : decode cX7_init 5 = .ok (.sipush 150, 3) := by decide +kernel
theorem dX7_init_8 : decode cX7_init 8 = .ok (.newarray .int, 2) := by decide +kernel
theorem dX7_init_10 : decode cX7_init 10 = .ok (.putfield 9, 3) := by decide +kernel
theorem dX7_init_13 : decode cX7_init 13 = .ok (.aload_n 0, 1) := by decide +kernel
theorem dX7_init_14 : decode cX7_init 14 = .ok (.sipush 150, 3) := by decide +kernel
theorem dX7_init_17 : decode cX7_init 17 = .ok (.newarray .char, 2) := by decide +kernel
theorem dX7_init_19 : decode cX7_init 19 = .ok (.putfield 15, 3) := by decide +kernel
theorem dX7_init_22 : decode cX7_init 22 = .ok (.aload_n 0, 1) := by decide +kernel
theorem dX7_init_23 : decode cX7_init 23 = .ok (.sipush 150, 3) := by decide +kernel
theorem dX7_init_26 : decode cX7_init 26 = .ok (.newarray .boolean, 2) := by decide +kernel
theorem dX7_init_28 : decode cX7_init 28 = .ok (.putfield 19, 3) := by decide +kernel
theorem dX7_init_31 : decode cX7_init 31 = .ok (.return_, 1) := by decide +kernel
theorem dX7_empty_0 : decode cX7_empty 0 = .ok (.aload_n 0, 1) := by decide +kernel
theorem dX7_empty_1 : decode cX7_empty 1 = .ok (.iconst 0, 1) := by decide +kernel
theorem dX7_empty_2 : decode cX7_empty 2 = .ok (.putfield 23, 3) := by decide +kernel
theorem dX7_empty_5 : decode cX7_empty 5 = .ok (.return_, 1) := by decide +kernel
theorem dX7_count_0 : decode cX7_count 0 = .ok (.aload_n 0, 1) := by decide +kernel
theorem dX7_count_1 : decode cX7_count 1 = .ok (.getfield 23, 3) := by decide +kernel
theorem dX7_count_4 : decode cX7_count 4 = .ok (.ireturn, 1) := by decide +kernel
theorem dX7_isFull_0 : decode cX7_isFull 0 = .ok (.aload_n 0, 1) := by decide +kernel
theorem dX7_isFull_1 : decode cX7_isFull 1 = .ok (.getfield 23, 3) := by decide +kernel
theorem dX7_isFull_4 : decode cX7_isFull 4 = .ok (.sipush 150, 3) := by decide +kernel
theorem dX7_isFull_7 : decode cX7_isFull 7 = .ok (.if_icmp .lt 7, 3) := by decide +kernel
theorem dX7_isFull_10 : decode cX7_isFull 10 = .ok (.iconst 1, 1) := by decide +kernel
theorem dX7_isFull_11 : decode cX7_isFull 11 = .ok (.goto 4, 3) := by decide +kernel
theorem dX7_isFull_14 : decode cX7_isFull 14 = .ok (.iconst 0, 1) := by decide +kernel
theorem dX7_isFull_15 : decode cX7_isFull 15 = .ok (.ireturn, 1) := by decide +kernel
theorem dX7_has_0 : decode cX7_has 0 = .ok (.iload_n 1, 1) := by decide +kernel
theorem dX7_has_1 : decode cX7_has 1 = .ok (.ifCond .lt 15, 3) := by decide +kernel
theorem dX7_has_4 : decode cX7_has 4 = .ok (.iload_n 1, 1) := by decide +kernel
theorem dX7_has_5 : decode cX7_has 5 = .ok (.aload_n 0, 1) := by decide +kernel
theorem dX7_has_6 : decode cX7_has 6 = .ok (.getfield 23, 3) := by decide +kernel
theorem dX7_has_9 : decode cX7_has 9 = .ok (.if_icmp .ge 7, 3) := by decide +kernel
theorem dX7_has_12 : decode cX7_has 12 = .ok (.iconst 1, 1) := by decide +kernel
theorem dX7_has_13 : decode cX7_has 13 = .ok (.goto 4, 3) := by decide +kernel
theorem dX7_has_16 : decode cX7_has 16 = .ok (.iconst 0, 1) := by decide +kernel
theorem dX7_has_17 : decode cX7_has 17 = .ok (.ireturn, 1) := by decide +kernel
theorem dX7_shows_0 : decode cX7_shows 0 = .ok (.aload_n 0, 1) := by decide +kernel
theorem dX7_shows_1 : decode cX7_shows 1 = .ok (.iload_n 1, 1) := by decide +kernel
theorem dX7_shows_2 : decode cX7_shows 2 = .ok (.invokevirtual 27, 3) := by decide +kernel
theorem dX7_shows_5 : decode cX7_shows 5 = .ok (.ifCond .eq 16, 3) := by decide +kernel
theorem dX7_shows_8 : decode cX7_shows 8 = .ok (.aload_n 0, 1) := by decide +kernel
theorem dX7_shows_9 : decode cX7_shows 9 = .ok (.getfield 19, 3) := by decide +kernel
theorem dX7_shows_12 : decode cX7_shows 12 = .ok (.iload_n 1, 1) := by decide +kernel
theorem dX7_shows_13 : decode cX7_shows 13 = .ok (.baload, 1) := by decide +kernel
theorem dX7_shows_14 : decode cX7_shows 14 = .ok (.ifCond .eq 7, 3) := by decide +kernel
theorem dX7_shows_17 : decode cX7_shows 17 = .ok (.iconst 1, 1) := by decide +kernel
theorem dX7_shows_18 : decode cX7_shows 18 = .ok (.goto 4, 3) := by decide +kernel
theorem dX7_shows_21 : decode cX7_shows 21 = .ok (.iconst 0, 1) := by decide +kernel
theorem dX7_shows_22 : decode cX7_shows 22 = .ok (.ireturn, 1) := by decide +kernel
theorem dX7_signOf_0 : decode cX7_signOf 0 = .ok (.aload_n 0, 1) := by decide +kernel
theorem dX7_signOf_1 : decode cX7_signOf 1 = .ok (.iload_n 1, 1) := by decide +kernel
theorem dX7_signOf_2 : decode cX7_signOf 2 = .ok (.invokevirtual 27, 3) := by decide +kernel
theorem dX7_signOf_5 : decode cX7_signOf 5 = .ok (.ifCond .eq 12, 3) := by decide +kernel
theorem dX7_signOf_8 : decode cX7_signOf 8 = .ok (.aload_n 0, 1) := by decide +kernel
theorem dX7_signOf_9 : decode cX7_signOf 9 = .ok (.getfield 15, 3) := by decide +kernel
theorem dX7_signOf_12 : decode cX7_signOf 12 = .ok (.iload_n 1, 1) := by decide +kernel
theorem dX7_signOf_13 : decode cX7_signOf 13 = .ok (.caload, 1) := by decide +kernel
theorem dX7_signOf_14 : decode cX7_signOf 14 = .ok (.goto 4, 3) := by decide +kernel
theorem dX7_signOf_17 : decode cX7_signOf 17 = .ok (.iconst 0, 1) := by decide +kernel
theorem dX7_signOf_18 : decode cX7_signOf 18 = .ok (.ireturn, 1) := by decide +kernel
theorem dX7_letterAt_0 : decode cX7_letterAt 0 = .ok (.iload_n 1, 1) := by decide +kernel
theorem dX7_letterAt_1 : decode cX7_letterAt 1 = .ok (.ifCond .lt 20, 3) := by decide +kernel
theorem dX7_letterAt_4 : decode cX7_letterAt 4 = .ok (.iload_n 1, 1) := by decide +kernel
theorem dX7_letterAt_5 : decode cX7_letterAt 5 = .ok (.aload_n 0, 1) := by decide +kernel
theorem dX7_letterAt_6 : decode cX7_letterAt 6 = .ok (.getfield 23, 3) := by decide +kernel
theorem dX7_letterAt_9 : decode cX7_letterAt 9 = .ok (.if_icmp .ge 12, 3) := by decide +kernel
theorem dX7_letterAt_12 : decode cX7_letterAt 12 = .ok (.aload_n 0, 1) := by decide +kernel
theorem dX7_letterAt_13 : decode cX7_letterAt 13 = .ok (.getfield 9, 3) := by decide +kernel
theorem dX7_letterAt_16 : decode cX7_letterAt 16 = .ok (.iload_n 1, 1) := by decide +kernel
theorem dX7_letterAt_17 : decode cX7_letterAt 17 = .ok (.iaload, 1) := by decide +kernel
theorem dX7_letterAt_18 : decode cX7_letterAt 18 = .ok (.goto 4, 3) := by decide +kernel
theorem dX7_letterAt_21 : decode cX7_letterAt 21 = .ok (.iconst (-1), 1) := by decide +kernel
theorem dX7_letterAt_22 : decode cX7_letterAt 22 = .ok (.ireturn, 1) := by decide +kernel
theorem dX7_spotOf_0 : decode cX7_spotOf 0 = .ok (.iconst 0, 1) := by decide +kernel
theorem dX7_spotOf_1 : decode cX7_spotOf 1 = .ok (.istore_n 2, 1) := by decide +kernel
theorem dX7_spotOf_2 : decode cX7_spotOf 2 = .ok (.iload_n 2, 1) := by decide +kernel
theorem dX7_spotOf_3 : decode cX7_spotOf 3 = .ok (.aload_n 0, 1) := by decide +kernel
theorem dX7_spotOf_4 : decode cX7_spotOf 4 = .ok (.getfield 23, 3) := by decide +kernel
theorem dX7_spotOf_7 : decode cX7_spotOf 7 = .ok (.if_icmp .ge 21, 3) := by decide +kernel
theorem dX7_spotOf_10 : decode cX7_spotOf 10 = .ok (.aload_n 0, 1) := by decide +kernel
theorem dX7_spotOf_11 : decode cX7_spotOf 11 = .ok (.getfield 9, 3) := by decide +kernel
theorem dX7_spotOf_14 : decode cX7_spotOf 14 = .ok (.iload_n 2, 1) := by decide +kernel
theorem dX7_spotOf_15 : decode cX7_spotOf 15 = .ok (.iaload, 1) := by decide +kernel
theorem dX7_spotOf_16 : decode cX7_spotOf 16 = .ok (.iload_n 1, 1) := by decide +kernel
theorem dX7_spotOf_17 : decode cX7_spotOf 17 = .ok (.if_icmp .ne 5, 3) := by decide +kernel
theorem dX7_spotOf_20 : decode cX7_spotOf 20 = .ok (.iload_n 2, 1) := by decide +kernel
theorem dX7_spotOf_21 : decode cX7_spotOf 21 = .ok (.ireturn, 1) := by decide +kernel
theorem dX7_spotOf_22 : decode cX7_spotOf 22 = .ok (.iinc 2 1, 3) := by decide +kernel
theorem dX7_spotOf_25 : decode cX7_spotOf 25 = .ok (.goto (-23), 3) := by decide +kernel
theorem dX7_spotOf_28 : decode cX7_spotOf 28 = .ok (.aload_n 0, 1) := by decide +kernel
theorem dX7_spotOf_29 : decode cX7_spotOf 29 = .ok (.getfield 23, 3) := by decide +kernel
theorem dX7_spotOf_32 : decode cX7_spotOf 32 = .ok (.ireturn, 1) := by decide +kernel
theorem dX7_nearestShownAhead_0 : decode cX7_nearestShownAhead 0 = .ok (.iload_n 1, 1) := by decide +kernel
theorem dX7_nearestShownAhead_1 : decode cX7_nearestShownAhead 1 = .ok (.iconst 1, 1) := by decide +kernel
theorem dX7_nearestShownAhead_2 : decode cX7_nearestShownAhead 2 = .ok (.isub, 1) := by decide +kernel
theorem dX7_nearestShownAhead_3 : decode cX7_nearestShownAhead 3 = .ok (.istore_n 2, 1) := by decide +kernel
theorem dX7_nearestShownAhead_4 : decode cX7_nearestShownAhead 4 = .ok (.iload_n 2, 1) := by decide +kernel
theorem dX7_nearestShownAhead_5 : decode cX7_nearestShownAhead 5 = .ok (.ifCond .lt 27, 3) := by decide +kernel
theorem dX7_nearestShownAhead_8 : decode cX7_nearestShownAhead 8 = .ok (.aload_n 0, 1) := by decide +kernel
theorem dX7_nearestShownAhead_9 : decode cX7_nearestShownAhead 9 = .ok (.aload_n 0, 1) := by decide +kernel
theorem dX7_nearestShownAhead_10 : decode cX7_nearestShownAhead 10 = .ok (.iload_n 2, 1) := by decide +kernel
theorem dX7_nearestShownAhead_11 : decode cX7_nearestShownAhead 11 = .ok (.invokevirtual 31, 3) := by decide +kernel
theorem dX7_nearestShownAhead_14 : decode cX7_nearestShownAhead 14 = .ok (.invokevirtual 35, 3) := by decide +kernel
theorem dX7_nearestShownAhead_17 : decode cX7_nearestShownAhead 17 = .ok (.ifCond .eq 9, 3) := by decide +kernel
theorem dX7_nearestShownAhead_20 : decode cX7_nearestShownAhead 20 = .ok (.aload_n 0, 1) := by decide +kernel
theorem dX7_nearestShownAhead_21 : decode cX7_nearestShownAhead 21 = .ok (.iload_n 2, 1) := by decide +kernel
theorem dX7_nearestShownAhead_22 : decode cX7_nearestShownAhead 22 = .ok (.invokevirtual 31, 3) := by decide +kernel
theorem dX7_nearestShownAhead_25 : decode cX7_nearestShownAhead 25 = .ok (.ireturn, 1) := by decide +kernel
theorem dX7_nearestShownAhead_26 : decode cX7_nearestShownAhead 26 = .ok (.iinc 2 (-1), 3) := by decide +kernel
theorem dX7_nearestShownAhead_29 : decode cX7_nearestShownAhead 29 = .ok (.goto (-25), 3) := by decide +kernel
theorem dX7_nearestShownAhead_32 : decode cX7_nearestShownAhead 32 = .ok (.iconst (-1), 1) := by decide +kernel
theorem dX7_nearestShownAhead_33 : decode cX7_nearestShownAhead 33 = .ok (.ireturn, 1) := by decide +kernel
theorem dX7_nearestShownFrom_0 : decode cX7_nearestShownFrom 0 = .ok (.iload_n 1, 1) := by decide +kernel
theorem dX7_nearestShownFrom_1 : decode cX7_nearestShownFrom 1 = .ok (.istore_n 2, 1) := by decide +kernel
theorem dX7_nearestShownFrom_2 : decode cX7_nearestShownFrom 2 = .ok (.iload_n 2, 1) := by decide +kernel
theorem dX7_nearestShownFrom_3 : decode cX7_nearestShownFrom 3 = .ok (.aload_n 0, 1) := by decide +kernel
theorem dX7_nearestShownFrom_4 : decode cX7_nearestShownFrom 4 = .ok (.getfield 23, 3) := by decide +kernel
theorem dX7_nearestShownFrom_7 : decode cX7_nearestShownFrom 7 = .ok (.if_icmp .ge 27, 3) := by decide +kernel
theorem dX7_nearestShownFrom_10 : decode cX7_nearestShownFrom 10 = .ok (.aload_n 0, 1) := by decide +kernel
theorem dX7_nearestShownFrom_11 : decode cX7_nearestShownFrom 11 = .ok (.aload_n 0, 1) := by decide +kernel
theorem dX7_nearestShownFrom_12 : decode cX7_nearestShownFrom 12 = .ok (.iload_n 2, 1) := by decide +kernel
theorem dX7_nearestShownFrom_13 : decode cX7_nearestShownFrom 13 = .ok (.invokevirtual 31, 3) := by decide +kernel
theorem dX7_nearestShownFrom_16 : decode cX7_nearestShownFrom 16 = .ok (.invokevirtual 35, 3) := by decide +kernel
theorem dX7_nearestShownFrom_19 : decode cX7_nearestShownFrom 19 = .ok (.ifCond .eq 9, 3) := by decide +kernel
theorem dX7_nearestShownFrom_22 : decode cX7_nearestShownFrom 22 = .ok (.aload_n 0, 1) := by decide +kernel
theorem dX7_nearestShownFrom_23 : decode cX7_nearestShownFrom 23 = .ok (.iload_n 2, 1) := by decide +kernel
theorem dX7_nearestShownFrom_24 : decode cX7_nearestShownFrom 24 = .ok (.invokevirtual 31, 3) := by decide +kernel
theorem dX7_nearestShownFrom_27 : decode cX7_nearestShownFrom 27 = .ok (.ireturn, 1) := by decide +kernel
theorem dX7_nearestShownFrom_28 : decode cX7_nearestShownFrom 28 = .ok (.iinc 2 1, 3) := by decide +kernel
theorem dX7_nearestShownFrom_31 : decode cX7_nearestShownFrom 31 = .ok (.goto (-29), 3) := by decide +kernel
theorem dX7_nearestShownFrom_34 : decode cX7_nearestShownFrom 34 = .ok (.iconst (-1), 1) := by decide +kernel
theorem dX7_nearestShownFrom_35 : decode cX7_nearestShownFrom 35 = .ok (.ireturn, 1) := by decide +kernel
theorem dX7_shownCount_0 : decode cX7_shownCount 0 = .ok (.aload_n 0, 1) := by decide +kernel
theorem dX7_shownCount_1 : decode cX7_shownCount 1 = .ok (.aload_n 0, 1) := by decide +kernel
theorem dX7_shownCount_2 : decode cX7_shownCount 2 = .ok (.getfield 23, 3) := by decide +kernel
theorem dX7_shownCount_5 : decode cX7_shownCount 5 = .ok (.invokevirtual 38, 3) := by decide +kernel
theorem dX7_shownCount_8 : decode cX7_shownCount 8 = .ok (.ireturn, 1) := by decide +kernel
theorem dX7_shownCountAhead_0 : decode cX7_shownCountAhead 0 = .ok (.iconst 0, 1) := by decide +kernel
theorem dX7_shownCountAhead_1 : decode cX7_shownCountAhead 1 = .ok (.istore_n 2, 1) := by decide +kernel
theorem dX7_shownCountAhead_2 : decode cX7_shownCountAhead 2 = .ok (.iconst 0, 1) := by decide +kernel
theorem dX7_shownCountAhead_3 : decode cX7_shownCountAhead 3 = .ok (.istore_n 3, 1) := by decide +kernel
theorem dX7_shownCountAhead_4 : decode cX7_shownCountAhead 4 = .ok (.iload_n 3, 1) := by decide +kernel
theorem dX7_shownCountAhead_5 : decode cX7_shownCountAhead 5 = .ok (.iload_n 1, 1) := by decide +kernel
theorem dX7_shownCountAhead_6 : decode cX7_shownCountAhead 6 = .ok (.if_icmp .ge 24, 3) := by decide +kernel
theorem dX7_shownCountAhead_9 : decode cX7_shownCountAhead 9 = .ok (.aload_n 0, 1) := by decide +kernel
theorem dX7_shownCountAhead_10 : decode cX7_shownCountAhead 10 = .ok (.aload_n 0, 1) := by decide +kernel
theorem dX7_shownCountAhead_11 : decode cX7_shownCountAhead 11 = .ok (.iload_n 3, 1) := by decide +kernel
theorem dX7_shownCountAhead_12 : decode cX7_shownCountAhead 12 = .ok (.invokevirtual 31, 3) := by decide +kernel
theorem dX7_shownCountAhead_15 : decode cX7_shownCountAhead 15 = .ok (.invokevirtual 35, 3) := by decide +kernel
theorem dX7_shownCountAhead_18 : decode cX7_shownCountAhead 18 = .ok (.ifCond .eq 6, 3) := by decide +kernel
theorem dX7_shownCountAhead_21 : decode cX7_shownCountAhead 21 = .ok (.iinc 2 1, 3) := by decide +kernel
theorem dX7_shownCountAhead_24 : decode cX7_shownCountAhead 24 = .ok (.iinc 3 1, 3) := by decide +kernel
theorem dX7_shownCountAhead_27 : decode cX7_shownCountAhead 27 = .ok (.goto (-23), 3) := by decide +kernel
theorem dX7_shownCountAhead_30 : decode cX7_shownCountAhead 30 = .ok (.iload_n 2, 1) := by decide +kernel
theorem dX7_shownCountAhead_31 : decode cX7_shownCountAhead 31 = .ok (.ireturn, 1) := by decide +kernel
theorem dX7_shownLetter_0 : decode cX7_shownLetter 0 = .ok (.iconst 0, 1) := by decide +kernel
theorem dX7_shownLetter_1 : decode cX7_shownLetter 1 = .ok (.istore_n 2, 1) := by decide +kernel
theorem dX7_shownLetter_2 : decode cX7_shownLetter 2 = .ok (.iconst 0, 1) := by decide +kernel
theorem dX7_shownLetter_3 : decode cX7_shownLetter 3 = .ok (.istore_n 3, 1) := by decide +kernel
theorem dX7_shownLetter_4 : decode cX7_shownLetter 4 = .ok (.iload_n 3, 1) := by decide +kernel
theorem dX7_shownLetter_5 : decode cX7_shownLetter 5 = .ok (.aload_n 0, 1) := by decide +kernel
theorem dX7_shownLetter_6 : decode cX7_shownLetter 6 = .ok (.getfield 23, 3) := by decide +kernel
theorem dX7_shownLetter_9 : decode cX7_shownLetter 9 = .ok (.if_icmp .ge 37, 3) := by decide +kernel
theorem dX7_shownLetter_12 : decode cX7_shownLetter 12 = .ok (.aload_n 0, 1) := by decide +kernel
theorem dX7_shownLetter_13 : decode cX7_shownLetter 13 = .ok (.aload_n 0, 1) := by decide +kernel
theorem dX7_shownLetter_14 : decode cX7_shownLetter 14 = .ok (.getfield 9, 3) := by decide +kernel
theorem dX7_shownLetter_17 : decode cX7_shownLetter 17 = .ok (.iload_n 3, 1) := by decide +kernel
theorem dX7_shownLetter_18 : decode cX7_shownLetter 18 = .ok (.iaload, 1) := by decide +kernel
theorem dX7_shownLetter_19 : decode cX7_shownLetter 19 = .ok (.invokevirtual 35, 3) := by decide +kernel
theorem dX7_shownLetter_22 : decode cX7_shownLetter 22 = .ok (.ifCond .eq 18, 3) := by decide +kernel
theorem dX7_shownLetter_25 : decode cX7_shownLetter 25 = .ok (.iload_n 2, 1) := by decide +kernel
theorem dX7_shownLetter_26 : decode cX7_shownLetter 26 = .ok (.iload_n 1, 1) := by decide +kernel
theorem dX7_shownLetter_27 : decode cX7_shownLetter 27 = .ok (.if_icmp .ne 10, 3) := by decide +kernel
theorem dX7_shownLetter_30 : decode cX7_shownLetter 30 = .ok (.aload_n 0, 1) := by decide +kernel
theorem dX7_shownLetter_31 : decode cX7_shownLetter 31 = .ok (.getfield 9, 3) := by decide +kernel
theorem dX7_shownLetter_34 : decode cX7_shownLetter 34 = .ok (.iload_n 3, 1) := by decide +kernel
theorem dX7_shownLetter_35 : decode cX7_shownLetter 35 = .ok (.iaload, 1) := by decide +kernel
theorem dX7_shownLetter_36 : decode cX7_shownLetter 36 = .ok (.ireturn, 1) := by decide +kernel
theorem dX7_shownLetter_37 : decode cX7_shownLetter 37 = .ok (.iinc 2 1, 3) := by decide +kernel
theorem dX7_shownLetter_40 : decode cX7_shownLetter 40 = .ok (.iinc 3 1, 3) := by decide +kernel
theorem dX7_shownLetter_43 : decode cX7_shownLetter 43 = .ok (.goto (-39), 3) := by decide +kernel
theorem dX7_shownLetter_46 : decode cX7_shownLetter 46 = .ok (.iconst (-1), 1) := by decide +kernel
theorem dX7_shownLetter_47 : decode cX7_shownLetter 47 = .ok (.ireturn, 1) := by decide +kernel
theorem dX7_put_0 : decode cX7_put 0 = .ok (.aload_n 0, 1) := by decide +kernel
theorem dX7_put_1 : decode cX7_put 1 = .ok (.invokevirtual 41, 3) := by decide +kernel
theorem dX7_put_4 : decode cX7_put 4 = .ok (.ifCond .ne 15, 3) := by decide +kernel
theorem dX7_put_7 : decode cX7_put 7 = .ok (.iload_n 1, 1) := by decide +kernel
theorem dX7_put_8 : decode cX7_put 8 = .ok (.ifCond .lt 11, 3) := by decide +kernel
theorem dX7_put_11 : decode cX7_put 11 = .ok (.iload_n 1, 1) := by decide +kernel
theorem dX7_put_12 : decode cX7_put 12 = .ok (.aload_n 0, 1) := by decide +kernel
theorem dX7_put_13 : decode cX7_put 13 = .ok (.getfield 23, 3) := by decide +kernel
theorem dX7_put_16 : decode cX7_put 16 = .ok (.if_icmp .le 4, 3) := by decide +kernel
theorem dX7_put_19 : decode cX7_put 19 = .ok (.return_, 1) := by decide +kernel
theorem dX7_put_20 : decode cX7_put 20 = .ok (.aload_n 0, 1) := by decide +kernel
theorem dX7_put_21 : decode cX7_put 21 = .ok (.getfield 9, 3) := by decide +kernel
theorem dX7_put_24 : decode cX7_put 24 = .ok (.iload_n 1, 1) := by decide +kernel
theorem dX7_put_25 : decode cX7_put 25 = .ok (.aload_n 0, 1) := by decide +kernel
theorem dX7_put_26 : decode cX7_put 26 = .ok (.getfield 9, 3) := by decide +kernel
theorem dX7_put_29 : decode cX7_put 29 = .ok (.iload_n 1, 1) := by decide +kernel
theorem dX7_put_30 : decode cX7_put 30 = .ok (.iconst 1, 1) := by decide +kernel
theorem dX7_put_31 : decode cX7_put 31 = .ok (.iadd, 1) := by decide +kernel
theorem dX7_put_32 : decode cX7_put 32 = .ok (.aload_n 0, 1) := by decide +kernel
theorem dX7_put_33 : decode cX7_put 33 = .ok (.getfield 23, 3) := by decide +kernel
theorem dX7_put_36 : decode cX7_put 36 = .ok (.iload_n 1, 1) := by decide +kernel
theorem dX7_put_37 : decode cX7_put 37 = .ok (.isub, 1) := by decide +kernel
theorem dX7_put_38 : decode cX7_put 38 = .ok (.invokestatic 45, 3) := by decide +kernel
theorem dX7_put_41 : decode cX7_put 41 = .ok (.aload_n 0, 1) := by decide +kernel
theorem dX7_put_42 : decode cX7_put 42 = .ok (.getfield 9, 3) := by decide +kernel
theorem dX7_put_45 : decode cX7_put 45 = .ok (.iload_n 1, 1) := by decide +kernel
theorem dX7_put_46 : decode cX7_put 46 = .ok (.aload_n 0, 1) := by decide +kernel
theorem dX7_put_47 : decode cX7_put 47 = .ok (.getfield 23, 3) := by decide +kernel
theorem dX7_put_50 : decode cX7_put 50 = .ok (.iastore, 1) := by decide +kernel
theorem dX7_put_51 : decode cX7_put 51 = .ok (.aload_n 0, 1) := by decide +kernel
theorem dX7_put_52 : decode cX7_put 52 = .ok (.getfield 15, 3) := by decide +kernel
theorem dX7_put_55 : decode cX7_put 55 = .ok (.aload_n 0, 1) := by decide +kernel
theorem dX7_put_56 : decode cX7_put 56 = .ok (.getfield 23, 3) := by decide +kernel
theorem dX7_put_59 : decode cX7_put 59 = .ok (.iload_n 2, 1) := by decide +kernel
theorem dX7_put_60 : decode cX7_put 60 = .ok (.castore, 1) := by decide +kernel
theorem dX7_put_61 : decode cX7_put 61 = .ok (.aload_n 0, 1) := by decide +kernel
theorem dX7_put_62 : decode cX7_put 62 = .ok (.getfield 19, 3) := by decide +kernel
theorem dX7_put_65 : decode cX7_put 65 = .ok (.aload_n 0, 1) := by decide +kernel
theorem dX7_put_66 : decode cX7_put 66 = .ok (.getfield 23, 3) := by decide +kernel
theorem dX7_put_69 : decode cX7_put 69 = .ok (.iconst 1, 1) := by decide +kernel
theorem dX7_put_70 : decode cX7_put 70 = .ok (.bastore, 1) := by decide +kernel
theorem dX7_put_71 : decode cX7_put 71 = .ok (.aload_n 0, 1) := by decide +kernel
theorem dX7_put_72 : decode cX7_put 72 = .ok (.dup, 1) := by decide +kernel
theorem dX7_put_73 : decode cX7_put 73 = .ok (.getfield 23, 3) := by decide +kernel
theorem dX7_put_76 : decode cX7_put 76 = .ok (.iconst 1, 1) := by decide +kernel
theorem dX7_put_77 : decode cX7_put 77 = .ok (.iadd, 1) := by decide +kernel
theorem dX7_put_78 : decode cX7_put 78 = .ok (.putfield 23, 3) := by decide +kernel
theorem dX7_put_81 : decode cX7_put 81 = .ok (.return_, 1) := by decide +kernel
theorem dX7_setThere_0 : decode cX7_setThere 0 = .ok (.aload_n 0, 1) := by decide +kernel
theorem dX7_setThere_1 : decode cX7_setThere 1 = .ok (.iload_n 1, 1) := by decide +kernel
theorem dX7_setThere_2 : decode cX7_setThere 2 = .ok (.invokevirtual 27, 3) := by decide +kernel
theorem dX7_setThere_5 : decode cX7_setThere 5 = .ok (.ifCond .eq 10, 3) := by decide +kernel
theorem dX7_setThere_8 : decode cX7_setThere 8 = .ok (.aload_n 0, 1) := by decide +kernel
theorem dX7_setThere_9 : decode cX7_setThere 9 = .ok (.getfield 19, 3) := by decide +kernel
theorem dX7_setThere_12 : decode cX7_setThere 12 = .ok (.iload_n 1, 1) := by decide +kernel
theorem dX7_setThere_13 : decode cX7_setThere 13 = .ok (.iload_n 2, 1) := by decide +kernel
theorem dX7_setThere_14 : decode cX7_setThere 14 = .ok (.bastore, 1) := by decide +kernel
theorem dX7_setThere_15 : decode cX7_setThere 15 = .ok (.return_, 1) := by decide +kernel
theorem dX7_setSign_0 : decode cX7_setSign 0 = .ok (.aload_n 0, 1) := by decide +kernel
theorem dX7_setSign_1 : decode cX7_setSign 1 = .ok (.iload_n 1, 1) := by decide +kernel
theorem dX7_setSign_2 : decode cX7_setSign 2 = .ok (.invokevirtual 27, 3) := by decide +kernel
theorem dX7_setSign_5 : decode cX7_setSign 5 = .ok (.ifCond .eq 10, 3) := by decide +kernel
theorem dX7_setSign_8 : decode cX7_setSign 8 = .ok (.aload_n 0, 1) := by decide +kernel
theorem dX7_setSign_9 : decode cX7_setSign 9 = .ok (.getfield 15, 3) := by decide +kernel
theorem dX7_setSign_12 : decode cX7_setSign 12 = .ok (.iload_n 1, 1) := by decide +kernel
theorem dX7_setSign_13 : decode cX7_setSign 13 = .ok (.iload_n 2, 1) := by decide +kernel
theorem dX7_setSign_14 : decode cX7_setSign 14 = .ok (.castore, 1) := by decide +kernel
theorem dX7_setSign_15 : decode cX7_setSign 15 = .ok (.return_, 1) := by decide +kernel
theorem dX8_init_0 : decode cX8_init 0 = .ok (.aload_n 0, 1) := by decide +kernel
theorem dX8_init_1 : decode cX8_init 1 = .ok (.invokespecial 3, 3) := by decide +kernel
theorem dX8_init_4 : decode cX8_init 4 = .ok (.aload_n 0, 1) := by decide +kernel
theorem dX8_init_5 : decode cX8_init 5 = .ok (.iload_n 1, 1) := by decide +kernel
theorem dX8_init_6 : decode cX8_init 6 = .ok (.putfield 9, 3) := by decide +kernel
theorem dX8_init_9 : decode cX8_init 9 = .ok (.aload_n 0, 1) := by decide +kernel
theorem dX8_init_10 : decode cX8_init 10 = .ok (.iload_n 2, 1) := by decide +kernel
theorem dX8_init_11 : decode cX8_init 11 = .ok (.putfield 15, 3) := by decide +kernel
theorem dX8_init_14 : decode cX8_init 14 = .ok (.aload_n 0, 1) := by decide +kernel
theorem dX8_init_15 : decode cX8_init 15 = .ok (.aload_n 3, 1) := by decide +kernel
theorem dX8_init_16 : decode cX8_init 16 = .ok (.putfield 18, 3) := by decide +kernel
theorem dX8_init_19 : decode cX8_init 19 = .ok (.aload_n 0, 1) := by decide +kernel
theorem dX8_init_20 : decode cX8_init 20 = .ok (.aload 4, 2) := by decide +kernel
theorem dX8_init_22 : decode cX8_init 22 = .ok (.putfield 22, 3) := by decide +kernel
theorem dX8_init_25 : decode cX8_init 25 = .ok (.return_, 1) := by decide +kernel
theorem dX8_isReady_0 : decode cX8_isReady 0 = .ok (.aload_n 0, 1) := by decide +kernel
theorem dX8_isReady_1 : decode cX8_isReady 1 = .ok (.getfield 22, 3) := by decide +kernel
theorem dX8_isReady_4 : decode cX8_isReady 4 = .ok (.ifnull 13, 3) := by decide +kernel
theorem dX8_isReady_7 : decode cX8_isReady 7 = .ok (.aload_n 0, 1) := by decide +kernel
theorem dX8_isReady_8 : decode cX8_isReady 8 = .ok (.getfield 22, 3) := by decide +kernel
theorem dX8_isReady_11 : decode cX8_isReady 11 = .ok (.getfield 26, 3) := by decide +kernel
theorem dX8_isReady_14 : decode cX8_isReady 14 = .ok (.ifCond .eq 21, 3) := by decide +kernel
theorem dX8_isReady_17 : decode cX8_isReady 17 = .ok (.aload_n 0, 1) := by decide +kernel
theorem dX8_isReady_18 : decode cX8_isReady 18 = .ok (.getfield 18, 3) := by decide +kernel
theorem dX8_isReady_21 : decode cX8_isReady 21 = .ok (.aload_n 0, 1) := by decide +kernel
theorem dX8_isReady_22 : decode cX8_isReady 22 = .ok (.getfield 15, 3) := by decide +kernel
theorem dX8_isReady_25 : decode cX8_isReady 25 = .ok (.invokevirtual 31, 3) := by decide +kernel
theorem dX8_isReady_28 : decode cX8_isReady 28 = .ok (.ifCond .eq 7, 3) := by decide +kernel
theorem dX8_isReady_31 : decode cX8_isReady 31 = .ok (.iconst 1, 1) := by decide +kernel
theorem dX8_isReady_32 : decode cX8_isReady 32 = .ok (.goto 4, 3) := by decide +kernel
theorem dX8_isReady_35 : decode cX8_isReady 35 = .ok (.iconst 0, 1) := by decide +kernel
theorem dX8_isReady_36 : decode cX8_isReady 36 = .ok (.ireturn, 1) := by decide +kernel
theorem dX9_init_0 : decode cX9_init 0 = .ok (.aload_n 0, 1) := by decide +kernel
theorem dX9_init_1 : decode cX9_init 1 = .ok (.invokespecial 3, 3) := by decide +kernel
theorem dX9_init_4 : decode cX9_init 4 = .ok (.aload_n 0, 1) := by decide +kernel
theorem dX9_init_5 : decode cX9_init 5 = .ok (.new 9, 3) := by decide +kernel
theorem dX9_init_8 : decode cX9_init 8 = .ok (.dup, 1) := by decide +kernel
theorem dX9_init_9 : decode cX9_init 9 = .ok (.invokespecial 11, 3) := by decide +kernel
theorem dX9_init_12 : decode cX9_init 12 = .ok (.putfield 12, 3) := by decide +kernel
theorem dX9_init_15 : decode cX9_init 15 = .ok (.aload_n 0, 1) := by decide +kernel
theorem dX9_init_16 : decode cX9_init 16 = .ok (.sipush 150, 3) := by decide +kernel
theorem dX9_init_19 : decode cX9_init 19 = .ok (.newarray .char, 2) := by decide +kernel
theorem dX9_init_21 : decode cX9_init 21 = .ok (.putfield 18, 3) := by decide +kernel
theorem dX9_init_24 : decode cX9_init 24 = .ok (.aload_n 0, 1) := by decide +kernel
theorem dX9_init_25 : decode cX9_init 25 = .ok (.iconst (-1), 1) := by decide +kernel
theorem dX9_init_26 : decode cX9_init 26 = .ok (.putfield 22, 3) := by decide +kernel
theorem dX9_init_29 : decode cX9_init 29 = .ok (.aload_n 0, 1) := by decide +kernel
theorem dX9_init_30 : decode cX9_init 30 = .ok (.iconst (-1), 1) := by decide +kernel
theorem dX9_init_31 : decode cX9_init 31 = .ok (.putfield 26, 3) := by decide +kernel
theorem dX9_init_34 : decode cX9_init 34 = .ok (.aload_n 0, 1) := by decide +kernel
theorem dX9_init_35 : decode cX9_init 35 = .ok (.new 9, 3) := by decide +kernel
theorem dX9_init_38 : decode cX9_init 38 = .ok (.dup, 1) := by decide +kernel
theorem dX9_init_39 : decode cX9_init 39 = .ok (.invokespecial 11, 3) := by decide +kernel
theorem dX9_init_42 : decode cX9_init 42 = .ok (.putfield 29, 3) := by decide +kernel
theorem dX9_init_45 : decode cX9_init 45 = .ok (.aload_n 0, 1) := by decide +kernel
theorem dX9_init_46 : decode cX9_init 46 = .ok (.new 32, 3) := by decide +kernel
theorem dX9_init_49 : decode cX9_init 49 = .ok (.dup, 1) := by decide +kernel
theorem dX9_init_50 : decode cX9_init 50 = .ok (.invokespecial 34, 3) := by decide +kernel
theorem dX9_init_53 : decode cX9_init 53 = .ok (.putfield 35, 3) := by decide +kernel
theorem dX9_init_56 : decode cX9_init 56 = .ok (.aload_n 0, 1) := by decide +kernel
theorem dX9_init_57 : decode cX9_init 57 = .ok (.iconst 5, 1) := by decide +kernel
theorem dX9_init_58 : decode cX9_init 58 = .ok (.newarray .int, 2) := by decide +kernel
theorem dX9_init_60 : decode cX9_init 60 = .ok (.putfield 39, 3) := by decide +kernel
theorem dX9_init_63 : decode cX9_init 63 = .ok (.aload_n 0, 1) := by decide +kernel
theorem dX9_init_64 : decode cX9_init 64 = .ok (.iload_n 1, 1) := by decide +kernel
theorem dX9_init_65 : decode cX9_init 65 = .ok (.putfield 43, 3) := by decide +kernel
theorem dX9_init_68 : decode cX9_init 68 = .ok (.iconst 0, 1) := by decide +kernel
theorem dX9_init_69 : decode cX9_init 69 = .ok (.istore_n 2, 1) := by decide +kernel
theorem dX9_init_70 : decode cX9_init 70 = .ok (.iload_n 2, 1) := by decide +kernel
theorem dX9_init_71 : decode cX9_init 71 = .ok (.iconst 5, 1) := by decide +kernel
theorem dX9_init_72 : decode cX9_init 72 = .ok (.if_icmp .ge 16, 3) := by decide +kernel
theorem dX9_init_75 : decode cX9_init 75 = .ok (.aload_n 0, 1) := by decide +kernel
theorem dX9_init_76 : decode cX9_init 76 = .ok (.getfield 39, 3) := by decide +kernel
theorem dX9_init_79 : decode cX9_init 79 = .ok (.iload_n 2, 1) := by decide +kernel
theorem dX9_init_80 : decode cX9_init 80 = .ok (.iconst (-1), 1) := by decide +kernel
theorem dX9_init_81 : decode cX9_init 81 = .ok (.iastore, 1) := by decide +kernel
theorem dX9_init_82 : decode cX9_init 82 = .ok (.iinc 2 1, 3) := by decide +kernel
theorem dX9_init_85 : decode cX9_init 85 = .ok (.goto (-15), 3) := by decide +kernel
theorem dX9_init_88 : decode cX9_init 88 = .ok (.return_, 1) := by decide +kernel
theorem dX9_isFreeFor_0 : decode cX9_isFreeFor 0 = .ok (.aload_n 0, 1) := by decide +kernel
theorem dX9_isFreeFor_1 : decode cX9_isFreeFor 1 = .ok (.getfield 22, 3) := by decide +kernel
theorem dX9_isFreeFor_4 : decode cX9_isFreeFor 4 = .ok (.iconst (-1), 1) := by decide +kernel
theorem dX9_isFreeFor_5 : decode cX9_isFreeFor 5 = .ok (.if_icmp .eq 11, 3) := by decide +kernel
theorem dX9_isFreeFor_8 : decode cX9_isFreeFor 8 = .ok (.aload_n 0, 1) := by decide +kernel
theorem dX9_isFreeFor_9 : decode cX9_isFreeFor 9 = .ok (.getfield 22, 3) := by decide +kernel
theorem dX9_isFreeFor_12 : decode cX9_isFreeFor 12 = .ok (.iload_n 1, 1) := by decide +kernel
theorem dX9_isFreeFor_13 : decode cX9_isFreeFor 13 = .ok (.if_icmp .ne 7, 3) := by decide +kernel
theorem dX9_isFreeFor_16 : decode cX9_isFreeFor 16 = .ok (.iconst 1, 1) := by decide +kernel
theorem dX9_isFreeFor_17 : decode cX9_isFreeFor 17 = .ok (.goto 4, 3) := by decide +kernel
theorem dX9_isFreeFor_20 : decode cX9_isFreeFor 20 = .ok (.iconst 0, 1) := by decide +kernel
theorem dX9_isFreeFor_21 : decode cX9_isFreeFor 21 = .ok (.ireturn, 1) := by decide +kernel
theorem dX9_cursorPlace_0 : decode cX9_cursorPlace 0 = .ok (.aload_n 0, 1) := by decide +kernel
theorem dX9_cursorPlace_1 : decode cX9_cursorPlace 1 = .ok (.getfield 12, 3) := by decide +kernel
theorem dX9_cursorPlace_4 : decode cX9_cursorPlace 4 = .ok (.aload_n 0, 1) := by decide +kernel
theorem dX9_cursorPlace_5 : decode cX9_cursorPlace 5 = .ok (.iload_n 1, 1) := by decide +kernel
theorem dX9_cursorPlace_6 : decode cX9_cursorPlace 6 = .ok (.invokevirtual 46, 3) := by decide +kernel
theorem dX9_cursorPlace_9 : decode cX9_cursorPlace 9 = .ok (.invokevirtual 50, 3) := by decide +kernel
theorem dX9_cursorPlace_12 : decode cX9_cursorPlace 12 = .ok (.ireturn, 1) := by decide +kernel
theorem dX9_letterAheadOfCursor_0 : decode cX9_letterAheadOfCursor 0 = .ok (.aload_n 0, 1) := by decide +kernel
theorem dX9_letterAheadOfCursor_1 : decode cX9_letterAheadOfCursor 1 = .ok (.getfield 12, 3) := by decide +kernel
theorem dX9_letterAheadOfCursor_4 : decode cX9_letterAheadOfCursor 4 = .ok (.aload_n 0, 1) := by decide +kernel
theorem dX9_letterAheadOfCursor_5 : decode cX9_letterAheadOfCursor 5 = .ok (.iload_n 1, 1) := by decide +kernel
theorem dX9_letterAheadOfCursor_6 : decode cX9_letterAheadOfCursor 6 = .ok (.invokevirtual 46, 3) := by decide +kernel
theorem dX9_letterAheadOfCursor_9 : decode cX9_letterAheadOfCursor 9 = .ok (.invokevirtual 53, 3) := by decide +kernel
theorem dX9_letterAheadOfCursor_12 : decode cX9_letterAheadOfCursor 12 = .ok (.ireturn, 1) := by decide +kernel
theorem dX9_setCursor_0 : decode cX9_setCursor 0 = .ok (.iload_n 1, 1) := by decide +kernel
theorem dX9_setCursor_1 : decode cX9_setCursor 1 = .ok (.ifCond .lt 15, 3) := by decide +kernel
theorem dX9_setCursor_4 : decode cX9_setCursor 4 = .ok (.iload_n 1, 1) := by decide +kernel
theorem dX9_setCursor_5 : decode cX9_setCursor 5 = .ok (.iconst 5, 1) := by decide +kernel
theorem dX9_setCursor_6 : decode cX9_setCursor 6 = .ok (.if_icmp .ge 10, 3) := by decide +kernel
theorem dX9_setCursor_9 : decode cX9_setCursor 9 = .ok (.aload_n 0, 1) := by decide +kernel
theorem dX9_setCursor_10 : decode cX9_setCursor 10 = .ok (.getfield 39, 3) := by decide +kernel
theorem dX9_setCursor_13 : decode cX9_setCursor 13 = .ok (.iload_n 1, 1) := by decide +kernel
theorem dX9_setCursor_14 : decode cX9_setCursor 14 = .ok (.iload_n 2, 1) := by decide +kernel
theorem dX9_setCursor_15 : decode cX9_setCursor 15 = .ok (.iastore, 1) := by decide +kernel
theorem dX9_setCursor_16 : decode cX9_setCursor 16 = .ok (.return_, 1) := by decide +kernel
theorem dX9_hasCursorAt_0 : decode cX9_hasCursorAt 0 = .ok (.iconst 0, 1) := by decide +kernel
theorem dX9_hasCursorAt_1 : decode cX9_hasCursorAt 1 = .ok (.istore_n 2, 1) := by decide +kernel
theorem dX9_hasCursorAt_2 : decode cX9_hasCursorAt 2 = .ok (.iload_n 2, 1) := by decide +kernel
theorem dX9_hasCursorAt_3 : decode cX9_hasCursorAt 3 = .ok (.iconst 5, 1) := by decide +kernel
theorem dX9_hasCursorAt_4 : decode cX9_hasCursorAt 4 = .ok (.if_icmp .ge 21, 3) := by decide +kernel
theorem dX9_hasCursorAt_7 : decode cX9_hasCursorAt 7 = .ok (.aload_n 0, 1) := by decide +kernel
theorem dX9_hasCursorAt_8 : decode cX9_hasCursorAt 8 = .ok (.getfield 39, 3) := by decide +kernel
theorem dX9_hasCursorAt_11 : decode cX9_hasCursorAt 11 = .ok (.iload_n 2, 1) := by decide +kernel
theorem dX9_hasCursorAt_12 : decode cX9_hasCursorAt 12 = .ok (.iaload, 1) := by decide +kernel
theorem dX9_hasCursorAt_13 : decode cX9_hasCursorAt 13 = .ok (.iload_n 1, 1) := by decide +kernel
theorem dX9_hasCursorAt_14 : decode cX9_hasCursorAt 14 = .ok (.if_icmp .ne 5, 3) := by decide +kernel
theorem dX9_hasCursorAt_17 : decode cX9_hasCursorAt 17 = .ok (.iconst 1, 1) := by decide +kernel
theorem dX9_hasCursorAt_18 : decode cX9_hasCursorAt 18 = .ok (.ireturn, 1) := by decide +kernel
theorem dX9_hasCursorAt_19 : decode cX9_hasCursorAt 19 = .ok (.iinc 2 1, 3) := by decide +kernel
theorem dX9_hasCursorAt_22 : decode cX9_hasCursorAt 22 = .ok (.goto (-20), 3) := by decide +kernel
theorem dX9_hasCursorAt_25 : decode cX9_hasCursorAt 25 = .ok (.iconst 0, 1) := by decide +kernel
theorem dX9_hasCursorAt_26 : decode cX9_hasCursorAt 26 = .ok (.ireturn, 1) := by decide +kernel
theorem dX9_putAheadOfCursor_0 : decode cX9_putAheadOfCursor 0 = .ok (.aload_n 0, 1) := by decide +kernel
theorem dX9_putAheadOfCursor_1 : decode cX9_putAheadOfCursor 1 = .ok (.getfield 12, 3) := by decide +kernel
theorem dX9_putAheadOfCursor_4 : decode cX9_putAheadOfCursor 4 = .ok (.invokevirtual 56, 3) := by decide +kernel
theorem dX9_putAheadOfCursor_7 : decode cX9_putAheadOfCursor 7 = .ok (.istore_n 3, 1) := by decide +kernel
theorem dX9_putAheadOfCursor_8 : decode cX9_putAheadOfCursor 8 = .ok (.aload_n 0, 1) := by decide +kernel
theorem dX9_putAheadOfCursor_9 : decode cX9_putAheadOfCursor 9 = .ok (.new 60, 3) := by decide +kernel
theorem dX9_putAheadOfCursor_12 : decode cX9_putAheadOfCursor 12 = .ok (.dup, 1) := by decide +kernel
theorem dX9_putAheadOfCursor_13 : decode cX9_putAheadOfCursor 13 = .ok (.iconst 0, 1) := by decide +kernel
theorem dX9_putAheadOfCursor_14 : decode cX9_putAheadOfCursor 14 = .ok (.aload_n 0, 1) := by decide +kernel
theorem dX9_putAheadOfCursor_15 : decode cX9_putAheadOfCursor 15 = .ok (.iload_n 1, 1) := by decide +kernel
theorem dX9_putAheadOfCursor_16 : decode cX9_putAheadOfCursor 16 = .ok (.invokevirtual 46, 3) := by decide +kernel
theorem dX9_putAheadOfCursor_19 : decode cX9_putAheadOfCursor 19 = .ok (.iload_n 2, 1) := by decide +kernel
theorem dX9_putAheadOfCursor_20 : decode cX9_putAheadOfCursor 20 = .ok (.invokespecial 62, 3) := by decide +kernel
theorem dX9_putAheadOfCursor_23 : decode cX9_putAheadOfCursor 23 = .ok (.invokevirtual 65, 3) := by decide +kernel
theorem dX9_putAheadOfCursor_26 : decode cX9_putAheadOfCursor 26 = .ok (.aload_n 0, 1) := by decide +kernel
theorem dX9_putAheadOfCursor_27 : decode cX9_putAheadOfCursor 27 = .ok (.dup, 1) := by decide +kernel
theorem dX9_putAheadOfCursor_28 : decode cX9_putAheadOfCursor 28 = .ok (.getfield 69, 3) := by decide +kernel
theorem dX9_putAheadOfCursor_31 : decode cX9_putAheadOfCursor 31 = .ok (.iconst 1, 1) := by decide +kernel
theorem dX9_putAheadOfCursor_32 : decode cX9_putAheadOfCursor 32 = .ok (.iadd, 1) := by decide +kernel
theorem dX9_putAheadOfCursor_33 : decode cX9_putAheadOfCursor 33 = .ok (.putfield 69, 3) := by decide +kernel
theorem dX9_putAheadOfCursor_36 : decode cX9_putAheadOfCursor 36 = .ok (.iload_n 3, 1) := by decide +kernel
theorem dX9_putAheadOfCursor_37 : decode cX9_putAheadOfCursor 37 = .ok (.ireturn, 1) := by decide +kernel
theorem dX9_turn_0 : decode cX9_turn 0 = .ok (.aload_n 0, 1) := by decide +kernel
theorem dX9_turn_1 : decode cX9_turn 1 = .ok (.getfield 12, 3) := by decide +kernel
theorem dX9_turn_4 : decode cX9_turn 4 = .ok (.iload_n 1, 1) := by decide +kernel
theorem dX9_turn_5 : decode cX9_turn 5 = .ok (.invokevirtual 72, 3) := by decide +kernel
theorem dX9_turn_8 : decode cX9_turn 8 = .ok (.iload_n 2, 1) := by decide +kernel
theorem dX9_turn_9 : decode cX9_turn 9 = .ok (.if_icmp .ne 4, 3) := by decide +kernel
theorem dX9_turn_12 : decode cX9_turn 12 = .ok (.return_, 1) := by decide +kernel
theorem dX9_turn_13 : decode cX9_turn 13 = .ok (.iload_n 2, 1) := by decide +kernel
theorem dX9_turn_14 : decode cX9_turn 14 = .ok (.ifCond .eq 20, 3) := by decide +kernel
theorem dX9_turn_17 : decode cX9_turn 17 = .ok (.aload_n 0, 1) := by decide +kernel
theorem dX9_turn_18 : decode cX9_turn 18 = .ok (.new 60, 3) := by decide +kernel
theorem dX9_turn_21 : decode cX9_turn 21 = .ok (.dup, 1) := by decide +kernel
theorem dX9_turn_22 : decode cX9_turn 22 = .ok (.iconst 2, 1) := by decide +kernel
theorem dX9_turn_23 : decode cX9_turn 23 = .ok (.iload_n 1, 1) := by decide +kernel
theorem dX9_turn_24 : decode cX9_turn 24 = .ok (.iconst 0, 1) := by decide +kernel
theorem dX9_turn_25 : decode cX9_turn 25 = .ok (.invokespecial 62, 3) := by decide +kernel
theorem dX9_turn_28 : decode cX9_turn 28 = .ok (.invokevirtual 65, 3) := by decide +kernel
theorem dX9_turn_31 : decode cX9_turn 31 = .ok (.goto 8, 3) := by decide +kernel
theorem dX9_turn_34 : decode cX9_turn 34 = .ok (.aload_n 0, 1) := by decide +kernel
theorem dX9_turn_35 : decode cX9_turn 35 = .ok (.iload_n 1, 1) := by decide +kernel
theorem dX9_turn_36 : decode cX9_turn 36 = .ok (.invokevirtual 76, 3) := by decide +kernel
theorem dX9_turn_39 : decode cX9_turn 39 = .ok (.aload_n 0, 1) := by decide +kernel
theorem dX9_turn_40 : decode cX9_turn 40 = .ok (.dup, 1) := by decide +kernel
theorem dX9_turn_41 : decode cX9_turn 41 = .ok (.getfield 69, 3) := by decide +kernel
theorem dX9_turn_44 : decode cX9_turn 44 = .ok (.iconst 1, 1) := by decide +kernel
theorem dX9_turn_45 : decode cX9_turn 45 = .ok (.iadd, 1) := by decide +kernel
theorem dX9_turn_46 : decode cX9_turn 46 = .ok (.putfield 69, 3) := by decide +kernel
theorem dX9_turn_49 : decode cX9_turn 49 = .ok (.return_, 1) := by decide +kernel
theorem dX9_letGo_0 : decode cX9_letGo 0 = .ok (.aload_n 0, 1) := by decide +kernel
theorem dX9_letGo_1 : decode cX9_letGo 1 = .ok (.new 60, 3) := by decide +kernel
theorem dX9_letGo_4 : decode cX9_letGo 4 = .ok (.dup, 1) := by decide +kernel
theorem dX9_letGo_5 : decode cX9_letGo 5 = .ok (.iconst 1, 1) := by decide +kernel
theorem dX9_letGo_6 : decode cX9_letGo 6 = .ok (.iload_n 1, 1) := by decide +kernel
theorem dX9_letGo_7 : decode cX9_letGo 7 = .ok (.iconst 0, 1) := by decide +kernel
theorem dX9_letGo_8 : decode cX9_letGo 8 = .ok (.invokespecial 62, 3) := by decide +kernel
theorem dX9_letGo_11 : decode cX9_letGo 11 = .ok (.invokevirtual 65, 3) := by decide +kernel
theorem dX9_letGo_14 : decode cX9_letGo 14 = .ok (.aload_n 0, 1) := by decide +kernel
theorem dX9_letGo_15 : decode cX9_letGo 15 = .ok (.getfield 12, 3) := by decide +kernel
theorem dX9_letGo_18 : decode cX9_letGo 18 = .ok (.aload_n 0, 1) := by decide +kernel
theorem dX9_letGo_19 : decode cX9_letGo 19 = .ok (.getfield 12, 3) := by decide +kernel
theorem dX9_letGo_22 : decode cX9_letGo 22 = .ok (.iload_n 1, 1) := by decide +kernel
theorem dX9_letGo_23 : decode cX9_letGo 23 = .ok (.invokevirtual 80, 3) := by decide +kernel
theorem dX9_letGo_26 : decode cX9_letGo 26 = .ok (.invokevirtual 83, 3) := by decide +kernel
theorem dX9_letGo_29 : decode cX9_letGo 29 = .ok (.istore_n 2, 1) := by decide +kernel
theorem dX9_letGo_30 : decode cX9_letGo 30 = .ok (.iconst 0, 1) := by decide +kernel
theorem dX9_letGo_31 : decode cX9_letGo 31 = .ok (.istore_n 3, 1) := by decide +kernel
theorem dX9_letGo_32 : decode cX9_letGo 32 = .ok (.iload_n 3, 1) := by decide +kernel
theorem dX9_letGo_33 : decode cX9_letGo 33 = .ok (.iconst 5, 1) := by decide +kernel
theorem dX9_letGo_34 : decode cX9_letGo 34 = .ok (.if_icmp .ge 26, 3) := by decide +kernel
theorem dX9_letGo_37 : decode cX9_letGo 37 = .ok (.aload_n 0, 1) := by decide +kernel
theorem dX9_letGo_38 : decode cX9_letGo 38 = .ok (.getfield 39, 3) := by decide +kernel
theorem dX9_letGo_41 : decode cX9_letGo 41 = .ok (.iload_n 3, 1) := by decide +kernel
theorem dX9_letGo_42 : decode cX9_letGo 42 = .ok (.iaload, 1) := by decide +kernel
theorem dX9_letGo_43 : decode cX9_letGo 43 = .ok (.iload_n 1, 1) := by decide +kernel
theorem dX9_letGo_44 : decode cX9_letGo 44 = .ok (.if_icmp .ne 10, 3) := by decide +kernel
theorem dX9_letGo_47 : decode cX9_letGo 47 = .ok (.aload_n 0, 1) := by decide +kernel
theorem dX9_letGo_48 : decode cX9_letGo 48 = .ok (.getfield 39, 3) := by decide +kernel
theorem dX9_letGo_51 : decode cX9_letGo 51 = .ok (.iload_n 3, 1) := by decide +kernel
theorem dX9_letGo_52 : decode cX9_letGo 52 = .ok (.iload_n 2, 1) := by decide +kernel
theorem dX9_letGo_53 : decode cX9_letGo 53 = .ok (.iastore, 1) := by decide +kernel
theorem dX9_letGo_54 : decode cX9_letGo 54 = .ok (.iinc 3 1, 3) := by decide +kernel
theorem dX9_letGo_57 : decode cX9_letGo 57 = .ok (.goto (-25), 3) := by decide +kernel
theorem dX9_letGo_60 : decode cX9_letGo 60 = .ok (.return_, 1) := by decide +kernel
theorem dX9_become_0 : decode cX9_become 0 = .ok (.aload_n 0, 1) := by decide +kernel
theorem dX9_become_1 : decode cX9_become 1 = .ok (.new 60, 3) := by decide +kernel
theorem dX9_become_4 : decode cX9_become 4 = .ok (.dup, 1) := by decide +kernel
theorem dX9_become_5 : decode cX9_become 5 = .ok (.iconst 3, 1) := by decide +kernel
theorem dX9_become_6 : decode cX9_become 6 = .ok (.iload_n 1, 1) := by decide +kernel
theorem dX9_become_7 : decode cX9_become 7 = .ok (.iload_n 2, 1) := by decide +kernel
theorem dX9_become_8 : decode cX9_become 8 = .ok (.invokespecial 62, 3) := by decide +kernel
theorem dX9_become_11 : decode cX9_become 11 = .ok (.invokevirtual 65, 3) := by decide +kernel
theorem dX9_become_14 : decode cX9_become 14 = .ok (.return_, 1) := by decide +kernel
theorem dX9_rowAnew_0 : decode cX9_rowAnew 0 = .ok (.aload_n 0, 1) := by decide +kernel
theorem dX9_rowAnew_1 : decode cX9_rowAnew 1 = .ok (.getfield 29, 3) := by decide +kernel
theorem dX9_rowAnew_4 : decode cX9_rowAnew 4 = .ok (.invokevirtual 86, 3) := by decide +kernel
theorem dX9_rowAnew_7 : decode cX9_rowAnew 7 = .ok (.iconst 0, 1) := by decide +kernel
theorem dX9_rowAnew_8 : decode cX9_rowAnew 8 = .ok (.istore_n 1, 1) := by decide +kernel
theorem dX9_rowAnew_9 : decode cX9_rowAnew 9 = .ok (.iload_n 1, 1) := by decide +kernel
theorem dX9_rowAnew_10 : decode cX9_rowAnew 10 = .ok (.aload_n 0, 1) := by decide +kernel
theorem dX9_rowAnew_11 : decode cX9_rowAnew 11 = .ok (.getfield 35, 3) := by decide +kernel
theorem dX9_rowAnew_14 : decode cX9_rowAnew 14 = .ok (.invokeinterface 89 1, 5) := by decide +kernel
theorem dX9_rowAnew_19 : decode cX9_rowAnew 19 = .ok (.if_icmp .ge 29, 3) := by decide +kernel
theorem dX9_rowAnew_22 : decode cX9_rowAnew 22 = .ok (.aload_n 0, 1) := by decide +kernel
theorem dX9_rowAnew_23 : decode cX9_rowAnew 23 = .ok (.getfield 35, 3) := by decide +kernel
theorem dX9_rowAnew_26 : decode cX9_rowAnew 26 = .ok (.iload_n 1, 1) := by decide +kernel
theorem dX9_rowAnew_27 : decode cX9_rowAnew 27 = .ok (.invokeinterface 94 2, 5) := by decide +kernel
theorem dX9_rowAnew_32 : decode cX9_rowAnew 32 = .ok (.checkcast 60, 3) := by decide +kernel
theorem dX9_rowAnew_35 : decode cX9_rowAnew 35 = .ok (.aload_n 0, 1) := by decide +kernel
theorem dX9_rowAnew_36 : decode cX9_rowAnew 36 = .ok (.getfield 29, 3) := by decide +kernel
theorem dX9_rowAnew_39 : decode cX9_rowAnew 39 = .ok (.invokevirtual 98, 3) := by decide +kernel
theorem dX9_rowAnew_42 : decode cX9_rowAnew 42 = .ok (.iinc 1 1, 3) := by decide +kernel
theorem dX9_rowAnew_45 : decode cX9_rowAnew 45 = .ok (.goto (-36), 3) := by decide +kernel
theorem dX9_rowAnew_48 : decode cX9_rowAnew 48 = .ok (.aload_n 0, 1) := by decide +kernel
theorem dX9_rowAnew_49 : decode cX9_rowAnew 49 = .ok (.getfield 29, 3) := by decide +kernel
theorem dX9_rowAnew_52 : decode cX9_rowAnew 52 = .ok (.areturn, 1) := by decide +kernel
theorem dX9_keepAsSaved_0 : decode cX9_keepAsSaved 0 = .ok (.aload_n 0, 1) := by decide +kernel
theorem dX9_keepAsSaved_1 : decode cX9_keepAsSaved 1 = .ok (.iconst 0, 1) := by decide +kernel
theorem dX9_keepAsSaved_2 : decode cX9_keepAsSaved 2 = .ok (.putfield 102, 3) := by decide +kernel
theorem dX9_keepAsSaved_5 : decode cX9_keepAsSaved 5 = .ok (.iconst 0, 1) := by decide +kernel
theorem dX9_keepAsSaved_6 : decode cX9_keepAsSaved 6 = .ok (.istore_n 1, 1) := by decide +kernel
theorem dX9_keepAsSaved_7 : decode cX9_keepAsSaved 7 = .ok (.iload_n 1, 1) := by decide +kernel
theorem dX9_keepAsSaved_8 : decode cX9_keepAsSaved 8 = .ok (.aload_n 0, 1) := by decide +kernel
theorem dX9_keepAsSaved_9 : decode cX9_keepAsSaved 9 = .ok (.getfield 12, 3) := by decide +kernel
theorem dX9_keepAsSaved_12 : decode cX9_keepAsSaved 12 = .ok (.invokevirtual 56, 3) := by decide +kernel
theorem dX9_keepAsSaved_15 : decode cX9_keepAsSaved 15 = .ok (.if_icmp .ge 66, 3) := by decide +kernel
theorem dX9_keepAsSaved_18 : decode cX9_keepAsSaved 18 = .ok (.aload_n 0, 1) := by decide +kernel
theorem dX9_keepAsSaved_19 : decode cX9_keepAsSaved 19 = .ok (.getfield 12, 3) := by decide +kernel
theorem dX9_keepAsSaved_22 : decode cX9_keepAsSaved 22 = .ok (.iload_n 1, 1) := by decide +kernel
theorem dX9_keepAsSaved_23 : decode cX9_keepAsSaved 23 = .ok (.invokevirtual 105, 3) := by decide +kernel
theorem dX9_keepAsSaved_26 : decode cX9_keepAsSaved 26 = .ok (.istore_n 2, 1) := by decide +kernel
theorem dX9_keepAsSaved_27 : decode cX9_keepAsSaved 27 = .ok (.aload_n 0, 1) := by decide +kernel
theorem dX9_keepAsSaved_28 : decode cX9_keepAsSaved 28 = .ok (.getfield 12, 3) := by decide +kernel
theorem dX9_keepAsSaved_31 : decode cX9_keepAsSaved 31 = .ok (.iload_n 2, 1) := by decide +kernel
theorem dX9_keepAsSaved_32 : decode cX9_keepAsSaved 32 = .ok (.invokevirtual 72, 3) := by decide +kernel
theorem dX9_keepAsSaved_35 : decode cX9_keepAsSaved 35 = .ok (.ifCond .eq 40, 3) := by decide +kernel
theorem dX9_keepAsSaved_38 : decode cX9_keepAsSaved 38 = .ok (.aload_n 0, 1) := by decide +kernel
theorem dX9_keepAsSaved_39 : decode cX9_keepAsSaved 39 = .ok (.getfield 102, 3) := by decide +kernel
theorem dX9_keepAsSaved_42 : decode cX9_keepAsSaved 42 = .ok (.sipush 150, 3) := by decide +kernel
theorem dX9_keepAsSaved_45 : decode cX9_keepAsSaved 45 = .ok (.if_icmp .ge 30, 3) := by decide +kernel
theorem dX9_keepAsSaved_48 : decode cX9_keepAsSaved 48 = .ok (.aload_n 0, 1) := by decide +kernel
theorem dX9_keepAsSaved_49 : decode cX9_keepAsSaved 49 = .ok (.getfield 18, 3) := by decide +kernel
theorem dX9_keepAsSaved_52 : decode cX9_keepAsSaved 52 = .ok (.aload_n 0, 1) := by decide +kernel
theorem dX9_keepAsSaved_53 : decode cX9_keepAsSaved 53 = .ok (.getfield 102, 3) := by decide +kernel
theorem dX9_keepAsSaved_56 : decode cX9_keepAsSaved 56 = .ok (.aload_n 0, 1) := by decide +kernel
theorem dX9_keepAsSaved_57 : decode cX9_keepAsSaved 57 = .ok (.getfield 12, 3) := by decide +kernel
theorem dX9_keepAsSaved_60 : decode cX9_keepAsSaved 60 = .ok (.iload_n 2, 1) := by decide +kernel
theorem dX9_keepAsSaved_61 : decode cX9_keepAsSaved 61 = .ok (.invokevirtual 108, 3) := by decide +kernel
theorem dX9_keepAsSaved_64 : decode cX9_keepAsSaved 64 = .ok (.castore, 1) := by decide +kernel
theorem dX9_keepAsSaved_65 : decode cX9_keepAsSaved 65 = .ok (.aload_n 0, 1) := by decide +kernel
theorem dX9_keepAsSaved_66 : decode cX9_keepAsSaved 66 = .ok (.dup, 1) := by decide +kernel
theorem dX9_keepAsSaved_67 : decode cX9_keepAsSaved 67 = .ok (.getfield 102, 3) := by decide +kernel
theorem dX9_keepAsSaved_70 : decode cX9_keepAsSaved 70 = .ok (.iconst 1, 1) := by decide +kernel
theorem dX9_keepAsSaved_71 : decode cX9_keepAsSaved 71 = .ok (.iadd, 1) := by decide +kernel
theorem dX9_keepAsSaved_72 : decode cX9_keepAsSaved 72 = .ok (.putfield 102, 3) := by decide +kernel
theorem dX9_keepAsSaved_75 : decode cX9_keepAsSaved 75 = .ok (.iinc 1 1, 3) := by decide +kernel
theorem dX9_keepAsSaved_78 : decode cX9_keepAsSaved 78 = .ok (.goto (-71), 3) := by decide +kernel
theorem dX9_keepAsSaved_81 : decode cX9_keepAsSaved 81 = .ok (.aload_n 0, 1) := by decide +kernel
theorem dX9_keepAsSaved_82 : decode cX9_keepAsSaved 82 = .ok (.aload_n 0, 1) := by decide +kernel
theorem dX9_keepAsSaved_83 : decode cX9_keepAsSaved 83 = .ok (.getfield 69, 3) := by decide +kernel
theorem dX9_keepAsSaved_86 : decode cX9_keepAsSaved 86 = .ok (.putfield 26, 3) := by decide +kernel
theorem dX9_keepAsSaved_89 : decode cX9_keepAsSaved 89 = .ok (.return_, 1) := by decide +kernel
theorem dX9_cursorSpot_0 : decode cX9_cursorSpot 0 = .ok (.aload_n 0, 1) := by decide +kernel
theorem dX9_cursorSpot_1 : decode cX9_cursorSpot 1 = .ok (.getfield 12, 3) := by decide +kernel
theorem dX9_cursorSpot_4 : decode cX9_cursorSpot 4 = .ok (.iload_n 1, 1) := by decide +kernel
theorem dX9_cursorSpot_5 : decode cX9_cursorSpot 5 = .ok (.ifCond .lt 17, 3) := by decide +kernel
theorem dX9_cursorSpot_8 : decode cX9_cursorSpot 8 = .ok (.iload_n 1, 1) := by decide +kernel
theorem dX9_cursorSpot_9 : decode cX9_cursorSpot 9 = .ok (.iconst 5, 1) := by decide +kernel
theorem dX9_cursorSpot_10 : decode cX9_cursorSpot 10 = .ok (.if_icmp .ge 12, 3) := by decide +kernel
theorem dX9_cursorSpot_13 : decode cX9_cursorSpot 13 = .ok (.aload_n 0, 1) := by decide +kernel
theorem dX9_cursorSpot_14 : decode cX9_cursorSpot 14 = .ok (.getfield 39, 3) := by decide +kernel
theorem dX9_cursorSpot_17 : decode cX9_cursorSpot 17 = .ok (.iload_n 1, 1) := by decide +kernel
theorem dX9_cursorSpot_18 : decode cX9_cursorSpot 18 = .ok (.iaload, 1) := by decide +kernel
theorem dX9_cursorSpot_19 : decode cX9_cursorSpot 19 = .ok (.goto 4, 3) := by decide +kernel
theorem dX9_cursorSpot_22 : decode cX9_cursorSpot 22 = .ok (.iconst (-1), 1) := by decide +kernel
theorem dX9_cursorSpot_23 : decode cX9_cursorSpot 23 = .ok (.invokevirtual 80, 3) := by decide +kernel
theorem dX9_cursorSpot_26 : decode cX9_cursorSpot 26 = .ok (.ireturn, 1) := by decide +kernel
theorem dX9_perform_0 : decode cX9_perform 0 = .ok (.aload_n 1, 1) := by decide +kernel
theorem dX9_perform_1 : decode cX9_perform 1 = .ok (.aload_n 0, 1) := by decide +kernel
theorem dX9_perform_2 : decode cX9_perform 2 = .ok (.getfield 12, 3) := by decide +kernel
theorem dX9_perform_5 : decode cX9_perform 5 = .ok (.invokevirtual 98, 3) := by decide +kernel
theorem dX9_perform_8 : decode cX9_perform 8 = .ok (.aload_n 0, 1) := by decide +kernel
theorem dX9_perform_9 : decode cX9_perform 9 = .ok (.getfield 35, 3) := by decide +kernel
theorem dX9_perform_12 : decode cX9_perform 12 = .ok (.invokeinterface 89 1, 5) := by decide +kernel
theorem dX9_perform_17 : decode cX9_perform 17 = .ok (.sipush 1174, 3) := by decide +kernel
theorem dX9_perform_20 : decode cX9_perform 20 = .ok (.if_icmp .ge 14, 3) := by decide +kernel
theorem dX9_perform_23 : decode cX9_perform 23 = .ok (.aload_n 0, 1) := by decide +kernel
theorem dX9_perform_24 : decode cX9_perform 24 = .ok (.getfield 35, 3) := by decide +kernel
theorem dX9_perform_27 : decode cX9_perform 27 = .ok (.aload_n 1, 1) := by decide +kernel
theorem dX9_perform_28 : decode cX9_perform 28 = .ok (.invokeinterface 112 2, 5) := by decide +kernel
theorem dX9_perform_33 : decode cX9_perform 33 = .ok (.pop, 1) := by decide +kernel
theorem dX9_perform_34 : decode cX9_perform 34 = .ok (.return_, 1) := by decide +kernel
theorem dX10_init_0 : decode cX10_init 0 = .ok (.aload_n 0, 1) := by decide +kernel
theorem dX10_init_1 : decode cX10_init 1 = .ok (.invokespecial 3, 3) := by decide +kernel
theorem dX10_init_4 : decode cX10_init 4 = .ok (.aload_n 0, 1) := by decide +kernel
theorem dX10_init_5 : decode cX10_init 5 = .ok (.iconst 3, 1) := by decide +kernel
theorem dX10_init_6 : decode cX10_init 6 = .ok (.anewarray 9, 3) := by decide +kernel
theorem dX10_init_9 : decode cX10_init 9 = .ok (.putfield 11, 3) := by decide +kernel
theorem dX10_init_12 : decode cX10_init 12 = .ok (.aload_n 0, 1) := by decide +kernel
theorem dX10_init_13 : decode cX10_init 13 = .ok (.iconst 5, 1) := by decide +kernel
theorem dX10_init_14 : decode cX10_init 14 = .ok (.anewarray 15, 3) := by decide +kernel
theorem dX10_init_17 : decode cX10_init 17 = .ok (.putfield 17, 3) := by decide +kernel
theorem dX10_init_20 : decode cX10_init 20 = .ok (.aload_n 0, 1) := by decide +kernel
theorem dX10_init_21 : decode cX10_init 21 = .ok (.new 21, 3) := by decide +kernel
theorem dX10_init_24 : decode cX10_init 24 = .ok (.dup, 1) := by decide +kernel
theorem dX10_init_25 : decode cX10_init 25 = .ok (.invokespecial 23, 3) := by decide +kernel
theorem dX10_init_28 : decode cX10_init 28 = .ok (.putfield 24, 3) := by decide +kernel
theorem dX10_init_31 : decode cX10_init 31 = .ok (.aload_n 0, 1) := by decide +kernel
theorem dX10_init_32 : decode cX10_init 32 = .ok (.new 21, 3) := by decide +kernel
theorem dX10_init_35 : decode cX10_init 35 = .ok (.dup, 1) := by decide +kernel
theorem dX10_init_36 : decode cX10_init 36 = .ok (.invokespecial 23, 3) := by decide +kernel
theorem dX10_init_39 : decode cX10_init 39 = .ok (.putfield 28, 3) := by decide +kernel
theorem dX10_init_42 : decode cX10_init 42 = .ok (.aload_n 0, 1) := by decide +kernel
theorem dX10_init_43 : decode cX10_init 43 = .ok (.new 31, 3) := by decide +kernel
theorem dX10_init_46 : decode cX10_init 46 = .ok (.dup, 1) := by decide +kernel
theorem dX10_init_47 : decode cX10_init 47 = .ok (.invokespecial 33, 3) := by decide +kernel
theorem dX10_init_50 : decode cX10_init 50 = .ok (.putfield 34, 3) := by decide +kernel
theorem dX10_init_53 : decode cX10_init 53 = .ok (.aload_n 0, 1) := by decide +kernel
theorem dX10_init_54 : decode cX10_init 54 = .ok (.new 38, 3) := by decide +kernel
theorem dX10_init_57 : decode cX10_init 57 = .ok (.dup, 1) := by decide +kernel
theorem dX10_init_58 : decode cX10_init 58 = .ok (.invokespecial 40, 3) := by decide +kernel
theorem dX10_init_61 : decode cX10_init 61 = .ok (.putfield 41, 3) := by decide +kernel
theorem dX10_init_64 : decode cX10_init 64 = .ok (.iconst 0, 1) := by decide +kernel
theorem dX10_init_65 : decode cX10_init 65 = .ok (.istore_n 1, 1) := by decide +kernel
theorem dX10_init_66 : decode cX10_init 66 = .ok (.iload_n 1, 1) := by decide +kernel
theorem dX10_init_67 : decode cX10_init 67 = .ok (.iconst 3, 1) := by decide +kernel
theorem dX10_init_68 : decode cX10_init 68 = .ok (.if_icmp .ge 23, 3) := by decide +kernel
theorem dX10_init_71 : decode cX10_init 71 = .ok (.aload_n 0, 1) := by decide +kernel
theorem dX10_init_72 : decode cX10_init 72 = .ok (.getfield 11, 3) := by decide +kernel
theorem dX10_init_75 : decode cX10_init 75 = .ok (.iload_n 1, 1) := by decide +kernel
theorem dX10_init_76 : decode cX10_init 76 = .ok (.new 9, 3) := by decide +kernel
theorem dX10_init_79 : decode cX10_init 79 = .ok (.dup, 1) := by decide +kernel
theorem dX10_init_80 : decode cX10_init 80 = .ok (.iload_n 1, 1) := by decide +kernel
theorem dX10_init_81 : decode cX10_init 81 = .ok (.invokespecial 45, 3) := by decide +kernel
theorem dX10_init_84 : decode cX10_init 84 = .ok (.aastore, 1) := by decide +kernel
theorem dX10_init_85 : decode cX10_init 85 = .ok (.iinc 1 1, 3) := by decide +kernel
theorem dX10_init_88 : decode cX10_init 88 = .ok (.goto (-22), 3) := by decide +kernel
theorem dX10_init_91 : decode cX10_init 91 = .ok (.iconst 0, 1) := by decide +kernel
theorem dX10_init_92 : decode cX10_init 92 = .ok (.istore_n 1, 1) := by decide +kernel
theorem dX10_init_93 : decode cX10_init 93 = .ok (.iload_n 1, 1) := by decide +kernel
theorem dX10_init_94 : decode cX10_init 94 = .ok (.iconst 5, 1) := by decide +kernel
theorem dX10_init_95 : decode cX10_init 95 = .ok (.if_icmp .ge 22, 3) := by decide +kernel
theorem dX10_init_98 : decode cX10_init 98 = .ok (.aload_n 0, 1) := by decide +kernel
theorem dX10_init_99 : decode cX10_init 99 = .ok (.getfield 17, 3) := by decide +kernel
theorem dX10_init_102 : decode cX10_init 102 = .ok (.iload_n 1, 1) := by decide +kernel
theorem dX10_init_103 : decode cX10_init 103 = .ok (.new 15, 3) := by decide +kernel
theorem dX10_init_106 : decode cX10_init 106 = .ok (.dup, 1) := by decide +kernel
theorem dX10_init_107 : decode cX10_init 107 = .ok (.invokespecial 48, 3) := by decide +kernel
theorem dX10_init_110 : decode cX10_init 110 = .ok (.aastore, 1) := by decide +kernel
theorem dX10_init_111 : decode cX10_init 111 = .ok (.iinc 1 1, 3) := by decide +kernel
theorem dX10_init_114 : decode cX10_init 114 = .ok (.goto (-21), 3) := by decide +kernel
theorem dX10_init_117 : decode cX10_init 117 = .ok (.return_, 1) := by decide +kernel
theorem dX10_type_0 : decode cX10_type 0 = .ok (.aload_n 0, 1) := by decide +kernel
theorem dX10_type_1 : decode cX10_type 1 = .ok (.iload_n 1, 1) := by decide +kernel
theorem dX10_type_2 : decode cX10_type 2 = .ok (.invokevirtual 49, 3) := by decide +kernel
theorem dX10_type_5 : decode cX10_type 5 = .ok (.astore 4, 2) := by decide +kernel
theorem dX10_type_7 : decode cX10_type 7 = .ok (.aload_n 0, 1) := by decide +kernel
theorem dX10_type_8 : decode cX10_type 8 = .ok (.iload_n 2, 1) := by decide +kernel
theorem dX10_type_9 : decode cX10_type 9 = .ok (.invokevirtual 53, 3) := by decide +kernel
theorem dX10_type_12 : decode cX10_type 12 = .ok (.astore 5, 2) := by decide +kernel
theorem dX10_type_14 : decode cX10_type 14 = .ok (.iload_n 3, 1) := by decide +kernel
theorem dX10_type_15 : decode cX10_type 15 = .ok (.invokestatic 57, 3) := by decide +kernel
theorem dX10_type_18 : decode cX10_type 18 = .ok (.ifCond .ne 13, 3) := by decide +kernel
theorem dX10_type_21 : decode cX10_type 21 = .ok (.new 61, 3) := by decide +kernel
theorem dX10_type_24 : decode cX10_type 24 = .ok (.dup, 1) := by decide +kernel
theorem dX10_type_25 : decode cX10_type 25 = .ok (.ldc 63, 2) := by decide +kernel
theorem dX10_type_27 : decode cX10_type 27 = .ok (.invokespecial 65, 3) := by decide +kernel
theorem dX10_type_30 : decode cX10_type 30 = .ok (.athrow, 1) := by decide +kernel
theorem dX10_type_31 : decode cX10_type 31 = .ok (.aload 5, 2) := by decide +kernel
theorem dX10_type_33 : decode cX10_type 33 = .ok (.getfield 68, 3) := by decide +kernel
theorem dX10_type_36 : decode cX10_type 36 = .ok (.invokevirtual 72, 3) := by decide +kernel
theorem dX10_type_39 : decode cX10_type 39 = .ok (.ifCond .eq 13, 3) := by decide +kernel
theorem dX10_type_42 : decode cX10_type 42 = .ok (.new 78, 3) := by decide +kernel
theorem dX10_type_45 : decode cX10_type 45 = .ok (.dup, 1) := by decide +kernel
theorem dX10_type_46 : decode cX10_type 46 = .ok (.ldc 80, 2) := by decide +kernel
theorem dX10_type_48 : decode cX10_type 48 = .ok (.invokespecial 82, 3) := by decide +kernel
theorem dX10_type_51 : decode cX10_type 51 = .ok (.athrow, 1) := by decide +kernel
theorem dX10_type_52 : decode cX10_type 52 = .ok (.aload 4, 2) := by decide +kernel
theorem dX10_type_54 : decode cX10_type 54 = .ok (.new 83, 3) := by decide +kernel
theorem dX10_type_57 : decode cX10_type 57 = .ok (.dup, 1) := by decide +kernel
theorem dX10_type_58 : decode cX10_type 58 = .ok (.aload 5, 2) := by decide +kernel
theorem dX10_type_60 : decode cX10_type 60 = .ok (.aload 5, 2) := by decide +kernel
theorem dX10_type_62 : decode cX10_type 62 = .ok (.iload_n 1, 1) := by decide +kernel
theorem dX10_type_63 : decode cX10_type 63 = .ok (.iload_n 3, 1) := by decide +kernel
theorem dX10_type_64 : decode cX10_type 64 = .ok (.invokevirtual 85, 3) := by decide +kernel
theorem dX10_type_67 : decode cX10_type 67 = .ok (.iconst 1, 1) := by decide +kernel
theorem dX10_type_68 : decode cX10_type 68 = .ok (.invokespecial 89, 3) := by decide +kernel
theorem dX10_type_71 : decode cX10_type 71 = .ok (.invokevirtual 92, 3) := by decide +kernel
theorem dX10_type_74 : decode cX10_type 74 = .ok (.aload 5, 2) := by decide +kernel
theorem dX10_type_76 : decode cX10_type 76 = .ok (.iload_n 1, 1) := by decide +kernel
theorem dX10_type_77 : decode cX10_type 77 = .ok (.invokevirtual 96, 3) := by decide +kernel
theorem dX10_type_80 : decode cX10_type 80 = .ok (.ireturn, 1) := by decide +kernel
theorem dX10_erase_0 : decode cX10_erase 0 = .ok (.aload_n 0, 1) := by decide +kernel
theorem dX10_erase_1 : decode cX10_erase 1 = .ok (.iload_n 1, 1) := by decide +kernel
theorem dX10_erase_2 : decode cX10_erase 2 = .ok (.invokevirtual 49, 3) := by decide +kernel
theorem dX10_erase_5 : decode cX10_erase 5 = .ok (.astore_n 3, 1) := by decide +kernel
theorem dX10_erase_6 : decode cX10_erase 6 = .ok (.aload_n 0, 1) := by decide +kernel
theorem dX10_erase_7 : decode cX10_erase 7 = .ok (.iload_n 2, 1) := by decide +kernel
theorem dX10_erase_8 : decode cX10_erase 8 = .ok (.invokevirtual 53, 3) := by decide +kernel
theorem dX10_erase_11 : decode cX10_erase 11 = .ok (.astore 4, 2) := by decide +kernel
theorem dX10_erase_13 : decode cX10_erase 13 = .ok (.aload 4, 2) := by decide +kernel
theorem dX10_erase_15 : decode cX10_erase 15 = .ok (.iload_n 1, 1) := by decide +kernel
theorem dX10_erase_16 : decode cX10_erase 16 = .ok (.invokevirtual 100, 3) := by decide +kernel
theorem dX10_erase_19 : decode cX10_erase 19 = .ok (.istore 5, 2) := by decide +kernel
theorem dX10_erase_21 : decode cX10_erase 21 = .ok (.iload 5, 2) := by decide +kernel
theorem dX10_erase_23 : decode cX10_erase 23 = .ok (.iconst (-1), 1) := by decide +kernel
theorem dX10_erase_24 : decode cX10_erase 24 = .ok (.if_icmp .ne 13, 3) := by decide +kernel
theorem dX10_erase_27 : decode cX10_erase 27 = .ok (.new 78, 3) := by decide +kernel
theorem dX10_erase_30 : decode cX10_erase 30 = .ok (.dup, 1) := by decide +kernel
theorem dX10_erase_31 : decode cX10_erase 31 = .ok (.ldc 103, 2) := by decide +kernel
theorem dX10_erase_33 : decode cX10_erase 33 = .ok (.invokespecial 82, 3) := by decide +kernel
theorem dX10_erase_36 : decode cX10_erase 36 = .ok (.athrow, 1) := by decide +kernel
theorem dX10_erase_37 : decode cX10_erase 37 = .ok (.aload 4, 2) := by decide +kernel
theorem dX10_erase_39 : decode cX10_erase 39 = .ok (.iload 5, 2) := by decide +kernel
theorem dX10_erase_41 : decode cX10_erase 41 = .ok (.iconst 0, 1) := by decide +kernel
theorem dX10_erase_42 : decode cX10_erase 42 = .ok (.invokevirtual 105, 3) := by decide +kernel
theorem dX10_erase_45 : decode cX10_erase 45 = .ok (.aload_n 3, 1) := by decide +kernel
theorem dX10_erase_46 : decode cX10_erase 46 = .ok (.new 83, 3) := by decide +kernel
theorem dX10_erase_49 : decode cX10_erase 49 = .ok (.dup, 1) := by decide +kernel
theorem dX10_erase_50 : decode cX10_erase 50 = .ok (.aload 4, 2) := by decide +kernel
theorem dX10_erase_52 : decode cX10_erase 52 = .ok (.iload 5, 2) := by decide +kernel
theorem dX10_erase_54 : decode cX10_erase 54 = .ok (.iconst 0, 1) := by decide +kernel
theorem dX10_erase_55 : decode cX10_erase 55 = .ok (.invokespecial 89, 3) := by decide +kernel
theorem dX10_erase_58 : decode cX10_erase 58 = .ok (.invokevirtual 92, 3) := by decide +kernel
theorem dX10_erase_61 : decode cX10_erase 61 = .ok (.aload 4, 2) := by decide +kernel
theorem dX10_erase_63 : decode cX10_erase 63 = .ok (.iload_n 1, 1) := by decide +kernel
theorem dX10_erase_64 : decode cX10_erase 64 = .ok (.invokevirtual 96, 3) := by decide +kernel
theorem dX10_erase_67 : decode cX10_erase 67 = .ok (.ireturn, 1) := by decide +kernel
theorem dX10_moveTo_0 : decode cX10_moveTo 0 = .ok (.aload_n 0, 1) := by decide +kernel
theorem dX10_moveTo_1 : decode cX10_moveTo 1 = .ok (.iload_n 1, 1) := by decide +kernel
theorem dX10_moveTo_2 : decode cX10_moveTo 2 = .ok (.invokevirtual 49, 3) := by decide +kernel
theorem dX10_moveTo_5 : decode cX10_moveTo 5 = .ok (.pop, 1) := by decide +kernel
theorem dX10_moveTo_6 : decode cX10_moveTo 6 = .ok (.aload_n 0, 1) := by decide +kernel
theorem dX10_moveTo_7 : decode cX10_moveTo 7 = .ok (.iload_n 2, 1) := by decide +kernel
theorem dX10_moveTo_8 : decode cX10_moveTo 8 = .ok (.invokevirtual 53, 3) := by decide +kernel
theorem dX10_moveTo_11 : decode cX10_moveTo 11 = .ok (.astore 4, 2) := by decide +kernel
theorem dX10_moveTo_13 : decode cX10_moveTo 13 = .ok (.iload_n 3, 1) := by decide +kernel
theorem dX10_moveTo_14 : decode cX10_moveTo 14 = .ok (.ifCond .lt 15, 3) := by decide +kernel
theorem dX10_moveTo_17 : decode cX10_moveTo 17 = .ok (.iload_n 3, 1) := by decide +kernel
theorem dX10_moveTo_18 : decode cX10_moveTo 18 = .ok (.aload 4, 2) := by decide +kernel
theorem dX10_moveTo_20 : decode cX10_moveTo 20 = .ok (.getfield 68, 3) := by decide +kernel
theorem dX10_moveTo_23 : decode cX10_moveTo 23 = .ok (.invokevirtual 109, 3) := by decide +kernel
theorem dX10_moveTo_26 : decode cX10_moveTo 26 = .ok (.if_icmp .le 13, 3) := by decide +kernel
theorem dX10_moveTo_29 : decode cX10_moveTo 29 = .ok (.new 113, 3) := by decide +kernel
theorem dX10_moveTo_32 : decode cX10_moveTo 32 = .ok (.dup, 1) := by decide +kernel
theorem dX10_moveTo_33 : decode cX10_moveTo 33 = .ok (.ldc 115, 2) := by decide +kernel
theorem dX10_moveTo_35 : decode cX10_moveTo 35 = .ok (.invokespecial 117, 3) := by decide +kernel
theorem dX10_moveTo_38 : decode cX10_moveTo 38 = .ok (.athrow, 1) := by decide +kernel
theorem dX10_moveTo_39 : decode cX10_moveTo 39 = .ok (.aload 4, 2) := by decide +kernel
theorem dX10_moveTo_41 : decode cX10_moveTo 41 = .ok (.iload_n 1, 1) := by decide +kernel
theorem dX10_moveTo_42 : decode cX10_moveTo 42 = .ok (.invokevirtual 96, 3) := by decide +kernel
theorem dX10_moveTo_45 : decode cX10_moveTo 45 = .ok (.istore 5, 2) := by decide +kernel
theorem dX10_moveTo_47 : decode cX10_moveTo 47 = .ok (.aload 4, 2) := by decide +kernel
theorem dX10_moveTo_49 : decode cX10_moveTo 49 = .ok (.iload_n 1, 1) := by decide +kernel
theorem dX10_moveTo_50 : decode cX10_moveTo 50 = .ok (.aload 4, 2) := by decide +kernel
theorem dX10_moveTo_52 : decode cX10_moveTo 52 = .ok (.getfield 68, 3) := by decide +kernel
theorem dX10_moveTo_55 : decode cX10_moveTo 55 = .ok (.iload_n 3, 1) := by decide +kernel
theorem dX10_moveTo_56 : decode cX10_moveTo 56 = .ok (.invokevirtual 118, 3) := by decide +kernel
theorem dX10_moveTo_59 : decode cX10_moveTo 59 = .ok (.invokevirtual 121, 3) := by decide +kernel
theorem dX10_moveTo_62 : decode cX10_moveTo 62 = .ok (.iload 5, 2) := by decide +kernel
theorem dX10_moveTo_64 : decode cX10_moveTo 64 = .ok (.ireturn, 1) := by decide +kernel
theorem dX10_undo_0 : decode cX10_undo 0 = .ok (.aload_n 0, 1) := by decide +kernel
theorem dX10_undo_1 : decode cX10_undo 1 = .ok (.iload_n 1, 1) := by decide +kernel
theorem dX10_undo_2 : decode cX10_undo 2 = .ok (.invokevirtual 49, 3) := by decide +kernel
theorem dX10_undo_5 : decode cX10_undo 5 = .ok (.invokevirtual 125, 3) := by decide +kernel
theorem dX10_undo_8 : decode cX10_undo 8 = .ok (.astore_n 2, 1) := by decide +kernel
theorem dX10_undo_9 : decode cX10_undo 9 = .ok (.aload_n 2, 1) := by decide +kernel
theorem dX10_undo_10 : decode cX10_undo 10 = .ok (.ifnonnull 13, 3) := by decide +kernel
theorem dX10_undo_13 : decode cX10_undo 13 = .ok (.new 78, 3) := by decide +kernel
theorem dX10_undo_16 : decode cX10_undo 16 = .ok (.dup, 1) := by decide +kernel
theorem dX10_undo_17 : decode cX10_undo 17 = .ok (.ldc 129, 2) := by decide +kernel
theorem dX10_undo_19 : decode cX10_undo 19 = .ok (.invokespecial 82, 3) := by decide +kernel
theorem dX10_undo_22 : decode cX10_undo 22 = .ok (.athrow, 1) := by decide +kernel
theorem dX10_undo_23 : decode cX10_undo 23 = .ok (.aload_n 2, 1) := by decide +kernel
theorem dX10_undo_24 : decode cX10_undo 24 = .ok (.getfield 131, 3) := by decide +kernel
theorem dX10_undo_27 : decode cX10_undo 27 = .ok (.aload_n 2, 1) := by decide +kernel
theorem dX10_undo_28 : decode cX10_undo 28 = .ok (.getfield 135, 3) := by decide +kernel
theorem dX10_undo_31 : decode cX10_undo 31 = .ok (.aload_n 2, 1) := by decide +kernel
theorem dX10_undo_32 : decode cX10_undo 32 = .ok (.getfield 139, 3) := by decide +kernel
theorem dX10_undo_35 : decode cX10_undo 35 = .ok (.ifCond .ne 7, 3) := by decide +kernel
theorem dX10_undo_38 : decode cX10_undo 38 = .ok (.iconst 1, 1) := by decide +kernel
theorem dX10_undo_39 : decode cX10_undo 39 = .ok (.goto 4, 3) := by decide +kernel
theorem dX10_undo_42 : decode cX10_undo 42 = .ok (.iconst 0, 1) := by decide +kernel
theorem dX10_undo_43 : decode cX10_undo 43 = .ok (.invokevirtual 105, 3) := by decide +kernel
theorem dX10_undo_46 : decode cX10_undo 46 = .ok (.aload_n 2, 1) := by decide +kernel
theorem dX10_undo_47 : decode cX10_undo 47 = .ok (.getfield 131, 3) := by decide +kernel
theorem dX10_undo_50 : decode cX10_undo 50 = .ok (.getfield 143, 3) := by decide +kernel
theorem dX10_undo_53 : decode cX10_undo 53 = .ok (.ireturn, 1) := by decide +kernel
theorem dX10_redo_0 : decode cX10_redo 0 = .ok (.aload_n 0, 1) := by decide +kernel
theorem dX10_redo_1 : decode cX10_redo 1 = .ok (.iload_n 1, 1) := by decide +kernel
theorem dX10_redo_2 : decode cX10_redo 2 = .ok (.invokevirtual 49, 3) := by decide +kernel
theorem dX10_redo_5 : decode cX10_redo 5 = .ok (.invokevirtual 146, 3) := by decide +kernel
theorem dX10_redo_8 : decode cX10_redo 8 = .ok (.astore_n 2, 1) := by decide +kernel
theorem dX10_redo_9 : decode cX10_redo 9 = .ok (.aload_n 2, 1) := by decide +kernel
theorem dX10_redo_10 : decode cX10_redo 10 = .ok (.ifnonnull 13, 3) := by decide +kernel
theorem dX10_redo_13 : decode cX10_redo 13 = .ok (.new 78, 3) := by decide +kernel
theorem dX10_redo_16 : decode cX10_redo 16 = .ok (.dup, 1) := by decide +kernel
theorem dX10_redo_17 : decode cX10_redo 17 = .ok (.ldc 149, 2) := by decide +kernel
theorem dX10_redo_19 : decode cX10_redo 19 = .ok (.invokespecial 82, 3) := by decide +kernel
theorem dX10_redo_22 : decode cX10_redo 22 = .ok (.athrow, 1) := by decide +kernel
theorem dX10_redo_23 : decode cX10_redo 23 = .ok (.aload_n 2, 1) := by decide +kernel
theorem dX10_redo_24 : decode cX10_redo 24 = .ok (.getfield 131, 3) := by decide +kernel
theorem dX10_redo_27 : decode cX10_redo 27 = .ok (.aload_n 2, 1) := by decide +kernel
theorem dX10_redo_28 : decode cX10_redo 28 = .ok (.getfield 135, 3) := by decide +kernel
theorem dX10_redo_31 : decode cX10_redo 31 = .ok (.aload_n 2, 1) := by decide +kernel
theorem dX10_redo_32 : decode cX10_redo 32 = .ok (.getfield 139, 3) := by decide +kernel
theorem dX10_redo_35 : decode cX10_redo 35 = .ok (.invokevirtual 105, 3) := by decide +kernel
theorem dX10_redo_38 : decode cX10_redo 38 = .ok (.aload_n 2, 1) := by decide +kernel
theorem dX10_redo_39 : decode cX10_redo 39 = .ok (.getfield 131, 3) := by decide +kernel
theorem dX10_redo_42 : decode cX10_redo 42 = .ok (.getfield 143, 3) := by decide +kernel
theorem dX10_redo_45 : decode cX10_redo 45 = .ok (.ireturn, 1) := by decide +kernel
theorem dX10_place_0 : decode cX10_place 0 = .ok (.aload_n 0, 1) := by decide +kernel
theorem dX10_place_1 : decode cX10_place 1 = .ok (.iload_n 1, 1) := by decide +kernel
theorem dX10_place_2 : decode cX10_place 2 = .ok (.invokevirtual 49, 3) := by decide +kernel
theorem dX10_place_5 : decode cX10_place 5 = .ok (.pop, 1) := by decide +kernel
theorem dX10_place_6 : decode cX10_place 6 = .ok (.aload_n 0, 1) := by decide +kernel
theorem dX10_place_7 : decode cX10_place 7 = .ok (.iload_n 2, 1) := by decide +kernel
theorem dX10_place_8 : decode cX10_place 8 = .ok (.invokevirtual 53, 3) := by decide +kernel
theorem dX10_place_11 : decode cX10_place 11 = .ok (.iload_n 1, 1) := by decide +kernel
theorem dX10_place_12 : decode cX10_place 12 = .ok (.invokevirtual 96, 3) := by decide +kernel
theorem dX10_place_15 : decode cX10_place 15 = .ok (.ireturn, 1) := by decide +kernel
theorem dX10_length_0 : decode cX10_length 0 = .ok (.aload_n 0, 1) := by decide +kernel
theorem dX10_length_1 : decode cX10_length 1 = .ok (.iload_n 1, 1) := by decide +kernel
theorem dX10_length_2 : decode cX10_length 2 = .ok (.invokevirtual 53, 3) := by decide +kernel
theorem dX10_length_5 : decode cX10_length 5 = .ok (.getfield 68, 3) := by decide +kernel
theorem dX10_length_8 : decode cX10_length 8 = .ok (.invokevirtual 109, 3) := by decide +kernel
theorem dX10_length_11 : decode cX10_length 11 = .ok (.ireturn, 1) := by decide +kernel
theorem dX10_letter_0 : decode cX10_letter 0 = .ok (.aload_n 0, 1) := by decide +kernel
theorem dX10_letter_1 : decode cX10_letter 1 = .ok (.iload_n 1, 1) := by decide +kernel
theorem dX10_letter_2 : decode cX10_letter 2 = .ok (.invokevirtual 53, 3) := by decide +kernel
theorem dX10_letter_5 : decode cX10_letter 5 = .ok (.getfield 68, 3) := by decide +kernel
theorem dX10_letter_8 : decode cX10_letter 8 = .ok (.iload_n 2, 1) := by decide +kernel
theorem dX10_letter_9 : decode cX10_letter 9 = .ok (.invokestatic 151, 3) := by decide +kernel
theorem dX10_letter_12 : decode cX10_letter 12 = .ok (.ireturn, 1) := by decide +kernel
theorem dX10_letterAnew_0 : decode cX10_letterAnew 0 = .ok (.aload_n 0, 1) := by decide +kernel
theorem dX10_letterAnew_1 : decode cX10_letterAnew 1 = .ok (.iload_n 1, 1) := by decide +kernel
theorem dX10_letterAnew_2 : decode cX10_letterAnew 2 = .ok (.invokevirtual 53, 3) := by decide +kernel
theorem dX10_letterAnew_5 : decode cX10_letterAnew 5 = .ok (.invokevirtual 155, 3) := by decide +kernel
theorem dX10_letterAnew_8 : decode cX10_letterAnew 8 = .ok (.iload_n 2, 1) := by decide +kernel
theorem dX10_letterAnew_9 : decode cX10_letterAnew 9 = .ok (.invokestatic 151, 3) := by decide +kernel
theorem dX10_letterAnew_12 : decode cX10_letterAnew 12 = .ok (.ireturn, 1) := by decide +kernel
theorem dX10_version_0 : decode cX10_version 0 = .ok (.aload_n 0, 1) := by decide +kernel
theorem dX10_version_1 : decode cX10_version 1 = .ok (.iload_n 1, 1) := by decide +kernel
theorem dX10_version_2 : decode cX10_version 2 = .ok (.invokevirtual 53, 3) := by decide +kernel
theorem dX10_version_5 : decode cX10_version 5 = .ok (.getfield 159, 3) := by decide +kernel
theorem dX10_version_8 : decode cX10_version 8 = .ok (.ireturn, 1) := by decide +kernel
theorem dX10_ask_0 : decode cX10_ask 0 = .ok (.aload_n 0, 1) := by decide +kernel
theorem dX10_ask_1 : decode cX10_ask 1 = .ok (.iload_n 1, 1) := by decide +kernel
theorem dX10_ask_2 : decode cX10_ask 2 = .ok (.invokevirtual 53, 3) := by decide +kernel
theorem dX10_ask_5 : decode cX10_ask 5 = .ok (.astore 4, 2) := by decide +kernel
theorem dX10_ask_7 : decode cX10_ask 7 = .ok (.iload_n 2, 1) := by decide +kernel
theorem dX10_ask_8 : decode cX10_ask 8 = .ok (.iload_n 3, 1) := by decide +kernel
theorem dX10_ask_9 : decode cX10_ask 9 = .ok (.invokestatic 162, 3) := by decide +kernel
theorem dX10_ask_12 : decode cX10_ask 12 = .ok (.ifCond .ne 13, 3) := by decide +kernel
theorem dX10_ask_15 : decode cX10_ask 15 = .ok (.new 61, 3) := by decide +kernel
theorem dX10_ask_18 : decode cX10_ask 18 = .ok (.dup, 1) := by decide +kernel
theorem dX10_ask_19 : decode cX10_ask 19 = .ok (.ldc 166, 2) := by decide +kernel
theorem dX10_ask_21 : decode cX10_ask 21 = .ok (.invokespecial 65, 3) := by decide +kernel
theorem dX10_ask_24 : decode cX10_ask 24 = .ok (.athrow, 1) := by decide +kernel
theorem dX10_ask_25 : decode cX10_ask 25 = .ok (.aload_n 0, 1) := by decide +kernel
theorem dX10_ask_26 : decode cX10_ask 26 = .ok (.getfield 24, 3) := by decide +kernel
theorem dX10_ask_29 : decode cX10_ask 29 = .ok (.invokeinterface 168 1, 5) := by decide +kernel
theorem dX10_ask_34 : decode cX10_ask 34 = .ok (.bipush 60, 2) := by decide +kernel
theorem dX10_ask_36 : decode cX10_ask 36 = .ok (.if_icmp .lt 13, 3) := by decide +kernel
theorem dX10_ask_39 : decode cX10_ask 39 = .ok (.new 78, 3) := by decide +kernel
theorem dX10_ask_42 : decode cX10_ask 42 = .ok (.dup, 1) := by decide +kernel
theorem dX10_ask_43 : decode cX10_ask 43 = .ok (.ldc 173, 2) := by decide +kernel
theorem dX10_ask_45 : decode cX10_ask 45 = .ok (.invokespecial 82, 3) := by decide +kernel
theorem dX10_ask_48 : decode cX10_ask 48 = .ok (.athrow, 1) := by decide +kernel
theorem dX10_ask_49 : decode cX10_ask 49 = .ok (.aload_n 0, 1) := by decide +kernel
theorem dX10_ask_50 : decode cX10_ask 50 = .ok (.getfield 34, 3) := by decide +kernel
theorem dX10_ask_53 : decode cX10_ask 53 = .ok (.aload 4, 2) := by decide +kernel
theorem dX10_ask_55 : decode cX10_ask 55 = .ok (.getfield 68, 3) := by decide +kernel
theorem dX10_ask_58 : decode cX10_ask 58 = .ok (.iload_n 2, 1) := by decide +kernel
theorem dX10_ask_59 : decode cX10_ask 59 = .ok (.iload_n 3, 1) := by decide +kernel
theorem dX10_ask_60 : decode cX10_ask 60 = .ok (.invokevirtual 175, 3) := by decide +kernel
theorem dX10_ask_63 : decode cX10_ask 63 = .ok (.aload_n 0, 1) := by decide +kernel
theorem dX10_ask_64 : decode cX10_ask 64 = .ok (.getfield 24, 3) := by decide +kernel
theorem dX10_ask_67 : decode cX10_ask 67 = .ok (.new 179, 3) := by decide +kernel
theorem dX10_ask_70 : decode cX10_ask 70 = .ok (.dup, 1) := by decide +kernel
theorem dX10_ask_71 : decode cX10_ask 71 = .ok (.aload 4, 2) := by decide +kernel
theorem dX10_ask_73 : decode cX10_ask 73 = .ok (.aload_n 0, 1) := by decide +kernel
theorem dX10_ask_74 : decode cX10_ask 74 = .ok (.getfield 34, 3) := by decide +kernel
theorem dX10_ask_77 : decode cX10_ask 77 = .ok (.aload 4, 2) := by decide +kernel
theorem dX10_ask_79 : decode cX10_ask 79 = .ok (.getfield 68, 3) := by decide +kernel
theorem dX10_ask_82 : decode cX10_ask 82 = .ok (.aload_n 0, 1) := by decide +kernel
theorem dX10_ask_83 : decode cX10_ask 83 = .ok (.getfield 41, 3) := by decide +kernel
theorem dX10_ask_86 : decode cX10_ask 86 = .ok (.invokevirtual 181, 3) := by decide +kernel
theorem dX10_ask_89 : decode cX10_ask 89 = .ok (.invokespecial 185, 3) := by decide +kernel
theorem dX10_ask_92 : decode cX10_ask 92 = .ok (.invokeinterface 188 2, 5) := by decide +kernel
theorem dX10_ask_97 : decode cX10_ask 97 = .ok (.pop, 1) := by decide +kernel
theorem dX10_ask_98 : decode cX10_ask 98 = .ok (.aload_n 0, 1) := by decide +kernel
theorem dX10_ask_99 : decode cX10_ask 99 = .ok (.getfield 24, 3) := by decide +kernel
theorem dX10_ask_102 : decode cX10_ask 102 = .ok (.invokeinterface 168 1, 5) := by decide +kernel
theorem dX10_ask_107 : decode cX10_ask 107 = .ok (.iconst 1, 1) := by decide +kernel
theorem dX10_ask_108 : decode cX10_ask 108 = .ok (.isub, 1) := by decide +kernel
theorem dX10_ask_109 : decode cX10_ask 109 = .ok (.ireturn, 1) := by decide +kernel
theorem dX10_come_0 : decode cX10_come 0 = .ok (.aload_n 0, 1) := by decide +kernel
theorem dX10_come_1 : decode cX10_come 1 = .ok (.iload_n 1, 1) := by decide +kernel
theorem dX10_come_2 : decode cX10_come 2 = .ok (.invokevirtual 192, 3) := by decide +kernel
theorem dX10_come_5 : decode cX10_come 5 = .ok (.astore_n 2, 1) := by decide +kernel
theorem dX10_come_6 : decode cX10_come 6 = .ok (.aload_n 2, 1) := by decide +kernel
theorem dX10_come_7 : decode cX10_come 7 = .ok (.aload_n 0, 1) := by decide +kernel
theorem dX10_come_8 : decode cX10_come 8 = .ok (.getfield 41, 3) := by decide +kernel
theorem dX10_come_11 : decode cX10_come 11 = .ok (.invokevirtual 196, 3) := by decide +kernel
theorem dX10_come_14 : decode cX10_come 14 = .ok (.istore_n 3, 1) := by decide +kernel
theorem dX10_come_15 : decode cX10_come 15 = .ok (.aload_n 2, 1) := by decide +kernel
theorem dX10_come_16 : decode cX10_come 16 = .ok (.invokevirtual 200, 3) := by decide +kernel
theorem dX10_come_19 : decode cX10_come 19 = .ok (.aload_n 2, 1) := by decide +kernel
theorem dX10_come_20 : decode cX10_come 20 = .ok (.iconst 1, 1) := by decide +kernel
theorem dX10_come_21 : decode cX10_come 21 = .ok (.iload_n 3, 1) := by decide +kernel
theorem dX10_come_22 : decode cX10_come 22 = .ok (.invokevirtual 203, 3) := by decide +kernel
theorem dX10_come_25 : decode cX10_come 25 = .ok (.aload_n 2, 1) := by decide +kernel
theorem dX10_come_26 : decode cX10_come 26 = .ok (.getfield 206, 3) := by decide +kernel
theorem dX10_come_29 : decode cX10_come 29 = .ok (.invokeinterface 168 1, 5) := by decide +kernel
theorem dX10_come_34 : decode cX10_come 34 = .ok (.iload_n 3, 1) := by decide +kernel
theorem dX10_come_35 : decode cX10_come 35 = .ok (.isub, 1) := by decide +kernel
theorem dX10_come_36 : decode cX10_come 36 = .ok (.ireturn, 1) := by decide +kernel
theorem dX10_drop_0 : decode cX10_drop 0 = .ok (.aload_n 0, 1) := by decide +kernel
theorem dX10_drop_1 : decode cX10_drop 1 = .ok (.iload_n 1, 1) := by decide +kernel
theorem dX10_drop_2 : decode cX10_drop 2 = .ok (.invokevirtual 192, 3) := by decide +kernel
theorem dX10_drop_5 : decode cX10_drop 5 = .ok (.astore_n 2, 1) := by decide +kernel
theorem dX10_drop_6 : decode cX10_drop 6 = .ok (.aload_n 2, 1) := by decide +kernel
theorem dX10_drop_7 : decode cX10_drop 7 = .ok (.iconst 2, 1) := by decide +kernel
theorem dX10_drop_8 : decode cX10_drop 8 = .ok (.aload_n 2, 1) := by decide +kernel
theorem dX10_drop_9 : decode cX10_drop 9 = .ok (.getfield 206, 3) := by decide +kernel
theorem dX10_drop_12 : decode cX10_drop 12 = .ok (.invokeinterface 168 1, 5) := by decide +kernel
theorem dX10_drop_17 : decode cX10_drop 17 = .ok (.invokevirtual 203, 3) := by decide +kernel
theorem dX10_drop_20 : decode cX10_drop 20 = .ok (.aload_n 2, 1) := by decide +kernel
theorem dX10_drop_21 : decode cX10_drop 21 = .ok (.getfield 206, 3) := by decide +kernel
theorem dX10_drop_24 : decode cX10_drop 24 = .ok (.invokeinterface 168 1, 5) := by decide +kernel
theorem dX10_drop_29 : decode cX10_drop 29 = .ok (.ireturn, 1) := by decide +kernel
theorem dX10_state_0 : decode cX10_state 0 = .ok (.aload_n 0, 1) := by decide +kernel
theorem dX10_state_1 : decode cX10_state 1 = .ok (.iload_n 1, 1) := by decide +kernel
theorem dX10_state_2 : decode cX10_state 2 = .ok (.invokevirtual 208, 3) := by decide +kernel
theorem dX10_state_5 : decode cX10_state 5 = .ok (.getfield 211, 3) := by decide +kernel
theorem dX10_state_8 : decode cX10_state 8 = .ok (.ireturn, 1) := by decide +kernel
theorem dX10_spared_0 : decode cX10_spared 0 = .ok (.aload_n 0, 1) := by decide +kernel
theorem dX10_spared_1 : decode cX10_spared 1 = .ok (.iload_n 1, 1) := by decide +kernel
theorem dX10_spared_2 : decode cX10_spared 2 = .ok (.invokevirtual 208, 3) := by decide +kernel
theorem dX10_spared_5 : decode cX10_spared 5 = .ok (.astore_n 2, 1) := by decide +kernel
theorem dX10_spared_6 : decode cX10_spared 6 = .ok (.aload_n 2, 1) := by decide +kernel
theorem dX10_spared_7 : decode cX10_spared 7 = .ok (.getfield 211, 3) := by decide +kernel
theorem dX10_spared_10 : decode cX10_spared 10 = .ok (.ifCond .ne 14, 3) := by decide +kernel
theorem dX10_spared_13 : decode cX10_spared 13 = .ok (.aload_n 2, 1) := by decide +kernel
theorem dX10_spared_14 : decode cX10_spared 14 = .ok (.aload_n 0, 1) := by decide +kernel
theorem dX10_spared_15 : decode cX10_spared 15 = .ok (.getfield 41, 3) := by decide +kernel
theorem dX10_spared_18 : decode cX10_spared 18 = .ok (.invokevirtual 196, 3) := by decide +kernel
theorem dX10_spared_21 : decode cX10_spared 21 = .ok (.goto 7, 3) := by decide +kernel
theorem dX10_spared_24 : decode cX10_spared 24 = .ok (.aload_n 2, 1) := by decide +kernel
theorem dX10_spared_25 : decode cX10_spared 25 = .ok (.getfield 214, 3) := by decide +kernel
theorem dX10_spared_28 : decode cX10_spared 28 = .ok (.ireturn, 1) := by decide +kernel
theorem dX10_lock_0 : decode cX10_lock 0 = .ok (.aload_n 0, 1) := by decide +kernel
theorem dX10_lock_1 : decode cX10_lock 1 = .ok (.iload_n 1, 1) := by decide +kernel
theorem dX10_lock_2 : decode cX10_lock 2 = .ok (.invokevirtual 49, 3) := by decide +kernel
theorem dX10_lock_5 : decode cX10_lock 5 = .ok (.pop, 1) := by decide +kernel
theorem dX10_lock_6 : decode cX10_lock 6 = .ok (.aload_n 0, 1) := by decide +kernel
theorem dX10_lock_7 : decode cX10_lock 7 = .ok (.iload_n 2, 1) := by decide +kernel
theorem dX10_lock_8 : decode cX10_lock 8 = .ok (.invokevirtual 53, 3) := by decide +kernel
theorem dX10_lock_11 : decode cX10_lock 11 = .ok (.astore_n 3, 1) := by decide +kernel
theorem dX10_lock_12 : decode cX10_lock 12 = .ok (.aload_n 3, 1) := by decide +kernel
theorem dX10_lock_13 : decode cX10_lock 13 = .ok (.iload_n 1, 1) := by decide +kernel
theorem dX10_lock_14 : decode cX10_lock 14 = .ok (.invokevirtual 217, 3) := by decide +kernel
theorem dX10_lock_17 : decode cX10_lock 17 = .ok (.ifCond .ne 13, 3) := by decide +kernel
theorem dX10_lock_20 : decode cX10_lock 20 = .ok (.new 78, 3) := by decide +kernel
theorem dX10_lock_23 : decode cX10_lock 23 = .ok (.dup, 1) := by decide +kernel
theorem dX10_lock_24 : decode cX10_lock 24 = .ok (.ldc 221, 2) := by decide +kernel
theorem dX10_lock_26 : decode cX10_lock 26 = .ok (.invokespecial 82, 3) := by decide +kernel
theorem dX10_lock_29 : decode cX10_lock 29 = .ok (.athrow, 1) := by decide +kernel
theorem dX10_lock_30 : decode cX10_lock 30 = .ok (.aload_n 3, 1) := by decide +kernel
theorem dX10_lock_31 : decode cX10_lock 31 = .ok (.aload_n 3, 1) := by decide +kernel
theorem dX10_lock_32 : decode cX10_lock 32 = .ok (.getfield 223, 3) := by decide +kernel
theorem dX10_lock_35 : decode cX10_lock 35 = .ok (.iload_n 1, 1) := by decide +kernel
theorem dX10_lock_36 : decode cX10_lock 36 = .ok (.if_icmp .ne 7, 3) := by decide +kernel
theorem dX10_lock_39 : decode cX10_lock 39 = .ok (.iconst (-1), 1) := by decide +kernel
theorem dX10_lock_40 : decode cX10_lock 40 = .ok (.goto 4, 3) := by decide +kernel
theorem dX10_lock_43 : decode cX10_lock 43 = .ok (.iload_n 1, 1) := by decide +kernel
theorem dX10_lock_44 : decode cX10_lock 44 = .ok (.putfield 223, 3) := by decide +kernel
theorem dX10_lock_47 : decode cX10_lock 47 = .ok (.aload_n 3, 1) := by decide +kernel
theorem dX10_lock_48 : decode cX10_lock 48 = .ok (.getfield 223, 3) := by decide +kernel
theorem dX10_lock_51 : decode cX10_lock 51 = .ok (.iload_n 1, 1) := by decide +kernel
theorem dX10_lock_52 : decode cX10_lock 52 = .ok (.if_icmp .ne 7, 3) := by decide +kernel
theorem dX10_lock_55 : decode cX10_lock 55 = .ok (.iconst 1, 1) := by decide +kernel
theorem dX10_lock_56 : decode cX10_lock 56 = .ok (.goto 4, 3) := by decide +kernel
theorem dX10_lock_59 : decode cX10_lock 59 = .ok (.iconst 0, 1) := by decide +kernel
theorem dX10_lock_60 : decode cX10_lock 60 = .ok (.ireturn, 1) := by decide +kernel
theorem dX10_save_0 : decode cX10_save 0 = .ok (.aload_n 0, 1) := by decide +kernel
theorem dX10_save_1 : decode cX10_save 1 = .ok (.iload_n 1, 1) := by decide +kernel
theorem dX10_save_2 : decode cX10_save 2 = .ok (.invokevirtual 49, 3) := by decide +kernel
theorem dX10_save_5 : decode cX10_save 5 = .ok (.pop, 1) := by decide +kernel
theorem dX10_save_6 : decode cX10_save 6 = .ok (.aload_n 0, 1) := by decide +kernel
theorem dX10_save_7 : decode cX10_save 7 = .ok (.iload_n 2, 1) := by decide +kernel
theorem dX10_save_8 : decode cX10_save 8 = .ok (.invokevirtual 53, 3) := by decide +kernel
theorem dX10_save_11 : decode cX10_save 11 = .ok (.astore 4, 2) := by decide +kernel
theorem dX10_save_13 : decode cX10_save 13 = .ok (.iload_n 3, 1) := by decide +kernel
theorem dX10_save_14 : decode cX10_save 14 = .ok (.iconst (-1), 1) := by decide +kernel
theorem dX10_save_15 : decode cX10_save 15 = .ok (.if_icmp .ne 7, 3) := by decide +kernel
theorem dX10_save_18 : decode cX10_save 18 = .ok (.aconst_null, 1) := by decide +kernel
theorem dX10_save_19 : decode cX10_save 19 = .ok (.goto 8, 3) := by decide +kernel
theorem dX10_save_22 : decode cX10_save 22 = .ok (.aload_n 0, 1) := by decide +kernel
theorem dX10_save_23 : decode cX10_save 23 = .ok (.iload_n 3, 1) := by decide +kernel
theorem dX10_save_24 : decode cX10_save 24 = .ok (.invokevirtual 208, 3) := by decide +kernel
theorem dX10_save_27 : decode cX10_save 27 = .ok (.astore 5, 2) := by decide +kernel
theorem dX10_save_29 : decode cX10_save 29 = .ok (.aload 5, 2) := by decide +kernel
theorem dX10_save_31 : decode cX10_save 31 = .ok (.ifnull 23, 3) := by decide +kernel
theorem dX10_save_34 : decode cX10_save 34 = .ok (.aload 5, 2) := by decide +kernel
theorem dX10_save_36 : decode cX10_save 36 = .ok (.getfield 226, 3) := by decide +kernel
theorem dX10_save_39 : decode cX10_save 39 = .ok (.aload 4, 2) := by decide +kernel
theorem dX10_save_41 : decode cX10_save 41 = .ok (.if_acmp .eq 13, 3) := by decide +kernel
theorem dX10_save_44 : decode cX10_save 44 = .ok (.new 61, 3) := by decide +kernel
theorem dX10_save_47 : decode cX10_save 47 = .ok (.dup, 1) := by decide +kernel
theorem dX10_save_48 : decode cX10_save 48 = .ok (.ldc 227, 2) := by decide +kernel
theorem dX10_save_50 : decode cX10_save 50 = .ok (.invokespecial 65, 3) := by decide +kernel
theorem dX10_save_53 : decode cX10_save 53 = .ok (.athrow, 1) := by decide +kernel
theorem dX10_save_54 : decode cX10_save 54 = .ok (.aload_n 0, 1) := by decide +kernel
theorem dX10_save_55 : decode cX10_save 55 = .ok (.getfield 229, 3) := by decide +kernel
theorem dX10_save_58 : decode cX10_save 58 = .ok (.bipush 60, 2) := by decide +kernel
theorem dX10_save_60 : decode cX10_save 60 = .ok (.if_icmp .lt 13, 3) := by decide +kernel
theorem dX10_save_63 : decode cX10_save 63 = .ok (.new 78, 3) := by decide +kernel
theorem dX10_save_66 : decode cX10_save 66 = .ok (.dup, 1) := by decide +kernel
theorem dX10_save_67 : decode cX10_save 67 = .ok (.ldc 232, 2) := by decide +kernel
theorem dX10_save_69 : decode cX10_save 69 = .ok (.invokespecial 82, 3) := by decide +kernel
theorem dX10_save_72 : decode cX10_save 72 = .ok (.athrow, 1) := by decide +kernel
theorem dX10_save_73 : decode cX10_save 73 = .ok (.aload_n 0, 1) := by decide +kernel
theorem dX10_save_74 : decode cX10_save 74 = .ok (.getfield 28, 3) := by decide +kernel
theorem dX10_save_77 : decode cX10_save 77 = .ok (.new 234, 3) := by decide +kernel
theorem dX10_save_80 : decode cX10_save 80 = .ok (.dup, 1) := by decide +kernel
theorem dX10_save_81 : decode cX10_save 81 = .ok (.aload_n 0, 1) := by decide +kernel
theorem dX10_save_82 : decode cX10_save 82 = .ok (.getfield 229, 3) := by decide +kernel
theorem dX10_save_85 : decode cX10_save 85 = .ok (.iload_n 1, 1) := by decide +kernel
theorem dX10_save_86 : decode cX10_save 86 = .ok (.aload 4, 2) := by decide +kernel
theorem dX10_save_88 : decode cX10_save 88 = .ok (.aload 5, 2) := by decide +kernel
theorem dX10_save_90 : decode cX10_save 90 = .ok (.invokespecial 236, 3) := by decide +kernel
theorem dX10_save_93 : decode cX10_save 93 = .ok (.invokeinterface 188 2, 5) := by decide +kernel
theorem dX10_save_98 : decode cX10_save 98 = .ok (.pop, 1) := by decide +kernel
theorem dX10_save_99 : decode cX10_save 99 = .ok (.aload_n 0, 1) := by decide +kernel
theorem dX10_save_100 : decode cX10_save 100 = .ok (.dup, 1) := by decide +kernel
theorem dX10_save_101 : decode cX10_save 101 = .ok (.getfield 229, 3) := by decide +kernel
theorem dX10_save_104 : decode cX10_save 104 = .ok (.iconst 1, 1) := by decide +kernel
theorem dX10_save_105 : decode cX10_save 105 = .ok (.iadd, 1) := by decide +kernel
theorem dX10_save_106 : decode cX10_save 106 = .ok (.putfield 229, 3) := by decide +kernel
theorem dX10_save_109 : decode cX10_save 109 = .ok (.aload_n 0, 1) := by decide +kernel
theorem dX10_save_110 : decode cX10_save 110 = .ok (.getfield 229, 3) := by decide +kernel
theorem dX10_save_113 : decode cX10_save 113 = .ok (.iconst 1, 1) := by decide +kernel
theorem dX10_save_114 : decode cX10_save 114 = .ok (.isub, 1) := by decide +kernel
theorem dX10_save_115 : decode cX10_save 115 = .ok (.ireturn, 1) := by decide +kernel
theorem dX10_write_0 : decode cX10_write 0 = .ok (.iconst 0, 1) := by decide +kernel
theorem dX10_write_1 : decode cX10_write 1 = .ok (.istore_n 1, 1) := by decide +kernel
theorem dX10_write_2 : decode cX10_write 2 = .ok (.iload_n 1, 1) := by decide +kernel
theorem dX10_write_3 : decode cX10_write 3 = .ok (.aload_n 0, 1) := by decide +kernel
theorem dX10_write_4 : decode cX10_write 4 = .ok (.getfield 28, 3) := by decide +kernel
theorem dX10_write_7 : decode cX10_write 7 = .ok (.invokeinterface 168 1, 5) := by decide +kernel
theorem dX10_write_12 : decode cX10_write 12 = .ok (.if_icmp .ge 61, 3) := by decide +kernel
theorem dX10_write_15 : decode cX10_write 15 = .ok (.aload_n 0, 1) := by decide +kernel
theorem dX10_write_16 : decode cX10_write 16 = .ok (.getfield 28, 3) := by decide +kernel
theorem dX10_write_19 : decode cX10_write 19 = .ok (.iload_n 1, 1) := by decide +kernel
theorem dX10_write_20 : decode cX10_write 20 = .ok (.invokeinterface 239 2, 5) := by decide +kernel
theorem dX10_write_25 : decode cX10_write 25 = .ok (.checkcast 234, 3) := by decide +kernel
theorem dX10_write_28 : decode cX10_write 28 = .ok (.astore_n 2, 1) := by decide +kernel
theorem dX10_write_29 : decode cX10_write 29 = .ok (.aload_n 2, 1) := by decide +kernel
theorem dX10_write_30 : decode cX10_write 30 = .ok (.invokevirtual 243, 3) := by decide +kernel
theorem dX10_write_33 : decode cX10_write 33 = .ok (.ifCond .eq 34, 3) := by decide +kernel
theorem dX10_write_36 : decode cX10_write 36 = .ok (.aload_n 0, 1) := by decide +kernel
theorem dX10_write_37 : decode cX10_write 37 = .ok (.aload_n 2, 1) := by decide +kernel
theorem dX10_write_38 : decode cX10_write 38 = .ok (.invokevirtual 246, 3) := by decide +kernel
theorem dX10_write_41 : decode cX10_write 41 = .ok (.ifCond .eq 26, 3) := by decide +kernel
theorem dX10_write_44 : decode cX10_write 44 = .ok (.aload_n 0, 1) := by decide +kernel
theorem dX10_write_45 : decode cX10_write 45 = .ok (.getfield 28, 3) := by decide +kernel
theorem dX10_write_48 : decode cX10_write 48 = .ok (.iload_n 1, 1) := by decide +kernel
theorem dX10_write_49 : decode cX10_write 49 = .ok (.invokeinterface 250 2, 5) := by decide +kernel
theorem dX10_write_54 : decode cX10_write 54 = .ok (.pop, 1) := by decide +kernel
theorem dX10_write_55 : decode cX10_write 55 = .ok (.aload_n 2, 1) := by decide +kernel
theorem dX10_write_56 : decode cX10_write 56 = .ok (.getfield 253, 3) := by decide +kernel
theorem dX10_write_59 : decode cX10_write 59 = .ok (.invokevirtual 254, 3) := by decide +kernel
theorem dX10_write_62 : decode cX10_write 62 = .ok (.aload_n 2, 1) := by decide +kernel
theorem dX10_write_63 : decode cX10_write 63 = .ok (.getfield 257, 3) := by decide +kernel
theorem dX10_write_66 : decode cX10_write 66 = .ok (.ireturn, 1) := by decide +kernel
theorem dX10_write_67 : decode cX10_write 67 = .ok (.iinc 1 1, 3) := by decide +kernel
theorem dX10_write_70 : decode cX10_write 70 = .ok (.goto (-68), 3) := by decide +kernel
theorem dX10_write_73 : decode cX10_write 73 = .ok (.iconst (-1), 1) := by decide +kernel
theorem dX10_write_74 : decode cX10_write 74 = .ok (.ireturn, 1) := by decide +kernel
theorem dX10_queued_0 : decode cX10_queued 0 = .ok (.aload_n 0, 1) := by decide +kernel
theorem dX10_queued_1 : decode cX10_queued 1 = .ok (.getfield 28, 3) := by decide +kernel
theorem dX10_queued_4 : decode cX10_queued 4 = .ok (.invokeinterface 168 1, 5) := by decide +kernel
theorem dX10_queued_9 : decode cX10_queued 9 = .ok (.ireturn, 1) := by decide +kernel
theorem dX10_savedVersion_0 : decode cX10_savedVersion 0 = .ok (.aload_n 0, 1) := by decide +kernel
theorem dX10_savedVersion_1 : decode cX10_savedVersion 1 = .ok (.iload_n 1, 1) := by decide +kernel
theorem dX10_savedVersion_2 : decode cX10_savedVersion 2 = .ok (.invokevirtual 53, 3) := by decide +kernel
theorem dX10_savedVersion_5 : decode cX10_savedVersion 5 = .ok (.getfield 258, 3) := by decide +kernel
theorem dX10_savedVersion_8 : decode cX10_savedVersion 8 = .ok (.ireturn, 1) := by decide +kernel
theorem dX10_savedLength_0 : decode cX10_savedLength 0 = .ok (.aload_n 0, 1) := by decide +kernel
theorem dX10_savedLength_1 : decode cX10_savedLength 1 = .ok (.iload_n 1, 1) := by decide +kernel
theorem dX10_savedLength_2 : decode cX10_savedLength 2 = .ok (.invokevirtual 53, 3) := by decide +kernel
theorem dX10_savedLength_5 : decode cX10_savedLength 5 = .ok (.getfield 261, 3) := by decide +kernel
theorem dX10_savedLength_8 : decode cX10_savedLength 8 = .ok (.ireturn, 1) := by decide +kernel
theorem dX10_savedLetter_0 : decode cX10_savedLetter 0 = .ok (.aload_n 0, 1) := by decide +kernel
theorem dX10_savedLetter_1 : decode cX10_savedLetter 1 = .ok (.iload_n 1, 1) := by decide +kernel
theorem dX10_savedLetter_2 : decode cX10_savedLetter 2 = .ok (.invokevirtual 53, 3) := by decide +kernel
theorem dX10_savedLetter_5 : decode cX10_savedLetter 5 = .ok (.astore_n 3, 1) := by decide +kernel
theorem dX10_savedLetter_6 : decode cX10_savedLetter 6 = .ok (.iload_n 2, 1) := by decide +kernel
theorem dX10_savedLetter_7 : decode cX10_savedLetter 7 = .ok (.ifCond .lt 11, 3) := by decide +kernel
theorem dX10_savedLetter_10 : decode cX10_savedLetter 10 = .ok (.iload_n 2, 1) := by decide +kernel
theorem dX10_savedLetter_11 : decode cX10_savedLetter 11 = .ok (.aload_n 3, 1) := by decide +kernel
theorem dX10_savedLetter_12 : decode cX10_savedLetter 12 = .ok (.getfield 261, 3) := by decide +kernel
theorem dX10_savedLetter_15 : decode cX10_savedLetter 15 = .ok (.if_icmp .lt 13, 3) := by decide +kernel
theorem dX10_savedLetter_18 : decode cX10_savedLetter 18 = .ok (.new 113, 3) := by decide +kernel
theorem dX10_savedLetter_21 : decode cX10_savedLetter 21 = .ok (.dup, 1) := by decide +kernel
theorem dX10_savedLetter_22 : decode cX10_savedLetter 22 = .ok (.ldc 115, 2) := by decide +kernel
theorem dX10_savedLetter_24 : decode cX10_savedLetter 24 = .ok (.invokespecial 117, 3) := by decide +kernel
theorem dX10_savedLetter_27 : decode cX10_savedLetter 27 = .ok (.athrow, 1) := by decide +kernel
theorem dX10_savedLetter_28 : decode cX10_savedLetter 28 = .ok (.aload_n 3, 1) := by decide +kernel
theorem dX10_savedLetter_29 : decode cX10_savedLetter 29 = .ok (.getfield 264, 3) := by decide +kernel
theorem dX10_savedLetter_32 : decode cX10_savedLetter 32 = .ok (.iload_n 2, 1) := by decide +kernel
theorem dX10_savedLetter_33 : decode cX10_savedLetter 33 = .ok (.caload, 1) := by decide +kernel
theorem dX10_savedLetter_34 : decode cX10_savedLetter 34 = .ok (.ireturn, 1) := by decide +kernel
theorem dX10_handAt_0 : decode cX10_handAt 0 = .ok (.iload_n 1, 1) := by decide +kernel
theorem dX10_handAt_1 : decode cX10_handAt 1 = .ok (.ifCond .lt 17, 3) := by decide +kernel
theorem dX10_handAt_4 : decode cX10_handAt 4 = .ok (.iload_n 1, 1) := by decide +kernel
theorem dX10_handAt_5 : decode cX10_handAt 5 = .ok (.iconst 5, 1) := by decide +kernel
theorem dX10_handAt_6 : decode cX10_handAt 6 = .ok (.if_icmp .ge 12, 3) := by decide +kernel
theorem dX10_handAt_9 : decode cX10_handAt 9 = .ok (.aload_n 0, 1) := by decide +kernel
theorem dX10_handAt_10 : decode cX10_handAt 10 = .ok (.getfield 17, 3) := by decide +kernel
theorem dX10_handAt_13 : decode cX10_handAt 13 = .ok (.iload_n 1, 1) := by decide +kernel
theorem dX10_handAt_14 : decode cX10_handAt 14 = .ok (.aaload, 1) := by decide +kernel
theorem dX10_handAt_15 : decode cX10_handAt 15 = .ok (.goto 4, 3) := by decide +kernel
theorem dX10_handAt_18 : decode cX10_handAt 18 = .ok (.aconst_null, 1) := by decide +kernel
theorem dX10_handAt_19 : decode cX10_handAt 19 = .ok (.astore_n 2, 1) := by decide +kernel
theorem dX10_handAt_20 : decode cX10_handAt 20 = .ok (.aload_n 2, 1) := by decide +kernel
theorem dX10_handAt_21 : decode cX10_handAt 21 = .ok (.ifnonnull 14, 3) := by decide +kernel
theorem dX10_handAt_24 : decode cX10_handAt 24 = .ok (.new 113, 3) := by decide +kernel
theorem dX10_handAt_27 : decode cX10_handAt 27 = .ok (.dup, 1) := by decide +kernel
theorem dX10_handAt_28 : decode cX10_handAt 28 = .ok (.ldc_w 268, 3) := by decide +kernel
theorem dX10_handAt_31 : decode cX10_handAt 31 = .ok (.invokespecial 117, 3) := by decide +kernel
theorem dX10_handAt_34 : decode cX10_handAt 34 = .ok (.athrow, 1) := by decide +kernel
theorem dX10_handAt_35 : decode cX10_handAt 35 = .ok (.aload_n 2, 1) := by decide +kernel
theorem dX10_handAt_36 : decode cX10_handAt 36 = .ok (.areturn, 1) := by decide +kernel
theorem dX10_textAt_0 : decode cX10_textAt 0 = .ok (.iload_n 1, 1) := by decide +kernel
theorem dX10_textAt_1 : decode cX10_textAt 1 = .ok (.ifCond .lt 17, 3) := by decide +kernel
theorem dX10_textAt_4 : decode cX10_textAt 4 = .ok (.iload_n 1, 1) := by decide +kernel
theorem dX10_textAt_5 : decode cX10_textAt 5 = .ok (.iconst 3, 1) := by decide +kernel
theorem dX10_textAt_6 : decode cX10_textAt 6 = .ok (.if_icmp .ge 12, 3) := by decide +kernel
theorem dX10_textAt_9 : decode cX10_textAt 9 = .ok (.aload_n 0, 1) := by decide +kernel
theorem dX10_textAt_10 : decode cX10_textAt 10 = .ok (.getfield 11, 3) := by decide +kernel
theorem dX10_textAt_13 : decode cX10_textAt 13 = .ok (.iload_n 1, 1) := by decide +kernel
theorem dX10_textAt_14 : decode cX10_textAt 14 = .ok (.aaload, 1) := by decide +kernel
theorem dX10_textAt_15 : decode cX10_textAt 15 = .ok (.goto 4, 3) := by decide +kernel
theorem dX10_textAt_18 : decode cX10_textAt 18 = .ok (.aconst_null, 1) := by decide +kernel
theorem dX10_textAt_19 : decode cX10_textAt 19 = .ok (.astore_n 2, 1) := by decide +kernel
theorem dX10_textAt_20 : decode cX10_textAt 20 = .ok (.aload_n 2, 1) := by decide +kernel
theorem dX10_textAt_21 : decode cX10_textAt 21 = .ok (.ifnonnull 14, 3) := by decide +kernel
theorem dX10_textAt_24 : decode cX10_textAt 24 = .ok (.new 113, 3) := by decide +kernel
theorem dX10_textAt_27 : decode cX10_textAt 27 = .ok (.dup, 1) := by decide +kernel
theorem dX10_textAt_28 : decode cX10_textAt 28 = .ok (.ldc_w 270, 3) := by decide +kernel
theorem dX10_textAt_31 : decode cX10_textAt 31 = .ok (.invokespecial 117, 3) := by decide +kernel
theorem dX10_textAt_34 : decode cX10_textAt 34 = .ok (.athrow, 1) := by decide +kernel
theorem dX10_textAt_35 : decode cX10_textAt 35 = .ok (.aload_n 2, 1) := by decide +kernel
theorem dX10_textAt_36 : decode cX10_textAt 36 = .ok (.areturn, 1) := by decide +kernel
theorem dX10_formatAt_0 : decode cX10_formatAt 0 = .ok (.iload_n 1, 1) := by decide +kernel
theorem dX10_formatAt_1 : decode cX10_formatAt 1 = .ok (.ifCond .lt 16, 3) := by decide +kernel
theorem dX10_formatAt_4 : decode cX10_formatAt 4 = .ok (.iload_n 1, 1) := by decide +kernel
theorem dX10_formatAt_5 : decode cX10_formatAt 5 = .ok (.aload_n 0, 1) := by decide +kernel
theorem dX10_formatAt_6 : decode cX10_formatAt 6 = .ok (.getfield 24, 3) := by decide +kernel
theorem dX10_formatAt_9 : decode cX10_formatAt 9 = .ok (.invokeinterface 168 1, 5) := by decide +kernel
theorem dX10_formatAt_14 : decode cX10_formatAt 14 = .ok (.if_icmp .lt 14, 3) := by decide +kernel
theorem dX10_formatAt_17 : decode cX10_formatAt 17 = .ok (.new 113, 3) := by decide +kernel
theorem dX10_formatAt_20 : decode cX10_formatAt 20 = .ok (.dup, 1) := by decide +kernel
theorem dX10_formatAt_21 : decode cX10_formatAt 21 = .ok (.ldc_w 272, 3) := by decide +kernel
theorem dX10_formatAt_24 : decode cX10_formatAt 24 = .ok (.invokespecial 117, 3) := by decide +kernel
theorem dX10_formatAt_27 : decode cX10_formatAt 27 = .ok (.athrow, 1) := by decide +kernel
theorem dX10_formatAt_28 : decode cX10_formatAt 28 = .ok (.aload_n 0, 1) := by decide +kernel
theorem dX10_formatAt_29 : decode cX10_formatAt 29 = .ok (.getfield 24, 3) := by decide +kernel
theorem dX10_formatAt_32 : decode cX10_formatAt 32 = .ok (.iload_n 1, 1) := by decide +kernel
theorem dX10_formatAt_33 : decode cX10_formatAt 33 = .ok (.invokeinterface 239 2, 5) := by decide +kernel
theorem dX10_formatAt_38 : decode cX10_formatAt 38 = .ok (.checkcast 179, 3) := by decide +kernel
theorem dX10_formatAt_41 : decode cX10_formatAt 41 = .ok (.areturn, 1) := by decide +kernel
theorem dX10_waitingFormatAt_0 : decode cX10_waitingFormatAt 0 = .ok (.aload_n 0, 1) := by decide +kernel
theorem dX10_waitingFormatAt_1 : decode cX10_waitingFormatAt 1 = .ok (.iload_n 1, 1) := by decide +kernel
theorem dX10_waitingFormatAt_2 : decode cX10_waitingFormatAt 2 = .ok (.invokevirtual 208, 3) := by decide +kernel
theorem dX10_waitingFormatAt_5 : decode cX10_waitingFormatAt 5 = .ok (.astore_n 2, 1) := by decide +kernel
theorem dX10_waitingFormatAt_6 : decode cX10_waitingFormatAt 6 = .ok (.aload_n 2, 1) := by decide +kernel
theorem dX10_waitingFormatAt_7 : decode cX10_waitingFormatAt 7 = .ok (.getfield 211, 3) := by decide +kernel
theorem dX10_waitingFormatAt_10 : decode cX10_waitingFormatAt 10 = .ok (.ifCond .eq 14, 3) := by decide +kernel
theorem dX10_waitingFormatAt_13 : decode cX10_waitingFormatAt 13 = .ok (.new 78, 3) := by decide +kernel
theorem dX10_waitingFormatAt_16 : decode cX10_waitingFormatAt 16 = .ok (.dup, 1) := by decide +kernel
theorem dX10_waitingFormatAt_17 : decode cX10_waitingFormatAt 17 = .ok (.ldc_w 274, 3) := by decide +kernel
theorem dX10_waitingFormatAt_20 : decode cX10_waitingFormatAt 20 = .ok (.invokespecial 82, 3) := by decide +kernel
theorem dX10_waitingFormatAt_23 : decode cX10_waitingFormatAt 23 = .ok (.athrow, 1) := by decide +kernel
theorem dX10_waitingFormatAt_24 : decode cX10_waitingFormatAt 24 = .ok (.aload_n 2, 1) := by decide +kernel
theorem dX10_waitingFormatAt_25 : decode cX10_waitingFormatAt 25 = .ok (.areturn, 1) := by decide +kernel
theorem dX10_isFirstForItsText_0 : decode cX10_isFirstForItsText 0 = .ok (.iconst 0, 1) := by decide +kernel
theorem dX10_isFirstForItsText_1 : decode cX10_isFirstForItsText 1 = .ok (.istore_n 2, 1) := by decide +kernel
theorem dX10_isFirstForItsText_2 : decode cX10_isFirstForItsText 2 = .ok (.iload_n 2, 1) := by decide +kernel
theorem dX10_isFirstForItsText_3 : decode cX10_isFirstForItsText 3 = .ok (.aload_n 0, 1) := by decide +kernel
theorem dX10_isFirstForItsText_4 : decode cX10_isFirstForItsText 4 = .ok (.getfield 28, 3) := by decide +kernel
theorem dX10_isFirstForItsText_7 : decode cX10_isFirstForItsText 7 = .ok (.invokeinterface 168 1, 5) := by decide +kernel
theorem dX10_isFirstForItsText_12 : decode cX10_isFirstForItsText 12 = .ok (.if_icmp .ge 52, 3) := by decide +kernel
theorem dX10_isFirstForItsText_15 : decode cX10_isFirstForItsText 15 = .ok (.aload_n 0, 1) := by decide +kernel
theorem dX10_isFirstForItsText_16 : decode cX10_isFirstForItsText 16 = .ok (.getfield 28, 3) := by decide +kernel
theorem dX10_isFirstForItsText_19 : decode cX10_isFirstForItsText 19 = .ok (.iload_n 2, 1) := by decide +kernel
theorem dX10_isFirstForItsText_20 : decode cX10_isFirstForItsText 20 = .ok (.invokeinterface 239 2, 5) := by decide +kernel
theorem dX10_isFirstForItsText_25 : decode cX10_isFirstForItsText 25 = .ok (.checkcast 234, 3) := by decide +kernel
theorem dX10_isFirstForItsText_28 : decode cX10_isFirstForItsText 28 = .ok (.getfield 253, 3) := by decide +kernel
theorem dX10_isFirstForItsText_31 : decode cX10_isFirstForItsText 31 = .ok (.aload_n 1, 1) := by decide +kernel
theorem dX10_isFirstForItsText_32 : decode cX10_isFirstForItsText 32 = .ok (.getfield 253, 3) := by decide +kernel
theorem dX10_isFirstForItsText_35 : decode cX10_isFirstForItsText 35 = .ok (.if_acmp .ne 23, 3) := by decide +kernel
theorem dX10_isFirstForItsText_38 : decode cX10_isFirstForItsText 38 = .ok (.aload_n 0, 1) := by decide +kernel
theorem dX10_isFirstForItsText_39 : decode cX10_isFirstForItsText 39 = .ok (.getfield 28, 3) := by decide +kernel
theorem dX10_isFirstForItsText_42 : decode cX10_isFirstForItsText 42 = .ok (.iload_n 2, 1) := by decide +kernel
theorem dX10_isFirstForItsText_43 : decode cX10_isFirstForItsText 43 = .ok (.invokeinterface 239 2, 5) := by decide +kernel
theorem dX10_isFirstForItsText_48 : decode cX10_isFirstForItsText 48 = .ok (.aload_n 1, 1) := by decide +kernel
theorem dX10_isFirstForItsText_49 : decode cX10_isFirstForItsText 49 = .ok (.if_acmp .ne 7, 3) := by decide +kernel
theorem dX10_isFirstForItsText_52 : decode cX10_isFirstForItsText 52 = .ok (.iconst 1, 1) := by decide +kernel
theorem dX10_isFirstForItsText_53 : decode cX10_isFirstForItsText 53 = .ok (.goto 4, 3) := by decide +kernel
theorem dX10_isFirstForItsText_56 : decode cX10_isFirstForItsText 56 = .ok (.iconst 0, 1) := by decide +kernel
theorem dX10_isFirstForItsText_57 : decode cX10_isFirstForItsText 57 = .ok (.ireturn, 1) := by decide +kernel
theorem dX10_isFirstForItsText_58 : decode cX10_isFirstForItsText 58 = .ok (.iinc 2 1, 3) := by decide +kernel
theorem dX10_isFirstForItsText_61 : decode cX10_isFirstForItsText 61 = .ok (.goto (-59), 3) := by decide +kernel
theorem dX10_isFirstForItsText_64 : decode cX10_isFirstForItsText 64 = .ok (.iconst 0, 1) := by decide +kernel
theorem dX10_isFirstForItsText_65 : decode cX10_isFirstForItsText 65 = .ok (.ireturn, 1) := by decide +kernel
theorem dX10_shownSign_0 : decode cX10_shownSign 0 = .ok (.aload_n 0, 1) := by decide +kernel
theorem dX10_shownSign_1 : decode cX10_shownSign 1 = .ok (.iload_n 1, 1) := by decide +kernel
theorem dX10_shownSign_2 : decode cX10_shownSign 2 = .ok (.invokevirtual 118, 3) := by decide +kernel
theorem dX10_shownSign_5 : decode cX10_shownSign 5 = .ok (.istore_n 2, 1) := by decide +kernel
theorem dX10_shownSign_6 : decode cX10_shownSign 6 = .ok (.iload_n 2, 1) := by decide +kernel
theorem dX10_shownSign_7 : decode cX10_shownSign 7 = .ok (.iconst (-1), 1) := by decide +kernel
theorem dX10_shownSign_8 : decode cX10_shownSign 8 = .ok (.if_icmp .ne 13, 3) := by decide +kernel
theorem dX10_shownSign_11 : decode cX10_shownSign 11 = .ok (.new 113, 3) := by decide +kernel
theorem dX10_shownSign_14 : decode cX10_shownSign 14 = .ok (.dup, 1) := by decide +kernel
theorem dX10_shownSign_15 : decode cX10_shownSign 15 = .ok (.ldc 115, 2) := by decide +kernel
theorem dX10_shownSign_17 : decode cX10_shownSign 17 = .ok (.invokespecial 117, 3) := by decide +kernel
theorem dX10_shownSign_20 : decode cX10_shownSign 20 = .ok (.athrow, 1) := by decide +kernel
theorem dX10_shownSign_21 : decode cX10_shownSign 21 = .ok (.aload_n 0, 1) := by decide +kernel
theorem dX10_shownSign_22 : decode cX10_shownSign 22 = .ok (.iload_n 2, 1) := by decide +kernel
theorem dX10_shownSign_23 : decode cX10_shownSign 23 = .ok (.invokevirtual 276, 3) := by decide +kernel
theorem dX10_shownSign_26 : decode cX10_shownSign 26 = .ok (.ireturn, 1) := by decide +kernel
theorem dX10_canBeTyped_0 : decode cX10_canBeTyped 0 = .ok (.iload_n 0, 1) := by decide +kernel
theorem dX10_canBeTyped_1 : decode cX10_canBeTyped 1 = .ok (.bipush 97, 2) := by decide +kernel
theorem dX10_canBeTyped_3 : decode cX10_canBeTyped 3 = .ok (.if_icmp .lt 9, 3) := by decide +kernel
theorem dX10_canBeTyped_6 : decode cX10_canBeTyped 6 = .ok (.iload_n 0, 1) := by decide +kernel
theorem dX10_canBeTyped_7 : decode cX10_canBeTyped 7 = .ok (.bipush 122, 2) := by decide +kernel
theorem dX10_canBeTyped_9 : decode cX10_canBeTyped 9 = .ok (.if_icmp .le 39, 3) := by decide +kernel
theorem dX10_canBeTyped_12 : decode cX10_canBeTyped 12 = .ok (.iload_n 0, 1) := by decide +kernel
theorem dX10_canBeTyped_13 : decode cX10_canBeTyped 13 = .ok (.bipush 65, 2) := by decide +kernel
theorem dX10_canBeTyped_15 : decode cX10_canBeTyped 15 = .ok (.if_icmp .lt 9, 3) := by decide +kernel
theorem dX10_canBeTyped_18 : decode cX10_canBeTyped 18 = .ok (.iload_n 0, 1) := by decide +kernel
theorem dX10_canBeTyped_19 : decode cX10_canBeTyped 19 = .ok (.bipush 90, 2) := by decide +kernel
theorem dX10_canBeTyped_21 : decode cX10_canBeTyped 21 = .ok (.if_icmp .le 27, 3) := by decide +kernel
theorem dX10_canBeTyped_24 : decode cX10_canBeTyped 24 = .ok (.iload_n 0, 1) := by decide +kernel
theorem dX10_canBeTyped_25 : decode cX10_canBeTyped 25 = .ok (.bipush 48, 2) := by decide +kernel
theorem dX10_canBeTyped_27 : decode cX10_canBeTyped 27 = .ok (.if_icmp .lt 9, 3) := by decide +kernel
theorem dX10_canBeTyped_30 : decode cX10_canBeTyped 30 = .ok (.iload_n 0, 1) := by decide +kernel
theorem dX10_canBeTyped_31 : decode cX10_canBeTyped 31 = .ok (.bipush 57, 2) := by decide +kernel
theorem dX10_canBeTyped_33 : decode cX10_canBeTyped 33 = .ok (.if_icmp .le 15, 3) := by decide +kernel
theorem dX10_canBeTyped_36 : decode cX10_canBeTyped 36 = .ok (.iload_n 0, 1) := by decide +kernel
theorem dX10_canBeTyped_37 : decode cX10_canBeTyped 37 = .ok (.bipush 32, 2) := by decide +kernel
theorem dX10_canBeTyped_39 : decode cX10_canBeTyped 39 = .ok (.if_icmp .eq 9, 3) := by decide +kernel
theorem dX10_canBeTyped_42 : decode cX10_canBeTyped 42 = .ok (.iload_n 0, 1) := by decide +kernel
theorem dX10_canBeTyped_43 : decode cX10_canBeTyped 43 = .ok (.bipush 47, 2) := by decide +kernel
theorem dX10_canBeTyped_45 : decode cX10_canBeTyped 45 = .ok (.if_icmp .ne 7, 3) := by decide +kernel
theorem dX10_canBeTyped_48 : decode cX10_canBeTyped 48 = .ok (.iconst 1, 1) := by decide +kernel
theorem dX10_canBeTyped_49 : decode cX10_canBeTyped 49 = .ok (.goto 4, 3) := by decide +kernel
theorem dX10_canBeTyped_52 : decode cX10_canBeTyped 52 = .ok (.iconst 0, 1) := by decide +kernel
theorem dX10_canBeTyped_53 : decode cX10_canBeTyped 53 = .ok (.ireturn, 1) := by decide +kernel
theorem dX10_canBeAsked_0 : decode cX10_canBeAsked 0 = .ok (.iload_n 0, 1) := by decide +kernel
theorem dX10_canBeAsked_1 : decode cX10_canBeAsked 1 = .ok (.iconst 3, 1) := by decide +kernel
theorem dX10_canBeAsked_2 : decode cX10_canBeAsked 2 = .ok (.if_icmp .ne 20, 3) := by decide +kernel
theorem dX10_canBeAsked_5 : decode cX10_canBeAsked 5 = .ok (.iload_n 1, 1) := by decide +kernel
theorem dX10_canBeAsked_6 : decode cX10_canBeAsked 6 = .ok (.iconst 5, 1) := by decide +kernel
theorem dX10_canBeAsked_7 : decode cX10_canBeAsked 7 = .ok (.if_icmp .lt 13, 3) := by decide +kernel
theorem dX10_canBeAsked_10 : decode cX10_canBeAsked 10 = .ok (.iload_n 1, 1) := by decide +kernel
theorem dX10_canBeAsked_11 : decode cX10_canBeAsked 11 = .ok (.bipush 40, 2) := by decide +kernel
theorem dX10_canBeAsked_13 : decode cX10_canBeAsked 13 = .ok (.if_icmp .gt 7, 3) := by decide +kernel
theorem dX10_canBeAsked_16 : decode cX10_canBeAsked 16 = .ok (.iconst 1, 1) := by decide +kernel
theorem dX10_canBeAsked_17 : decode cX10_canBeAsked 17 = .ok (.goto 4, 3) := by decide +kernel
theorem dX10_canBeAsked_20 : decode cX10_canBeAsked 20 = .ok (.iconst 0, 1) := by decide +kernel
theorem dX10_canBeAsked_21 : decode cX10_canBeAsked 21 = .ok (.ireturn, 1) := by decide +kernel
theorem dX10_canBeAsked_22 : decode cX10_canBeAsked 22 = .ok (.iload_n 0, 1) := by decide +kernel
theorem dX10_canBeAsked_23 : decode cX10_canBeAsked 23 = .ok (.ifCond .eq 13, 3) := by decide +kernel
theorem dX10_canBeAsked_26 : decode cX10_canBeAsked 26 = .ok (.iload_n 0, 1) := by decide +kernel
theorem dX10_canBeAsked_27 : decode cX10_canBeAsked 27 = .ok (.iconst 1, 1) := by decide +kernel
theorem dX10_canBeAsked_28 : decode cX10_canBeAsked 28 = .ok (.if_icmp .eq 8, 3) := by decide +kernel
theorem dX10_canBeAsked_31 : decode cX10_canBeAsked 31 = .ok (.iload_n 0, 1) := by decide +kernel
theorem dX10_canBeAsked_32 : decode cX10_canBeAsked 32 = .ok (.iconst 2, 1) := by decide +kernel
theorem dX10_canBeAsked_33 : decode cX10_canBeAsked 33 = .ok (.if_icmp .ne 11, 3) := by decide +kernel
theorem dX10_canBeAsked_36 : decode cX10_canBeAsked 36 = .ok (.iload_n 1, 1) := by decide +kernel
theorem dX10_canBeAsked_37 : decode cX10_canBeAsked 37 = .ok (.ifCond .ne 7, 3) := by decide +kernel
theorem dX10_canBeAsked_40 : decode cX10_canBeAsked 40 = .ok (.iconst 1, 1) := by decide +kernel
theorem dX10_canBeAsked_41 : decode cX10_canBeAsked 41 = .ok (.goto 4, 3) := by decide +kernel
theorem dX10_canBeAsked_44 : decode cX10_canBeAsked 44 = .ok (.iconst 0, 1) := by decide +kernel
theorem dX10_canBeAsked_45 : decode cX10_canBeAsked 45 = .ok (.ireturn, 1) := by decide +kernel
theorem dX11_init_0 : decode cX11_init 0 = .ok (.aload_n 0, 1) := by decide +kernel
theorem dX11_init_1 : decode cX11_init 1 = .ok (.invokespecial 1, 3) := by decide +kernel
theorem dX11_init_4 : decode cX11_init 4 = .ok (.aload_n 0, 1) := by decide +kernel
theorem dX11_init_5 : decode cX11_init 5 = .ok (.sipush 450, 3) := by decide +kernel
theorem dX11_init_8 : decode cX11_init 8 = .ok (.newarray .int, 2) := by decide +kernel
theorem dX11_init_10 : decode cX11_init 10 = .ok (.putfield 7, 3) := by decide +kernel
theorem dX11_init_13 : decode cX11_init 13 = .ok (.aload_n 0, 1) := by decide +kernel
theorem dX11_init_14 : decode cX11_init 14 = .ok (.sipush 450, 3) := by decide +kernel
theorem dX11_init_17 : decode cX11_init 17 = .ok (.newarray .int, 2) := by decide +kernel
theorem dX11_init_19 : decode cX11_init 19 = .ok (.putfield 13, 3) := by decide +kernel
theorem dX11_init_22 : decode cX11_init 22 = .ok (.aload_n 0, 1) := by decide +kernel
theorem dX11_init_23 : decode cX11_init 23 = .ok (.sipush 450, 3) := by decide +kernel
theorem dX11_init_26 : decode cX11_init 26 = .ok (.newarray .boolean, 2) := by decide +kernel
theorem dX11_init_28 : decode cX11_init 28 = .ok (.putfield 16, 3) := by decide +kernel
theorem dX11_init_31 : decode cX11_init 31 = .ok (.aload_n 0, 1) := by decide +kernel
theorem dX11_init_32 : decode cX11_init 32 = .ok (.iconst 3, 1) := by decide +kernel
theorem dX11_init_33 : decode cX11_init 33 = .ok (.newarray .int, 2) := by decide +kernel
theorem dX11_init_35 : decode cX11_init 35 = .ok (.putfield 20, 3) := by decide +kernel
theorem dX11_init_38 : decode cX11_init 38 = .ok (.aload_n 0, 1) := by decide +kernel
theorem dX11_init_39 : decode cX11_init 39 = .ok (.iconst 3, 1) := by decide +kernel
theorem dX11_init_40 : decode cX11_init 40 = .ok (.newarray .int, 2) := by decide +kernel
theorem dX11_init_42 : decode cX11_init 42 = .ok (.putfield 23, 3) := by decide +kernel
theorem dX11_init_45 : decode cX11_init 45 = .ok (.aload_n 0, 1) := by decide +kernel
theorem dX11_init_46 : decode cX11_init 46 = .ok (.bipush 15, 2) := by decide +kernel
theorem dX11_init_48 : decode cX11_init 48 = .ok (.newarray .int, 2) := by decide +kernel
theorem dX11_init_50 : decode cX11_init 50 = .ok (.putfield 26, 3) := by decide +kernel
theorem dX11_init_53 : decode cX11_init 53 = .ok (.aload_n 0, 1) := by decide +kernel
theorem dX11_init_54 : decode cX11_init 54 = .ok (.sipush 3000, 3) := by decide +kernel
theorem dX11_init_57 : decode cX11_init 57 = .ok (.newarray .int, 2) := by decide +kernel
theorem dX11_init_59 : decode cX11_init 59 = .ok (.putfield 29, 3) := by decide +kernel
theorem dX11_init_62 : decode cX11_init 62 = .ok (.aload_n 0, 1) := by decide +kernel
theorem dX11_init_63 : decode cX11_init 63 = .ok (.iconst 5, 1) := by decide +kernel
theorem dX11_init_64 : decode cX11_init 64 = .ok (.newarray .int, 2) := by decide +kernel
theorem dX11_init_66 : decode cX11_init 66 = .ok (.putfield 32, 3) := by decide +kernel
theorem dX11_init_69 : decode cX11_init 69 = .ok (.aload_n 0, 1) := by decide +kernel
theorem dX11_init_70 : decode cX11_init 70 = .ok (.iconst 5, 1) := by decide +kernel
theorem dX11_init_71 : decode cX11_init 71 = .ok (.newarray .int, 2) := by decide +kernel
theorem dX11_init_73 : decode cX11_init 73 = .ok (.putfield 35, 3) := by decide +kernel
theorem dX11_init_76 : decode cX11_init 76 = .ok (.aload_n 0, 1) := by decide +kernel
theorem dX11_init_77 : decode cX11_init 77 = .ok (.bipush 60, 2) := by decide +kernel
theorem dX11_init_79 : decode cX11_init 79 = .ok (.newarray .int, 2) := by decide +kernel
theorem dX11_init_81 : decode cX11_init 81 = .ok (.putfield 38, 3) := by decide +kernel
theorem dX11_init_84 : decode cX11_init 84 = .ok (.aload_n 0, 1) := by decide +kernel
theorem dX11_init_85 : decode cX11_init 85 = .ok (.bipush 60, 2) := by decide +kernel
theorem dX11_init_87 : decode cX11_init 87 = .ok (.newarray .int, 2) := by decide +kernel
theorem dX11_init_89 : decode cX11_init 89 = .ok (.putfield 41, 3) := by decide +kernel
theorem dX11_init_92 : decode cX11_init 92 = .ok (.aload_n 0, 1) := by decide +kernel
theorem dX11_init_93 : decode cX11_init 93 = .ok (.bipush 60, 2) := by decide +kernel
theorem dX11_init_95 : decode cX11_init 95 = .ok (.newarray .int, 2) := by decide +kernel
theorem dX11_init_97 : decode cX11_init 97 = .ok (.putfield 44, 3) := by decide +kernel
theorem dX11_init_100 : decode cX11_init 100 = .ok (.aload_n 0, 1) := by decide +kernel
theorem dX11_init_101 : decode cX11_init 101 = .ok (.bipush 60, 2) := by decide +kernel
theorem dX11_init_103 : decode cX11_init 103 = .ok (.newarray .int, 2) := by decide +kernel
theorem dX11_init_105 : decode cX11_init 105 = .ok (.putfield 47, 3) := by decide +kernel
theorem dX11_init_108 : decode cX11_init 108 = .ok (.aload_n 0, 1) := by decide +kernel
theorem dX11_init_109 : decode cX11_init 109 = .ok (.sipush 9000, 3) := by decide +kernel
theorem dX11_init_112 : decode cX11_init 112 = .ok (.newarray .int, 2) := by decide +kernel
theorem dX11_init_114 : decode cX11_init 114 = .ok (.putfield 50, 3) := by decide +kernel
theorem dX11_init_117 : decode cX11_init 117 = .ok (.aload_n 0, 1) := by decide +kernel
theorem dX11_init_118 : decode cX11_init 118 = .ok (.sipush 9000, 3) := by decide +kernel
theorem dX11_init_121 : decode cX11_init 121 = .ok (.newarray .int, 2) := by decide +kernel
theorem dX11_init_123 : decode cX11_init 123 = .ok (.putfield 53, 3) := by decide +kernel
theorem dX11_init_126 : decode cX11_init 126 = .ok (.aload_n 0, 1) := by decide +kernel
theorem dX11_init_127 : decode cX11_init 127 = .ok (.sipush 9000, 3) := by decide +kernel
theorem dX11_init_130 : decode cX11_init 130 = .ok (.newarray .int, 2) := by decide +kernel
theorem dX11_init_132 : decode cX11_init 132 = .ok (.putfield 56, 3) := by decide +kernel
theorem dX11_init_135 : decode cX11_init 135 = .ok (.aload_n 0, 1) := by decide +kernel
theorem dX11_init_136 : decode cX11_init 136 = .ok (.sipush 9000, 3) := by decide +kernel
theorem dX11_init_139 : decode cX11_init 139 = .ok (.newarray .int, 2) := by decide +kernel
theorem dX11_init_141 : decode cX11_init 141 = .ok (.putfield 59, 3) := by decide +kernel
theorem dX11_init_144 : decode cX11_init 144 = .ok (.aload_n 0, 1) := by decide +kernel
theorem dX11_init_145 : decode cX11_init 145 = .ok (.sipush 9000, 3) := by decide +kernel
theorem dX11_init_148 : decode cX11_init 148 = .ok (.newarray .int, 2) := by decide +kernel
theorem dX11_init_150 : decode cX11_init 150 = .ok (.putfield 62, 3) := by decide +kernel
theorem dX11_init_153 : decode cX11_init 153 = .ok (.aload_n 0, 1) := by decide +kernel
theorem dX11_init_154 : decode cX11_init 154 = .ok (.bipush 60, 2) := by decide +kernel
theorem dX11_init_156 : decode cX11_init 156 = .ok (.newarray .int, 2) := by decide +kernel
theorem dX11_init_158 : decode cX11_init 158 = .ok (.putfield 65, 3) := by decide +kernel
theorem dX11_init_161 : decode cX11_init 161 = .ok (.aload_n 0, 1) := by decide +kernel
theorem dX11_init_162 : decode cX11_init 162 = .ok (.bipush 60, 2) := by decide +kernel
theorem dX11_init_164 : decode cX11_init 164 = .ok (.newarray .int, 2) := by decide +kernel
theorem dX11_init_166 : decode cX11_init 166 = .ok (.putfield 68, 3) := by decide +kernel
theorem dX11_init_169 : decode cX11_init 169 = .ok (.aload_n 0, 1) := by decide +kernel
theorem dX11_init_170 : decode cX11_init 170 = .ok (.bipush 60, 2) := by decide +kernel
theorem dX11_init_172 : decode cX11_init 172 = .ok (.newarray .int, 2) := by decide +kernel
theorem dX11_init_174 : decode cX11_init 174 = .ok (.putfield 71, 3) := by decide +kernel
theorem dX11_init_177 : decode cX11_init 177 = .ok (.aload_n 0, 1) := by decide +kernel
theorem dX11_init_178 : decode cX11_init 178 = .ok (.bipush 60, 2) := by decide +kernel
theorem dX11_init_180 : decode cX11_init 180 = .ok (.newarray .boolean, 2) := by decide +kernel
theorem dX11_init_182 : decode cX11_init 182 = .ok (.putfield 74, 3) := by decide +kernel
theorem dX11_init_185 : decode cX11_init 185 = .ok (.aload_n 0, 1) := by decide +kernel
theorem dX11_init_186 : decode cX11_init 186 = .ok (.iconst 3, 1) := by decide +kernel
theorem dX11_init_187 : decode cX11_init 187 = .ok (.newarray .int, 2) := by decide +kernel
theorem dX11_init_189 : decode cX11_init 189 = .ok (.putfield 77, 3) := by decide +kernel
theorem dX11_init_192 : decode cX11_init 192 = .ok (.aload_n 0, 1) := by decide +kernel
theorem dX11_init_193 : decode cX11_init 193 = .ok (.iconst 3, 1) := by decide +kernel
theorem dX11_init_194 : decode cX11_init 194 = .ok (.newarray .int, 2) := by decide +kernel
theorem dX11_init_196 : decode cX11_init 196 = .ok (.putfield 80, 3) := by decide +kernel
theorem dX11_init_199 : decode cX11_init 199 = .ok (.aload_n 0, 1) := by decide +kernel
theorem dX11_init_200 : decode cX11_init 200 = .ok (.iconst 3, 1) := by decide +kernel
theorem dX11_init_201 : decode cX11_init 201 = .ok (.newarray .int, 2) := by decide +kernel
theorem dX11_init_203 : decode cX11_init 203 = .ok (.putfield 83, 3) := by decide +kernel
theorem dX11_init_206 : decode cX11_init 206 = .ok (.aload_n 0, 1) := by decide +kernel
theorem dX11_init_207 : decode cX11_init 207 = .ok (.sipush 450, 3) := by decide +kernel
theorem dX11_init_210 : decode cX11_init 210 = .ok (.newarray .int, 2) := by decide +kernel
theorem dX11_init_212 : decode cX11_init 212 = .ok (.putfield 86, 3) := by decide +kernel
theorem dX11_init_215 : decode cX11_init 215 = .ok (.aload_n 0, 1) := by decide +kernel
theorem dX11_init_216 : decode cX11_init 216 = .ok (.sipush 150, 3) := by decide +kernel
theorem dX11_init_219 : decode cX11_init 219 = .ok (.newarray .int, 2) := by decide +kernel
theorem dX11_init_221 : decode cX11_init 221 = .ok (.putfield 89, 3) := by decide +kernel
theorem dX11_init_224 : decode cX11_init 224 = .ok (.aload_n 0, 1) := by decide +kernel
theorem dX11_init_225 : decode cX11_init 225 = .ok (.sipush 150, 3) := by decide +kernel
theorem dX11_init_228 : decode cX11_init 228 = .ok (.newarray .boolean, 2) := by decide +kernel
theorem dX11_init_230 : decode cX11_init 230 = .ok (.putfield 92, 3) := by decide +kernel
theorem dX11_init_233 : decode cX11_init 233 = .ok (.iconst 0, 1) := by decide +kernel
theorem dX11_init_234 : decode cX11_init 234 = .ok (.istore_n 1, 1) := by decide +kernel
theorem dX11_init_235 : decode cX11_init 235 = .ok (.iload_n 1, 1) := by decide +kernel
theorem dX11_init_236 : decode cX11_init 236 = .ok (.iconst 3, 1) := by decide +kernel
theorem dX11_init_237 : decode cX11_init 237 = .ok (.if_icmp .ge 23, 3) := by decide +kernel
theorem dX11_init_240 : decode cX11_init 240 = .ok (.aload_n 0, 1) := by decide +kernel
theorem dX11_init_241 : decode cX11_init 241 = .ok (.getfield 77, 3) := by decide +kernel
theorem dX11_init_244 : decode cX11_init 244 = .ok (.iload_n 1, 1) := by decide +kernel
theorem dX11_init_245 : decode cX11_init 245 = .ok (.iconst (-1), 1) := by decide +kernel
theorem dX11_init_246 : decode cX11_init 246 = .ok (.iastore, 1) := by decide +kernel
theorem dX11_init_247 : decode cX11_init 247 = .ok (.aload_n 0, 1) := by decide +kernel
theorem dX11_init_248 : decode cX11_init 248 = .ok (.getfield 80, 3) := by decide +kernel
theorem dX11_init_251 : decode cX11_init 251 = .ok (.iload_n 1, 1) := by decide +kernel
theorem dX11_init_252 : decode cX11_init 252 = .ok (.iconst (-1), 1) := by decide +kernel
theorem dX11_init_253 : decode cX11_init 253 = .ok (.iastore, 1) := by decide +kernel
theorem dX11_init_254 : decode cX11_init 254 = .ok (.iinc 1 1, 3) := by decide +kernel
theorem dX11_init_257 : decode cX11_init 257 = .ok (.goto (-22), 3) := by decide +kernel
theorem dX11_init_260 : decode cX11_init 260 = .ok (.iconst 0, 1) := by decide +kernel
theorem dX11_init_261 : decode cX11_init 261 = .ok (.istore_n 1, 1) := by decide +kernel
theorem dX11_init_262 : decode cX11_init 262 = .ok (.iload_n 1, 1) := by decide +kernel
theorem dX11_init_263 : decode cX11_init 263 = .ok (.bipush 15, 2) := by decide +kernel
theorem dX11_init_265 : decode cX11_init 265 = .ok (.if_icmp .ge 16, 3) := by decide +kernel
theorem dX11_init_268 : decode cX11_init 268 = .ok (.aload_n 0, 1) := by decide +kernel
theorem dX11_init_269 : decode cX11_init 269 = .ok (.getfield 26, 3) := by decide +kernel
theorem dX11_init_272 : decode cX11_init 272 = .ok (.iload_n 1, 1) := by decide +kernel
theorem dX11_init_273 : decode cX11_init 273 = .ok (.iconst (-1), 1) := by decide +kernel
theorem dX11_init_274 : decode cX11_init 274 = .ok (.iastore, 1) := by decide +kernel
theorem dX11_init_275 : decode cX11_init 275 = .ok (.iinc 1 1, 3) := by decide +kernel
theorem dX11_init_278 : decode cX11_init 278 = .ok (.goto (-16), 3) := by decide +kernel
theorem dX11_init_281 : decode cX11_init 281 = .ok (.return_, 1) := by decide +kernel
theorem dX11_thrown_0 : decode cX11_thrown 0 = .ok (.aload_n 0, 1) := by decide +kernel
theorem dX11_thrown_1 : decode cX11_thrown 1 = .ok (.getfield 95, 3) := by decide +kernel
theorem dX11_thrown_4 : decode cX11_thrown 4 = .ok (.ireturn, 1) := by decide +kernel
theorem dX11_goes_0 : decode cX11_goes 0 = .ok (.aload_n 0, 1) := by decide +kernel
theorem dX11_goes_1 : decode cX11_goes 1 = .ok (.iload_n 1, 1) := by decide +kernel
theorem dX11_goes_2 : decode cX11_goes 2 = .ok (.ifCond .ne 7, 3) := by decide +kernel
theorem dX11_goes_5 : decode cX11_goes 5 = .ok (.iconst 1, 1) := by decide +kernel
theorem dX11_goes_6 : decode cX11_goes 6 = .ok (.goto 20, 3) := by decide +kernel
theorem dX11_goes_9 : decode cX11_goes 9 = .ok (.iload_n 2, 1) := by decide +kernel
theorem dX11_goes_10 : decode cX11_goes 10 = .ok (.ifCond .ne 7, 3) := by decide +kernel
theorem dX11_goes_13 : decode cX11_goes 13 = .ok (.iconst 2, 1) := by decide +kernel
theorem dX11_goes_14 : decode cX11_goes 14 = .ok (.goto 12, 3) := by decide +kernel
theorem dX11_goes_17 : decode cX11_goes 17 = .ok (.iload_n 3, 1) := by decide +kernel
theorem dX11_goes_18 : decode cX11_goes 18 = .ok (.ifCond .ne 7, 3) := by decide +kernel
theorem dX11_goes_21 : decode cX11_goes 21 = .ok (.iconst 3, 1) := by decide +kernel
theorem dX11_goes_22 : decode cX11_goes 22 = .ok (.goto 4, 3) := by decide +kernel
theorem dX11_goes_25 : decode cX11_goes 25 = .ok (.iconst 0, 1) := by decide +kernel
theorem dX11_goes_26 : decode cX11_goes 26 = .ok (.putfield 95, 3) := by decide +kernel
theorem dX11_goes_29 : decode cX11_goes 29 = .ok (.aload_n 0, 1) := by decide +kernel
theorem dX11_goes_30 : decode cX11_goes 30 = .ok (.getfield 95, 3) := by decide +kernel
theorem dX11_goes_33 : decode cX11_goes 33 = .ok (.ifCond .ne 7, 3) := by decide +kernel
theorem dX11_goes_36 : decode cX11_goes 36 = .ok (.iconst 1, 1) := by decide +kernel
theorem dX11_goes_37 : decode cX11_goes 37 = .ok (.goto 4, 3) := by decide +kernel
theorem dX11_goes_40 : decode cX11_goes 40 = .ok (.iconst 0, 1) := by decide +kernel
theorem dX11_goes_41 : decode cX11_goes 41 = .ok (.ireturn, 1) := by decide +kernel
theorem dX11_isBelow_0 : decode cX11_isBelow 0 = .ok (.iload_n 0, 1) := by decide +kernel
theorem dX11_isBelow_1 : decode cX11_isBelow 1 = .ok (.ifCond .lt 12, 3) := by decide +kernel
theorem dX11_isBelow_4 : decode cX11_isBelow 4 = .ok (.iload_n 0, 1) := by decide +kernel
theorem dX11_isBelow_5 : decode cX11_isBelow 5 = .ok (.iload_n 1, 1) := by decide +kernel
theorem dX11_isBelow_6 : decode cX11_isBelow 6 = .ok (.if_icmp .ge 7, 3) := by decide +kernel
theorem dX11_isBelow_9 : decode cX11_isBelow 9 = .ok (.iconst 1, 1) := by decide +kernel
theorem dX11_isBelow_10 : decode cX11_isBelow 10 = .ok (.goto 4, 3) := by decide +kernel
theorem dX11_isBelow_13 : decode cX11_isBelow 13 = .ok (.iconst 0, 1) := by decide +kernel
theorem dX11_isBelow_14 : decode cX11_isBelow 14 = .ok (.ireturn, 1) := by decide +kernel
theorem dX11_isHand_0 : decode cX11_isHand 0 = .ok (.iload_n 0, 1) := by decide +kernel
theorem dX11_isHand_1 : decode cX11_isHand 1 = .ok (.iconst 5, 1) := by decide +kernel
theorem dX11_isHand_2 : decode cX11_isHand 2 = .ok (.invokestatic 99, 3) := by decide +kernel
theorem dX11_isHand_5 : decode cX11_isHand 5 = .ok (.ifCond .eq 15, 3) := by decide +kernel
theorem dX11_isHand_8 : decode cX11_isHand 8 = .ok (.iload_n 1, 1) := by decide +kernel
theorem dX11_isHand_9 : decode cX11_isHand 9 = .ok (.iconst 3, 1) := by decide +kernel
theorem dX11_isHand_10 : decode cX11_isHand 10 = .ok (.invokestatic 99, 3) := by decide +kernel
theorem dX11_isHand_13 : decode cX11_isHand 13 = .ok (.ifCond .eq 7, 3) := by decide +kernel
theorem dX11_isHand_16 : decode cX11_isHand 16 = .ok (.iconst 1, 1) := by decide +kernel
theorem dX11_isHand_17 : decode cX11_isHand 17 = .ok (.goto 4, 3) := by decide +kernel
theorem dX11_isHand_20 : decode cX11_isHand 20 = .ok (.iconst 0, 1) := by decide +kernel
theorem dX11_isHand_21 : decode cX11_isHand 21 = .ok (.ireturn, 1) := by decide +kernel
theorem dX11_shows_0 : decode cX11_shows 0 = .ok (.aload_n 0, 1) := by decide +kernel
theorem dX11_shows_1 : decode cX11_shows 1 = .ok (.iconst 0, 1) := by decide +kernel
theorem dX11_shows_2 : decode cX11_shows 2 = .ok (.putfield 103, 3) := by decide +kernel
theorem dX11_shows_5 : decode cX11_shows 5 = .ok (.iconst 0, 1) := by decide +kernel
theorem dX11_shows_6 : decode cX11_shows 6 = .ok (.istore_n 2, 1) := by decide +kernel
theorem dX11_shows_7 : decode cX11_shows 7 = .ok (.iload_n 2, 1) := by decide +kernel
theorem dX11_shows_8 : decode cX11_shows 8 = .ok (.aload_n 0, 1) := by decide +kernel
theorem dX11_shows_9 : decode cX11_shows 9 = .ok (.getfield 20, 3) := by decide +kernel
theorem dX11_shows_12 : decode cX11_shows 12 = .ok (.iload_n 1, 1) := by decide +kernel
theorem dX11_shows_13 : decode cX11_shows 13 = .ok (.iaload, 1) := by decide +kernel
theorem dX11_shows_14 : decode cX11_shows 14 = .ok (.if_icmp .ge 57, 3) := by decide +kernel
theorem dX11_shows_17 : decode cX11_shows 17 = .ok (.aload_n 0, 1) := by decide +kernel
theorem dX11_shows_18 : decode cX11_shows 18 = .ok (.getfield 7, 3) := by decide +kernel
theorem dX11_shows_21 : decode cX11_shows 21 = .ok (.sipush 150, 3) := by decide +kernel
theorem dX11_shows_24 : decode cX11_shows 24 = .ok (.iload_n 1, 1) := by decide +kernel
theorem dX11_shows_25 : decode cX11_shows 25 = .ok (.imul, 1) := by decide +kernel
theorem dX11_shows_26 : decode cX11_shows 26 = .ok (.iload_n 2, 1) := by decide +kernel
theorem dX11_shows_27 : decode cX11_shows 27 = .ok (.iadd, 1) := by decide +kernel
theorem dX11_shows_28 : decode cX11_shows 28 = .ok (.iaload, 1) := by decide +kernel
theorem dX11_shows_29 : decode cX11_shows 29 = .ok (.istore_n 3, 1) := by decide +kernel
theorem dX11_shows_30 : decode cX11_shows 30 = .ok (.aload_n 0, 1) := by decide +kernel
theorem dX11_shows_31 : decode cX11_shows 31 = .ok (.getfield 16, 3) := by decide +kernel
theorem dX11_shows_34 : decode cX11_shows 34 = .ok (.sipush 150, 3) := by decide +kernel
theorem dX11_shows_37 : decode cX11_shows 37 = .ok (.iload_n 1, 1) := by decide +kernel
theorem dX11_shows_38 : decode cX11_shows 38 = .ok (.imul, 1) := by decide +kernel
theorem dX11_shows_39 : decode cX11_shows 39 = .ok (.iload_n 3, 1) := by decide +kernel
theorem dX11_shows_40 : decode cX11_shows 40 = .ok (.iadd, 1) := by decide +kernel
theorem dX11_shows_41 : decode cX11_shows 41 = .ok (.baload, 1) := by decide +kernel
theorem dX11_shows_42 : decode cX11_shows 42 = .ok (.ifCond .eq 23, 3) := by decide +kernel
theorem dX11_shows_45 : decode cX11_shows 45 = .ok (.aload_n 0, 1) := by decide +kernel
theorem dX11_shows_46 : decode cX11_shows 46 = .ok (.getfield 89, 3) := by decide +kernel
theorem dX11_shows_49 : decode cX11_shows 49 = .ok (.aload_n 0, 1) := by decide +kernel
theorem dX11_shows_50 : decode cX11_shows 50 = .ok (.getfield 103, 3) := by decide +kernel
theorem dX11_shows_53 : decode cX11_shows 53 = .ok (.iload_n 3, 1) := by decide +kernel
theorem dX11_shows_54 : decode cX11_shows 54 = .ok (.iastore, 1) := by decide +kernel
theorem dX11_shows_55 : decode cX11_shows 55 = .ok (.aload_n 0, 1) := by decide +kernel
theorem dX11_shows_56 : decode cX11_shows 56 = .ok (.dup, 1) := by decide +kernel
theorem dX11_shows_57 : decode cX11_shows 57 = .ok (.getfield 103, 3) := by decide +kernel
theorem dX11_shows_60 : decode cX11_shows 60 = .ok (.iconst 1, 1) := by decide +kernel
theorem dX11_shows_61 : decode cX11_shows 61 = .ok (.iadd, 1) := by decide +kernel
theorem dX11_shows_62 : decode cX11_shows 62 = .ok (.putfield 103, 3) := by decide +kernel
theorem dX11_shows_65 : decode cX11_shows 65 = .ok (.iinc 2 1, 3) := by decide +kernel
theorem dX11_shows_68 : decode cX11_shows 68 = .ok (.goto (-61), 3) := by decide +kernel
theorem dX11_shows_71 : decode cX11_shows 71 = .ok (.return_, 1) := by decide +kernel
theorem dX11_at_0 : decode cX11_at 0 = .ok (.iconst 0, 1) := by decide +kernel
theorem dX11_at_1 : decode cX11_at 1 = .ok (.istore_n 3, 1) := by decide +kernel
theorem dX11_at_2 : decode cX11_at 2 = .ok (.iload_n 3, 1) := by decide +kernel
theorem dX11_at_3 : decode cX11_at 3 = .ok (.aload_n 0, 1) := by decide +kernel
theorem dX11_at_4 : decode cX11_at 4 = .ok (.getfield 20, 3) := by decide +kernel
theorem dX11_at_7 : decode cX11_at 7 = .ok (.iload_n 1, 1) := by decide +kernel
theorem dX11_at_8 : decode cX11_at 8 = .ok (.iaload, 1) := by decide +kernel
theorem dX11_at_9 : decode cX11_at 9 = .ok (.if_icmp .ge 25, 3) := by decide +kernel
theorem dX11_at_12 : decode cX11_at 12 = .ok (.aload_n 0, 1) := by decide +kernel
theorem dX11_at_13 : decode cX11_at 13 = .ok (.getfield 7, 3) := by decide +kernel
theorem dX11_at_16 : decode cX11_at 16 = .ok (.sipush 150, 3) := by decide +kernel
theorem dX11_at_19 : decode cX11_at 19 = .ok (.iload_n 1, 1) := by decide +kernel
theorem dX11_at_20 : decode cX11_at 20 = .ok (.imul, 1) := by decide +kernel
theorem dX11_at_21 : decode cX11_at 21 = .ok (.iload_n 3, 1) := by decide +kernel
theorem dX11_at_22 : decode cX11_at 22 = .ok (.iadd, 1) := by decide +kernel
theorem dX11_at_23 : decode cX11_at 23 = .ok (.iaload, 1) := by decide +kernel
theorem dX11_at_24 : decode cX11_at 24 = .ok (.iload_n 2, 1) := by decide +kernel
theorem dX11_at_25 : decode cX11_at 25 = .ok (.if_icmp .eq 9, 3) := by decide +kernel
theorem dX11_at_28 : decode cX11_at 28 = .ok (.iinc 3 1, 3) := by decide +kernel
theorem dX11_at_31 : decode cX11_at 31 = .ok (.goto (-29), 3) := by decide +kernel
theorem dX11_at_34 : decode cX11_at 34 = .ok (.iload_n 3, 1) := by decide +kernel
theorem dX11_at_35 : decode cX11_at 35 = .ok (.ireturn, 1) := by decide +kernel
theorem dX11_placeOf_0 : decode cX11_placeOf 0 = .ok (.aload_n 0, 1) := by decide +kernel
theorem dX11_placeOf_1 : decode cX11_placeOf 1 = .ok (.iload_n 2, 1) := by decide +kernel
theorem dX11_placeOf_2 : decode cX11_placeOf 2 = .ok (.aload_n 0, 1) := by decide +kernel
theorem dX11_placeOf_3 : decode cX11_placeOf 3 = .ok (.getfield 26, 3) := by decide +kernel
theorem dX11_placeOf_6 : decode cX11_placeOf 6 = .ok (.iconst 5, 1) := by decide +kernel
theorem dX11_placeOf_7 : decode cX11_placeOf 7 = .ok (.iload_n 2, 1) := by decide +kernel
theorem dX11_placeOf_8 : decode cX11_placeOf 8 = .ok (.imul, 1) := by decide +kernel
theorem dX11_placeOf_9 : decode cX11_placeOf 9 = .ok (.iload_n 1, 1) := by decide +kernel
theorem dX11_placeOf_10 : decode cX11_placeOf 10 = .ok (.iadd, 1) := by decide +kernel
theorem dX11_placeOf_11 : decode cX11_placeOf 11 = .ok (.iaload, 1) := by decide +kernel
theorem dX11_placeOf_12 : decode cX11_placeOf 12 = .ok (.invokevirtual 106, 3) := by decide +kernel
theorem dX11_placeOf_15 : decode cX11_placeOf 15 = .ok (.istore_n 3, 1) := by decide +kernel
theorem dX11_placeOf_16 : decode cX11_placeOf 16 = .ok (.iconst 0, 1) := by decide +kernel
theorem dX11_placeOf_17 : decode cX11_placeOf 17 = .ok (.istore 4, 2) := by decide +kernel
theorem dX11_placeOf_19 : decode cX11_placeOf 19 = .ok (.iconst 0, 1) := by decide +kernel
theorem dX11_placeOf_20 : decode cX11_placeOf 20 = .ok (.istore 5, 2) := by decide +kernel
theorem dX11_placeOf_22 : decode cX11_placeOf 22 = .ok (.iload 5, 2) := by decide +kernel
theorem dX11_placeOf_24 : decode cX11_placeOf 24 = .ok (.iload_n 3, 1) := by decide +kernel
theorem dX11_placeOf_25 : decode cX11_placeOf 25 = .ok (.if_icmp .ge 46, 3) := by decide +kernel
theorem dX11_placeOf_28 : decode cX11_placeOf 28 = .ok (.iload 4, 2) := by decide +kernel
theorem dX11_placeOf_30 : decode cX11_placeOf 30 = .ok (.aload_n 0, 1) := by decide +kernel
theorem dX11_placeOf_31 : decode cX11_placeOf 31 = .ok (.getfield 16, 3) := by decide +kernel
theorem dX11_placeOf_34 : decode cX11_placeOf 34 = .ok (.sipush 150, 3) := by decide +kernel
theorem dX11_placeOf_37 : decode cX11_placeOf 37 = .ok (.iload_n 2, 1) := by decide +kernel
theorem dX11_placeOf_38 : decode cX11_placeOf 38 = .ok (.imul, 1) := by decide +kernel
theorem dX11_placeOf_39 : decode cX11_placeOf 39 = .ok (.aload_n 0, 1) := by decide +kernel
theorem dX11_placeOf_40 : decode cX11_placeOf 40 = .ok (.getfield 7, 3) := by decide +kernel
theorem dX11_placeOf_43 : decode cX11_placeOf 43 = .ok (.sipush 150, 3) := by decide +kernel
theorem dX11_placeOf_46 : decode cX11_placeOf 46 = .ok (.iload_n 2, 1) := by decide +kernel
theorem dX11_placeOf_47 : decode cX11_placeOf 47 = .ok (.imul, 1) := by decide +kernel
theorem dX11_placeOf_48 : decode cX11_placeOf 48 = .ok (.iload 5, 2) := by decide +kernel
theorem dX11_placeOf_50 : decode cX11_placeOf 50 = .ok (.iadd, 1) := by decide +kernel
theorem dX11_placeOf_51 : decode cX11_placeOf 51 = .ok (.iaload, 1) := by decide +kernel
theorem dX11_placeOf_52 : decode cX11_placeOf 52 = .ok (.iadd, 1) := by decide +kernel
theorem dX11_placeOf_53 : decode cX11_placeOf 53 = .ok (.baload, 1) := by decide +kernel
theorem dX11_placeOf_54 : decode cX11_placeOf 54 = .ok (.ifCond .eq 7, 3) := by decide +kernel
theorem dX11_placeOf_57 : decode cX11_placeOf 57 = .ok (.iconst 1, 1) := by decide +kernel
theorem dX11_placeOf_58 : decode cX11_placeOf 58 = .ok (.goto 4, 3) := by decide +kernel
theorem dX11_placeOf_61 : decode cX11_placeOf 61 = .ok (.iconst 0, 1) := by decide +kernel
theorem dX11_placeOf_62 : decode cX11_placeOf 62 = .ok (.iadd, 1) := by decide +kernel
theorem dX11_placeOf_63 : decode cX11_placeOf 63 = .ok (.istore 4, 2) := by decide +kernel
theorem dX11_placeOf_65 : decode cX11_placeOf 65 = .ok (.iinc 5 1, 3) := by decide +kernel
theorem dX11_placeOf_68 : decode cX11_placeOf 68 = .ok (.goto (-46), 3) := by decide +kernel
theorem dX11_placeOf_71 : decode cX11_placeOf 71 = .ok (.iload 4, 2) := by decide +kernel
theorem dX11_placeOf_73 : decode cX11_placeOf 73 = .ok (.ireturn, 1) := by decide +kernel
theorem dX11_leaves_0 : decode cX11_leaves 0 = .ok (.aload_n 0, 1) := by decide +kernel
theorem dX11_leaves_1 : decode cX11_leaves 1 = .ok (.getfield 16, 3) := by decide +kernel
theorem dX11_leaves_4 : decode cX11_leaves 4 = .ok (.sipush 150, 3) := by decide +kernel
theorem dX11_leaves_7 : decode cX11_leaves 7 = .ok (.iload_n 1, 1) := by decide +kernel
theorem dX11_leaves_8 : decode cX11_leaves 8 = .ok (.imul, 1) := by decide +kernel
theorem dX11_leaves_9 : decode cX11_leaves 9 = .ok (.iload_n 2, 1) := by decide +kernel
theorem dX11_leaves_10 : decode cX11_leaves 10 = .ok (.iadd, 1) := by decide +kernel
theorem dX11_leaves_11 : decode cX11_leaves 11 = .ok (.iconst 0, 1) := by decide +kernel
theorem dX11_leaves_12 : decode cX11_leaves 12 = .ok (.bastore, 1) := by decide +kernel
theorem dX11_leaves_13 : decode cX11_leaves 13 = .ok (.iconst (-1), 1) := by decide +kernel
theorem dX11_leaves_14 : decode cX11_leaves 14 = .ok (.istore_n 3, 1) := by decide +kernel
theorem dX11_leaves_15 : decode cX11_leaves 15 = .ok (.aload_n 0, 1) := by decide +kernel
theorem dX11_leaves_16 : decode cX11_leaves 16 = .ok (.getfield 20, 3) := by decide +kernel
theorem dX11_leaves_19 : decode cX11_leaves 19 = .ok (.iload_n 1, 1) := by decide +kernel
theorem dX11_leaves_20 : decode cX11_leaves 20 = .ok (.iaload, 1) := by decide +kernel
theorem dX11_leaves_21 : decode cX11_leaves 21 = .ok (.iconst 1, 1) := by decide +kernel
theorem dX11_leaves_22 : decode cX11_leaves 22 = .ok (.isub, 1) := by decide +kernel
theorem dX11_leaves_23 : decode cX11_leaves 23 = .ok (.istore 4, 2) := by decide +kernel
theorem dX11_leaves_25 : decode cX11_leaves 25 = .ok (.iload 4, 2) := by decide +kernel
theorem dX11_leaves_27 : decode cX11_leaves 27 = .ok (.aload_n 0, 1) := by decide +kernel
theorem dX11_leaves_28 : decode cX11_leaves 28 = .ok (.iload_n 1, 1) := by decide +kernel
theorem dX11_leaves_29 : decode cX11_leaves 29 = .ok (.iload_n 2, 1) := by decide +kernel
theorem dX11_leaves_30 : decode cX11_leaves 30 = .ok (.invokevirtual 106, 3) := by decide +kernel
theorem dX11_leaves_33 : decode cX11_leaves 33 = .ok (.if_icmp .le 47, 3) := by decide +kernel
theorem dX11_leaves_36 : decode cX11_leaves 36 = .ok (.aload_n 0, 1) := by decide +kernel
theorem dX11_leaves_37 : decode cX11_leaves 37 = .ok (.getfield 7, 3) := by decide +kernel
theorem dX11_leaves_40 : decode cX11_leaves 40 = .ok (.sipush 150, 3) := by decide +kernel
theorem dX11_leaves_43 : decode cX11_leaves 43 = .ok (.iload_n 1, 1) := by decide +kernel
theorem dX11_leaves_44 : decode cX11_leaves 44 = .ok (.imul, 1) := by decide +kernel
theorem dX11_leaves_45 : decode cX11_leaves 45 = .ok (.iload 4, 2) := by decide +kernel
theorem dX11_leaves_47 : decode cX11_leaves 47 = .ok (.iadd, 1) := by decide +kernel
theorem dX11_leaves_48 : decode cX11_leaves 48 = .ok (.iaload, 1) := by decide +kernel
theorem dX11_leaves_49 : decode cX11_leaves 49 = .ok (.istore 5, 2) := by decide +kernel
theorem dX11_leaves_51 : decode cX11_leaves 51 = .ok (.aload_n 0, 1) := by decide +kernel
theorem dX11_leaves_52 : decode cX11_leaves 52 = .ok (.getfield 16, 3) := by decide +kernel
theorem dX11_leaves_55 : decode cX11_leaves 55 = .ok (.sipush 150, 3) := by decide +kernel
theorem dX11_leaves_58 : decode cX11_leaves 58 = .ok (.iload_n 1, 1) := by decide +kernel
theorem dX11_leaves_59 : decode cX11_leaves 59 = .ok (.imul, 1) := by decide +kernel
theorem dX11_leaves_60 : decode cX11_leaves 60 = .ok (.iload 5, 2) := by decide +kernel
theorem dX11_leaves_62 : decode cX11_leaves 62 = .ok (.iadd, 1) := by decide +kernel
theorem dX11_leaves_63 : decode cX11_leaves 63 = .ok (.baload, 1) := by decide +kernel
theorem dX11_leaves_64 : decode cX11_leaves 64 = .ok (.ifCond .eq 8, 3) := by decide +kernel
theorem dX11_leaves_67 : decode cX11_leaves 67 = .ok (.iload 5, 2) := by decide +kernel
theorem dX11_leaves_69 : decode cX11_leaves 69 = .ok (.goto 4, 3) := by decide +kernel
theorem dX11_leaves_72 : decode cX11_leaves 72 = .ok (.iload_n 3, 1) := by decide +kernel
theorem dX11_leaves_73 : decode cX11_leaves 73 = .ok (.istore_n 3, 1) := by decide +kernel
theorem dX11_leaves_74 : decode cX11_leaves 74 = .ok (.iinc 4 (-1), 3) := by decide +kernel
theorem dX11_leaves_77 : decode cX11_leaves 77 = .ok (.goto (-52), 3) := by decide +kernel
theorem dX11_leaves_80 : decode cX11_leaves 80 = .ok (.iconst 0, 1) := by decide +kernel
theorem dX11_leaves_81 : decode cX11_leaves 81 = .ok (.istore 4, 2) := by decide +kernel
theorem dX11_leaves_83 : decode cX11_leaves 83 = .ok (.iload 4, 2) := by decide +kernel
theorem dX11_leaves_85 : decode cX11_leaves 85 = .ok (.iconst 5, 1) := by decide +kernel
theorem dX11_leaves_86 : decode cX11_leaves 86 = .ok (.if_icmp .ge 50, 3) := by decide +kernel
theorem dX11_leaves_89 : decode cX11_leaves 89 = .ok (.aload_n 0, 1) := by decide +kernel
theorem dX11_leaves_90 : decode cX11_leaves 90 = .ok (.getfield 26, 3) := by decide +kernel
theorem dX11_leaves_93 : decode cX11_leaves 93 = .ok (.iconst 5, 1) := by decide +kernel
theorem dX11_leaves_94 : decode cX11_leaves 94 = .ok (.iload_n 1, 1) := by decide +kernel
theorem dX11_leaves_95 : decode cX11_leaves 95 = .ok (.imul, 1) := by decide +kernel
theorem dX11_leaves_96 : decode cX11_leaves 96 = .ok (.iload 4, 2) := by decide +kernel
theorem dX11_leaves_98 : decode cX11_leaves 98 = .ok (.iadd, 1) := by decide +kernel
theorem dX11_leaves_99 : decode cX11_leaves 99 = .ok (.aload_n 0, 1) := by decide +kernel
theorem dX11_leaves_100 : decode cX11_leaves 100 = .ok (.getfield 26, 3) := by decide +kernel
theorem dX11_leaves_103 : decode cX11_leaves 103 = .ok (.iconst 5, 1) := by decide +kernel
theorem dX11_leaves_104 : decode cX11_leaves 104 = .ok (.iload_n 1, 1) := by decide +kernel
theorem dX11_leaves_105 : decode cX11_leaves 105 = .ok (.imul, 1) := by decide +kernel
theorem dX11_leaves_106 : decode cX11_leaves 106 = .ok (.iload 4, 2) := by decide +kernel
theorem dX11_leaves_108 : decode cX11_leaves 108 = .ok (.iadd, 1) := by decide +kernel
theorem dX11_leaves_109 : decode cX11_leaves 109 = .ok (.iaload, 1) := by decide +kernel
theorem dX11_leaves_110 : decode cX11_leaves 110 = .ok (.iload_n 2, 1) := by decide +kernel
theorem dX11_leaves_111 : decode cX11_leaves 111 = .ok (.if_icmp .ne 7, 3) := by decide +kernel
theorem dX11_leaves_114 : decode cX11_leaves 114 = .ok (.iload_n 3, 1) := by decide +kernel
theorem dX11_leaves_115 : decode cX11_leaves 115 = .ok (.goto 14, 3) := by decide +kernel
theorem dX11_leaves_118 : decode cX11_leaves 118 = .ok (.aload_n 0, 1) := by decide +kernel
theorem dX11_leaves_119 : decode cX11_leaves 119 = .ok (.getfield 26, 3) := by decide +kernel
theorem dX11_leaves_122 : decode cX11_leaves 122 = .ok (.iconst 5, 1) := by decide +kernel
theorem dX11_leaves_123 : decode cX11_leaves 123 = .ok (.iload_n 1, 1) := by decide +kernel
theorem dX11_leaves_124 : decode cX11_leaves 124 = .ok (.imul, 1) := by decide +kernel
theorem dX11_leaves_125 : decode cX11_leaves 125 = .ok (.iload 4, 2) := by decide +kernel
theorem dX11_leaves_127 : decode cX11_leaves 127 = .ok (.iadd, 1) := by decide +kernel
theorem dX11_leaves_128 : decode cX11_leaves 128 = .ok (.iaload, 1) := by decide +kernel
theorem dX11_leaves_129 : decode cX11_leaves 129 = .ok (.iastore, 1) := by decide +kernel
theorem dX11_leaves_130 : decode cX11_leaves 130 = .ok (.iinc 4 1, 3) := by decide +kernel
theorem dX11_leaves_133 : decode cX11_leaves 133 = .ok (.goto (-50), 3) := by decide +kernel
theorem dX11_leaves_136 : decode cX11_leaves 136 = .ok (.return_, 1) := by decide +kernel
theorem dX11_keeps_0 : decode cX11_keeps 0 = .ok (.aload_n 0, 1) := by decide +kernel
theorem dX11_keeps_1 : decode cX11_keeps 1 = .ok (.getfield 29, 3) := by decide +kernel
theorem dX11_keeps_4 : decode cX11_keeps 4 = .ok (.sipush 600, 3) := by decide +kernel
theorem dX11_keeps_7 : decode cX11_keeps 7 = .ok (.iload_n 1, 1) := by decide +kernel
theorem dX11_keeps_8 : decode cX11_keeps 8 = .ok (.imul, 1) := by decide +kernel
theorem dX11_keeps_9 : decode cX11_keeps 9 = .ok (.aload_n 0, 1) := by decide +kernel
theorem dX11_keeps_10 : decode cX11_keeps 10 = .ok (.getfield 32, 3) := by decide +kernel
theorem dX11_keeps_13 : decode cX11_keeps 13 = .ok (.iload_n 1, 1) := by decide +kernel
theorem dX11_keeps_14 : decode cX11_keeps 14 = .ok (.iaload, 1) := by decide +kernel
theorem dX11_keeps_15 : decode cX11_keeps 15 = .ok (.iadd, 1) := by decide +kernel
theorem dX11_keeps_16 : decode cX11_keeps 16 = .ok (.iload_n 2, 1) := by decide +kernel
theorem dX11_keeps_17 : decode cX11_keeps 17 = .ok (.iastore, 1) := by decide +kernel
theorem dX11_keeps_18 : decode cX11_keeps 18 = .ok (.aload_n 0, 1) := by decide +kernel
theorem dX11_keeps_19 : decode cX11_keeps 19 = .ok (.getfield 32, 3) := by decide +kernel
theorem dX11_keeps_22 : decode cX11_keeps 22 = .ok (.iload_n 1, 1) := by decide +kernel
theorem dX11_keeps_23 : decode cX11_keeps 23 = .ok (.dup2, 1) := by decide +kernel
theorem dX11_keeps_24 : decode cX11_keeps 24 = .ok (.iaload, 1) := by decide +kernel
theorem dX11_keeps_25 : decode cX11_keeps 25 = .ok (.iconst 1, 1) := by decide +kernel
theorem dX11_keeps_26 : decode cX11_keeps 26 = .ok (.iadd, 1) := by decide +kernel
theorem dX11_keeps_27 : decode cX11_keeps 27 = .ok (.iastore, 1) := by decide +kernel
theorem dX11_keeps_28 : decode cX11_keeps 28 = .ok (.aload_n 0, 1) := by decide +kernel
theorem dX11_keeps_29 : decode cX11_keeps 29 = .ok (.getfield 35, 3) := by decide +kernel
theorem dX11_keeps_32 : decode cX11_keeps 32 = .ok (.iload_n 1, 1) := by decide +kernel
theorem dX11_keeps_33 : decode cX11_keeps 33 = .ok (.iconst 0, 1) := by decide +kernel
theorem dX11_keeps_34 : decode cX11_keeps 34 = .ok (.iastore, 1) := by decide +kernel
theorem dX11_keeps_35 : decode cX11_keeps 35 = .ok (.return_, 1) := by decide +kernel
theorem dX11_isLetter_0 : decode cX11_isLetter 0 = .ok (.iload_n 0, 1) := by decide +kernel
theorem dX11_isLetter_1 : decode cX11_isLetter 1 = .ok (.bipush 97, 2) := by decide +kernel
theorem dX11_isLetter_3 : decode cX11_isLetter 3 = .ok (.if_icmp .lt 9, 3) := by decide +kernel
theorem dX11_isLetter_6 : decode cX11_isLetter 6 = .ok (.iload_n 0, 1) := by decide +kernel
theorem dX11_isLetter_7 : decode cX11_isLetter 7 = .ok (.bipush 122, 2) := by decide +kernel
theorem dX11_isLetter_9 : decode cX11_isLetter 9 = .ok (.if_icmp .le 39, 3) := by decide +kernel
theorem dX11_isLetter_12 : decode cX11_isLetter 12 = .ok (.iload_n 0, 1) := by decide +kernel
theorem dX11_isLetter_13 : decode cX11_isLetter 13 = .ok (.bipush 65, 2) := by decide +kernel
theorem dX11_isLetter_15 : decode cX11_isLetter 15 = .ok (.if_icmp .lt 9, 3) := by decide +kernel
theorem dX11_isLetter_18 : decode cX11_isLetter 18 = .ok (.iload_n 0, 1) := by decide +kernel
theorem dX11_isLetter_19 : decode cX11_isLetter 19 = .ok (.bipush 90, 2) := by decide +kernel
theorem dX11_isLetter_21 : decode cX11_isLetter 21 = .ok (.if_icmp .le 27, 3) := by decide +kernel
theorem dX11_isLetter_24 : decode cX11_isLetter 24 = .ok (.iload_n 0, 1) := by decide +kernel
theorem dX11_isLetter_25 : decode cX11_isLetter 25 = .ok (.bipush 48, 2) := by decide +kernel
theorem dX11_isLetter_27 : decode cX11_isLetter 27 = .ok (.if_icmp .lt 9, 3) := by decide +kernel
theorem dX11_isLetter_30 : decode cX11_isLetter 30 = .ok (.iload_n 0, 1) := by decide +kernel
theorem dX11_isLetter_31 : decode cX11_isLetter 31 = .ok (.bipush 57, 2) := by decide +kernel
theorem dX11_isLetter_33 : decode cX11_isLetter 33 = .ok (.if_icmp .le 15, 3) := by decide +kernel
theorem dX11_isLetter_36 : decode cX11_isLetter 36 = .ok (.iload_n 0, 1) := by decide +kernel
theorem dX11_isLetter_37 : decode cX11_isLetter 37 = .ok (.bipush 32, 2) := by decide +kernel
theorem dX11_isLetter_39 : decode cX11_isLetter 39 = .ok (.if_icmp .eq 9, 3) := by decide +kernel
theorem dX11_isLetter_42 : decode cX11_isLetter 42 = .ok (.iload_n 0, 1) := by decide +kernel
theorem dX11_isLetter_43 : decode cX11_isLetter 43 = .ok (.bipush 47, 2) := by decide +kernel
theorem dX11_isLetter_45 : decode cX11_isLetter 45 = .ok (.if_icmp .ne 7, 3) := by decide +kernel
theorem dX11_isLetter_48 : decode cX11_isLetter 48 = .ok (.iconst 1, 1) := by decide +kernel
theorem dX11_isLetter_49 : decode cX11_isLetter 49 = .ok (.goto 4, 3) := by decide +kernel
theorem dX11_isLetter_52 : decode cX11_isLetter 52 = .ok (.iconst 0, 1) := by decide +kernel
theorem dX11_isLetter_53 : decode cX11_isLetter 53 = .ok (.ireturn, 1) := by decide +kernel
theorem dX11_type_0 : decode cX11_type 0 = .ok (.iload_n 1, 1) := by decide +kernel
theorem dX11_type_1 : decode cX11_type 1 = .ok (.iload_n 2, 1) := by decide +kernel
theorem dX11_type_2 : decode cX11_type 2 = .ok (.invokestatic 110, 3) := by decide +kernel
theorem dX11_type_5 : decode cX11_type 5 = .ok (.istore 4, 2) := by decide +kernel
theorem dX11_type_7 : decode cX11_type 7 = .ok (.aload_n 0, 1) := by decide +kernel
theorem dX11_type_8 : decode cX11_type 8 = .ok (.iload 4, 2) := by decide +kernel
theorem dX11_type_10 : decode cX11_type 10 = .ok (.iload_n 3, 1) := by decide +kernel
theorem dX11_type_11 : decode cX11_type 11 = .ok (.invokestatic 113, 3) := by decide +kernel
theorem dX11_type_14 : decode cX11_type 14 = .ok (.iload 4, 2) := by decide +kernel
theorem dX11_type_16 : decode cX11_type 16 = .ok (.ifCond .eq 19, 3) := by decide +kernel
theorem dX11_type_19 : decode cX11_type 19 = .ok (.aload_n 0, 1) := by decide +kernel
theorem dX11_type_20 : decode cX11_type 20 = .ok (.getfield 20, 3) := by decide +kernel
theorem dX11_type_23 : decode cX11_type 23 = .ok (.iload_n 2, 1) := by decide +kernel
theorem dX11_type_24 : decode cX11_type 24 = .ok (.iaload, 1) := by decide +kernel
theorem dX11_type_25 : decode cX11_type 25 = .ok (.sipush 150, 3) := by decide +kernel
theorem dX11_type_28 : decode cX11_type 28 = .ok (.if_icmp .ge 7, 3) := by decide +kernel
theorem dX11_type_31 : decode cX11_type 31 = .ok (.iconst 1, 1) := by decide +kernel
theorem dX11_type_32 : decode cX11_type 32 = .ok (.goto 4, 3) := by decide +kernel
theorem dX11_type_35 : decode cX11_type 35 = .ok (.iconst 0, 1) := by decide +kernel
theorem dX11_type_36 : decode cX11_type 36 = .ok (.invokevirtual 117, 3) := by decide +kernel
theorem dX11_type_39 : decode cX11_type 39 = .ok (.ifCond .ne 5, 3) := by decide +kernel
theorem dX11_type_42 : decode cX11_type 42 = .ok (.iconst 0, 1) := by decide +kernel
theorem dX11_type_43 : decode cX11_type 43 = .ok (.ireturn, 1) := by decide +kernel
theorem dX11_type_44 : decode cX11_type 44 = .ok (.aload_n 0, 1) := by decide +kernel
theorem dX11_type_45 : decode cX11_type 45 = .ok (.iload_n 2, 1) := by decide +kernel
theorem dX11_type_46 : decode cX11_type 46 = .ok (.aload_n 0, 1) := by decide +kernel
theorem dX11_type_47 : decode cX11_type 47 = .ok (.getfield 26, 3) := by decide +kernel
theorem dX11_type_50 : decode cX11_type 50 = .ok (.iconst 5, 1) := by decide +kernel
theorem dX11_type_51 : decode cX11_type 51 = .ok (.iload_n 2, 1) := by decide +kernel
theorem dX11_type_52 : decode cX11_type 52 = .ok (.imul, 1) := by decide +kernel
theorem dX11_type_53 : decode cX11_type 53 = .ok (.iload_n 1, 1) := by decide +kernel
theorem dX11_type_54 : decode cX11_type 54 = .ok (.iadd, 1) := by decide +kernel
theorem dX11_type_55 : decode cX11_type 55 = .ok (.iaload, 1) := by decide +kernel
theorem dX11_type_56 : decode cX11_type 56 = .ok (.invokevirtual 106, 3) := by decide +kernel
theorem dX11_type_59 : decode cX11_type 59 = .ok (.istore 5, 2) := by decide +kernel
theorem dX11_type_61 : decode cX11_type 61 = .ok (.aload_n 0, 1) := by decide +kernel
theorem dX11_type_62 : decode cX11_type 62 = .ok (.getfield 20, 3) := by decide +kernel
theorem dX11_type_65 : decode cX11_type 65 = .ok (.iload_n 2, 1) := by decide +kernel
theorem dX11_type_66 : decode cX11_type 66 = .ok (.iaload, 1) := by decide +kernel
theorem dX11_type_67 : decode cX11_type 67 = .ok (.istore 6, 2) := by decide +kernel
theorem dX11_type_69 : decode cX11_type 69 = .ok (.iload 6, 2) := by decide +kernel
theorem dX11_type_71 : decode cX11_type 71 = .ok (.iload 5, 2) := by decide +kernel
theorem dX11_type_73 : decode cX11_type 73 = .ok (.if_icmp .le 37, 3) := by decide +kernel
theorem dX11_type_76 : decode cX11_type 76 = .ok (.aload_n 0, 1) := by decide +kernel
theorem dX11_type_77 : decode cX11_type 77 = .ok (.getfield 7, 3) := by decide +kernel
theorem dX11_type_80 : decode cX11_type 80 = .ok (.sipush 150, 3) := by decide +kernel
theorem dX11_type_83 : decode cX11_type 83 = .ok (.iload_n 2, 1) := by decide +kernel
theorem dX11_type_84 : decode cX11_type 84 = .ok (.imul, 1) := by decide +kernel
theorem dX11_type_85 : decode cX11_type 85 = .ok (.iload 6, 2) := by decide +kernel
theorem dX11_type_87 : decode cX11_type 87 = .ok (.iadd, 1) := by decide +kernel
theorem dX11_type_88 : decode cX11_type 88 = .ok (.aload_n 0, 1) := by decide +kernel
theorem dX11_type_89 : decode cX11_type 89 = .ok (.getfield 7, 3) := by decide +kernel
theorem dX11_type_92 : decode cX11_type 92 = .ok (.sipush 150, 3) := by decide +kernel
theorem dX11_type_95 : decode cX11_type 95 = .ok (.iload_n 2, 1) := by decide +kernel
theorem dX11_type_96 : decode cX11_type 96 = .ok (.imul, 1) := by decide +kernel
theorem dX11_type_97 : decode cX11_type 97 = .ok (.iload 6, 2) := by decide +kernel
theorem dX11_type_99 : decode cX11_type 99 = .ok (.iadd, 1) := by decide +kernel
theorem dX11_type_100 : decode cX11_type 100 = .ok (.iconst 1, 1) := by decide +kernel
theorem dX11_type_101 : decode cX11_type 101 = .ok (.isub, 1) := by decide +kernel
theorem dX11_type_102 : decode cX11_type 102 = .ok (.iaload, 1) := by decide +kernel
theorem dX11_type_103 : decode cX11_type 103 = .ok (.iastore, 1) := by decide +kernel
theorem dX11_type_104 : decode cX11_type 104 = .ok (.iinc 6 (-1), 3) := by decide +kernel
theorem dX11_type_107 : decode cX11_type 107 = .ok (.goto (-38), 3) := by decide +kernel
theorem dX11_type_110 : decode cX11_type 110 = .ok (.aload_n 0, 1) := by decide +kernel
theorem dX11_type_111 : decode cX11_type 111 = .ok (.getfield 7, 3) := by decide +kernel
theorem dX11_type_114 : decode cX11_type 114 = .ok (.sipush 150, 3) := by decide +kernel
theorem dX11_type_117 : decode cX11_type 117 = .ok (.iload_n 2, 1) := by decide +kernel
theorem dX11_type_118 : decode cX11_type 118 = .ok (.imul, 1) := by decide +kernel
theorem dX11_type_119 : decode cX11_type 119 = .ok (.iload 5, 2) := by decide +kernel
theorem dX11_type_121 : decode cX11_type 121 = .ok (.iadd, 1) := by decide +kernel
theorem dX11_type_122 : decode cX11_type 122 = .ok (.aload_n 0, 1) := by decide +kernel
theorem dX11_type_123 : decode cX11_type 123 = .ok (.getfield 20, 3) := by decide +kernel
theorem dX11_type_126 : decode cX11_type 126 = .ok (.iload_n 2, 1) := by decide +kernel
theorem dX11_type_127 : decode cX11_type 127 = .ok (.iaload, 1) := by decide +kernel
theorem dX11_type_128 : decode cX11_type 128 = .ok (.iastore, 1) := by decide +kernel
theorem dX11_type_129 : decode cX11_type 129 = .ok (.aload_n 0, 1) := by decide +kernel
theorem dX11_type_130 : decode cX11_type 130 = .ok (.getfield 13, 3) := by decide +kernel
theorem dX11_type_133 : decode cX11_type 133 = .ok (.sipush 150, 3) := by decide +kernel
theorem dX11_type_136 : decode cX11_type 136 = .ok (.iload_n 2, 1) := by decide +kernel
theorem dX11_type_137 : decode cX11_type 137 = .ok (.imul, 1) := by decide +kernel
theorem dX11_type_138 : decode cX11_type 138 = .ok (.aload_n 0, 1) := by decide +kernel
theorem dX11_type_139 : decode cX11_type 139 = .ok (.getfield 20, 3) := by decide +kernel
theorem dX11_type_142 : decode cX11_type 142 = .ok (.iload_n 2, 1) := by decide +kernel
theorem dX11_type_143 : decode cX11_type 143 = .ok (.iaload, 1) := by decide +kernel
theorem dX11_type_144 : decode cX11_type 144 = .ok (.iadd, 1) := by decide +kernel
theorem dX11_type_145 : decode cX11_type 145 = .ok (.iload_n 3, 1) := by decide +kernel
theorem dX11_type_146 : decode cX11_type 146 = .ok (.iastore, 1) := by decide +kernel
theorem dX11_type_147 : decode cX11_type 147 = .ok (.aload_n 0, 1) := by decide +kernel
theorem dX11_type_148 : decode cX11_type 148 = .ok (.getfield 16, 3) := by decide +kernel
theorem dX11_type_151 : decode cX11_type 151 = .ok (.sipush 150, 3) := by decide +kernel
theorem dX11_type_154 : decode cX11_type 154 = .ok (.iload_n 2, 1) := by decide +kernel
theorem dX11_type_155 : decode cX11_type 155 = .ok (.imul, 1) := by decide +kernel
theorem dX11_type_156 : decode cX11_type 156 = .ok (.aload_n 0, 1) := by decide +kernel
theorem dX11_type_157 : decode cX11_type 157 = .ok (.getfield 20, 3) := by decide +kernel
theorem dX11_type_160 : decode cX11_type 160 = .ok (.iload_n 2, 1) := by decide +kernel
theorem dX11_type_161 : decode cX11_type 161 = .ok (.iaload, 1) := by decide +kernel
theorem dX11_type_162 : decode cX11_type 162 = .ok (.iadd, 1) := by decide +kernel
theorem dX11_type_163 : decode cX11_type 163 = .ok (.iconst 1, 1) := by decide +kernel
theorem dX11_type_164 : decode cX11_type 164 = .ok (.bastore, 1) := by decide +kernel
theorem dX11_type_165 : decode cX11_type 165 = .ok (.aload_n 0, 1) := by decide +kernel
theorem dX11_type_166 : decode cX11_type 166 = .ok (.iload_n 1, 1) := by decide +kernel
theorem dX11_type_167 : decode cX11_type 167 = .ok (.sipush 1000, 3) := by decide +kernel
theorem dX11_type_170 : decode cX11_type 170 = .ok (.iload_n 2, 1) := by decide +kernel
theorem dX11_type_171 : decode cX11_type 171 = .ok (.imul, 1) := by decide +kernel
theorem dX11_type_172 : decode cX11_type 172 = .ok (.aload_n 0, 1) := by decide +kernel
theorem dX11_type_173 : decode cX11_type 173 = .ok (.getfield 20, 3) := by decide +kernel
theorem dX11_type_176 : decode cX11_type 176 = .ok (.iload_n 2, 1) := by decide +kernel
theorem dX11_type_177 : decode cX11_type 177 = .ok (.iaload, 1) := by decide +kernel
theorem dX11_type_178 : decode cX11_type 178 = .ok (.iadd, 1) := by decide +kernel
theorem dX11_type_179 : decode cX11_type 179 = .ok (.invokevirtual 121, 3) := by decide +kernel
theorem dX11_type_182 : decode cX11_type 182 = .ok (.aload_n 0, 1) := by decide +kernel
theorem dX11_type_183 : decode cX11_type 183 = .ok (.getfield 20, 3) := by decide +kernel
theorem dX11_type_186 : decode cX11_type 186 = .ok (.iload_n 2, 1) := by decide +kernel
theorem dX11_type_187 : decode cX11_type 187 = .ok (.dup2, 1) := by decide +kernel
theorem dX11_type_188 : decode cX11_type 188 = .ok (.iaload, 1) := by decide +kernel
theorem dX11_type_189 : decode cX11_type 189 = .ok (.iconst 1, 1) := by decide +kernel
theorem dX11_type_190 : decode cX11_type 190 = .ok (.iadd, 1) := by decide +kernel
theorem dX11_type_191 : decode cX11_type 191 = .ok (.iastore, 1) := by decide +kernel
theorem dX11_type_192 : decode cX11_type 192 = .ok (.aload_n 0, 1) := by decide +kernel
theorem dX11_type_193 : decode cX11_type 193 = .ok (.getfield 23, 3) := by decide +kernel
theorem dX11_type_196 : decode cX11_type 196 = .ok (.iload_n 2, 1) := by decide +kernel
theorem dX11_type_197 : decode cX11_type 197 = .ok (.dup2, 1) := by decide +kernel
theorem dX11_type_198 : decode cX11_type 198 = .ok (.iaload, 1) := by decide +kernel
theorem dX11_type_199 : decode cX11_type 199 = .ok (.iconst 1, 1) := by decide +kernel
theorem dX11_type_200 : decode cX11_type 200 = .ok (.iadd, 1) := by decide +kernel
theorem dX11_type_201 : decode cX11_type 201 = .ok (.iastore, 1) := by decide +kernel
theorem dX11_type_202 : decode cX11_type 202 = .ok (.aload_n 0, 1) := by decide +kernel
theorem dX11_type_203 : decode cX11_type 203 = .ok (.iload_n 1, 1) := by decide +kernel
theorem dX11_type_204 : decode cX11_type 204 = .ok (.iload_n 2, 1) := by decide +kernel
theorem dX11_type_205 : decode cX11_type 205 = .ok (.invokevirtual 125, 3) := by decide +kernel
theorem dX11_type_208 : decode cX11_type 208 = .ok (.ireturn, 1) := by decide +kernel
theorem dX11_erase_0 : decode cX11_erase 0 = .ok (.iload_n 1, 1) := by decide +kernel
theorem dX11_erase_1 : decode cX11_erase 1 = .ok (.iload_n 2, 1) := by decide +kernel
theorem dX11_erase_2 : decode cX11_erase 2 = .ok (.invokestatic 110, 3) := by decide +kernel
theorem dX11_erase_5 : decode cX11_erase 5 = .ok (.istore_n 3, 1) := by decide +kernel
theorem dX11_erase_6 : decode cX11_erase 6 = .ok (.iload_n 3, 1) := by decide +kernel
theorem dX11_erase_7 : decode cX11_erase 7 = .ok (.ifCond .eq 12, 3) := by decide +kernel
theorem dX11_erase_10 : decode cX11_erase 10 = .ok (.aload_n 0, 1) := by decide +kernel
theorem dX11_erase_11 : decode cX11_erase 11 = .ok (.iload_n 1, 1) := by decide +kernel
theorem dX11_erase_12 : decode cX11_erase 12 = .ok (.iload_n 2, 1) := by decide +kernel
theorem dX11_erase_13 : decode cX11_erase 13 = .ok (.invokevirtual 125, 3) := by decide +kernel
theorem dX11_erase_16 : decode cX11_erase 16 = .ok (.goto 4, 3) := by decide +kernel
theorem dX11_erase_19 : decode cX11_erase 19 = .ok (.iconst 0, 1) := by decide +kernel
theorem dX11_erase_20 : decode cX11_erase 20 = .ok (.istore 4, 2) := by decide +kernel
theorem dX11_erase_22 : decode cX11_erase 22 = .ok (.aload_n 0, 1) := by decide +kernel
theorem dX11_erase_23 : decode cX11_erase 23 = .ok (.iload_n 3, 1) := by decide +kernel
theorem dX11_erase_24 : decode cX11_erase 24 = .ok (.iload 4, 2) := by decide +kernel
theorem dX11_erase_26 : decode cX11_erase 26 = .ok (.ifCond .le 7, 3) := by decide +kernel
theorem dX11_erase_29 : decode cX11_erase 29 = .ok (.iconst 1, 1) := by decide +kernel
theorem dX11_erase_30 : decode cX11_erase 30 = .ok (.goto 4, 3) := by decide +kernel
theorem dX11_erase_33 : decode cX11_erase 33 = .ok (.iconst 0, 1) := by decide +kernel
theorem dX11_erase_34 : decode cX11_erase 34 = .ok (.iconst 1, 1) := by decide +kernel
theorem dX11_erase_35 : decode cX11_erase 35 = .ok (.invokevirtual 117, 3) := by decide +kernel
theorem dX11_erase_38 : decode cX11_erase 38 = .ok (.ifCond .ne 5, 3) := by decide +kernel
theorem dX11_erase_41 : decode cX11_erase 41 = .ok (.iconst 0, 1) := by decide +kernel
theorem dX11_erase_42 : decode cX11_erase 42 = .ok (.ireturn, 1) := by decide +kernel
theorem dX11_erase_43 : decode cX11_erase 43 = .ok (.aload_n 0, 1) := by decide +kernel
theorem dX11_erase_44 : decode cX11_erase 44 = .ok (.iload_n 2, 1) := by decide +kernel
theorem dX11_erase_45 : decode cX11_erase 45 = .ok (.invokevirtual 128, 3) := by decide +kernel
theorem dX11_erase_48 : decode cX11_erase 48 = .ok (.aload_n 0, 1) := by decide +kernel
theorem dX11_erase_49 : decode cX11_erase 49 = .ok (.getfield 89, 3) := by decide +kernel
theorem dX11_erase_52 : decode cX11_erase 52 = .ok (.iload 4, 2) := by decide +kernel
theorem dX11_erase_54 : decode cX11_erase 54 = .ok (.iconst 1, 1) := by decide +kernel
theorem dX11_erase_55 : decode cX11_erase 55 = .ok (.isub, 1) := by decide +kernel
theorem dX11_erase_56 : decode cX11_erase 56 = .ok (.iaload, 1) := by decide +kernel
theorem dX11_erase_57 : decode cX11_erase 57 = .ok (.istore 5, 2) := by decide +kernel
theorem dX11_erase_59 : decode cX11_erase 59 = .ok (.aload_n 0, 1) := by decide +kernel
theorem dX11_erase_60 : decode cX11_erase 60 = .ok (.iload_n 2, 1) := by decide +kernel
theorem dX11_erase_61 : decode cX11_erase 61 = .ok (.iload 5, 2) := by decide +kernel
theorem dX11_erase_63 : decode cX11_erase 63 = .ok (.invokevirtual 132, 3) := by decide +kernel
theorem dX11_erase_66 : decode cX11_erase 66 = .ok (.aload_n 0, 1) := by decide +kernel
theorem dX11_erase_67 : decode cX11_erase 67 = .ok (.iload_n 1, 1) := by decide +kernel
theorem dX11_erase_68 : decode cX11_erase 68 = .ok (.sipush 1000, 3) := by decide +kernel
theorem dX11_erase_71 : decode cX11_erase 71 = .ok (.iload_n 2, 1) := by decide +kernel
theorem dX11_erase_72 : decode cX11_erase 72 = .ok (.imul, 1) := by decide +kernel
theorem dX11_erase_73 : decode cX11_erase 73 = .ok (.sipush 500, 3) := by decide +kernel
theorem dX11_erase_76 : decode cX11_erase 76 = .ok (.iadd, 1) := by decide +kernel
theorem dX11_erase_77 : decode cX11_erase 77 = .ok (.iload 5, 2) := by decide +kernel
theorem dX11_erase_79 : decode cX11_erase 79 = .ok (.iadd, 1) := by decide +kernel
theorem dX11_erase_80 : decode cX11_erase 80 = .ok (.invokevirtual 121, 3) := by decide +kernel
theorem dX11_erase_83 : decode cX11_erase 83 = .ok (.aload_n 0, 1) := by decide +kernel
theorem dX11_erase_84 : decode cX11_erase 84 = .ok (.getfield 23, 3) := by decide +kernel
theorem dX11_erase_87 : decode cX11_erase 87 = .ok (.iload_n 2, 1) := by decide +kernel
theorem dX11_erase_88 : decode cX11_erase 88 = .ok (.dup2, 1) := by decide +kernel
theorem dX11_erase_89 : decode cX11_erase 89 = .ok (.iaload, 1) := by decide +kernel
theorem dX11_erase_90 : decode cX11_erase 90 = .ok (.iconst 1, 1) := by decide +kernel
theorem dX11_erase_91 : decode cX11_erase 91 = .ok (.iadd, 1) := by decide +kernel
theorem dX11_erase_92 : decode cX11_erase 92 = .ok (.iastore, 1) := by decide +kernel
theorem dX11_erase_93 : decode cX11_erase 93 = .ok (.aload_n 0, 1) := by decide +kernel
theorem dX11_erase_94 : decode cX11_erase 94 = .ok (.iload_n 1, 1) := by decide +kernel
theorem dX11_erase_95 : decode cX11_erase 95 = .ok (.iload_n 2, 1) := by decide +kernel
theorem dX11_erase_96 : decode cX11_erase 96 = .ok (.invokevirtual 125, 3) := by decide +kernel
theorem dX11_erase_99 : decode cX11_erase 99 = .ok (.ireturn, 1) := by decide +kernel
theorem dX11_moveTo_0 : decode cX11_moveTo 0 = .ok (.iload_n 1, 1) := by decide +kernel
theorem dX11_moveTo_1 : decode cX11_moveTo 1 = .ok (.iload_n 2, 1) := by decide +kernel
theorem dX11_moveTo_2 : decode cX11_moveTo 2 = .ok (.invokestatic 110, 3) := by decide +kernel
theorem dX11_moveTo_5 : decode cX11_moveTo 5 = .ok (.istore 4, 2) := by decide +kernel
theorem dX11_moveTo_7 : decode cX11_moveTo 7 = .ok (.iload 4, 2) := by decide +kernel
theorem dX11_moveTo_9 : decode cX11_moveTo 9 = .ok (.ifCond .eq 8, 3) := by decide +kernel
theorem dX11_moveTo_12 : decode cX11_moveTo 12 = .ok (.aload_n 0, 1) := by decide +kernel
theorem dX11_moveTo_13 : decode cX11_moveTo 13 = .ok (.iload_n 2, 1) := by decide +kernel
theorem dX11_moveTo_14 : decode cX11_moveTo 14 = .ok (.invokevirtual 128, 3) := by decide +kernel
theorem dX11_moveTo_17 : decode cX11_moveTo 17 = .ok (.aload_n 0, 1) := by decide +kernel
theorem dX11_moveTo_18 : decode cX11_moveTo 18 = .ok (.iload 4, 2) := by decide +kernel
theorem dX11_moveTo_20 : decode cX11_moveTo 20 = .ok (.ifCond .eq 19, 3) := by decide +kernel
theorem dX11_moveTo_23 : decode cX11_moveTo 23 = .ok (.iload_n 3, 1) := by decide +kernel
theorem dX11_moveTo_24 : decode cX11_moveTo 24 = .ok (.ifCond .lt 15, 3) := by decide +kernel
theorem dX11_moveTo_27 : decode cX11_moveTo 27 = .ok (.iload_n 3, 1) := by decide +kernel
theorem dX11_moveTo_28 : decode cX11_moveTo 28 = .ok (.aload_n 0, 1) := by decide +kernel
theorem dX11_moveTo_29 : decode cX11_moveTo 29 = .ok (.getfield 103, 3) := by decide +kernel
theorem dX11_moveTo_32 : decode cX11_moveTo 32 = .ok (.if_icmp .gt 7, 3) := by decide +kernel
theorem dX11_moveTo_35 : decode cX11_moveTo 35 = .ok (.iconst 1, 1) := by decide +kernel
theorem dX11_moveTo_36 : decode cX11_moveTo 36 = .ok (.goto 4, 3) := by decide +kernel
theorem dX11_moveTo_39 : decode cX11_moveTo 39 = .ok (.iconst 0, 1) := by decide +kernel
theorem dX11_moveTo_40 : decode cX11_moveTo 40 = .ok (.iconst 1, 1) := by decide +kernel
theorem dX11_moveTo_41 : decode cX11_moveTo 41 = .ok (.iconst 1, 1) := by decide +kernel
theorem dX11_moveTo_42 : decode cX11_moveTo 42 = .ok (.invokevirtual 117, 3) := by decide +kernel
theorem dX11_moveTo_45 : decode cX11_moveTo 45 = .ok (.ifCond .ne 5, 3) := by decide +kernel
theorem dX11_moveTo_48 : decode cX11_moveTo 48 = .ok (.iconst 0, 1) := by decide +kernel
theorem dX11_moveTo_49 : decode cX11_moveTo 49 = .ok (.ireturn, 1) := by decide +kernel
theorem dX11_moveTo_50 : decode cX11_moveTo 50 = .ok (.aload_n 0, 1) := by decide +kernel
theorem dX11_moveTo_51 : decode cX11_moveTo 51 = .ok (.iload_n 1, 1) := by decide +kernel
theorem dX11_moveTo_52 : decode cX11_moveTo 52 = .ok (.iload_n 2, 1) := by decide +kernel
theorem dX11_moveTo_53 : decode cX11_moveTo 53 = .ok (.invokevirtual 125, 3) := by decide +kernel
theorem dX11_moveTo_56 : decode cX11_moveTo 56 = .ok (.istore 5, 2) := by decide +kernel
theorem dX11_moveTo_58 : decode cX11_moveTo 58 = .ok (.aload_n 0, 1) := by decide +kernel
theorem dX11_moveTo_59 : decode cX11_moveTo 59 = .ok (.iload_n 2, 1) := by decide +kernel
theorem dX11_moveTo_60 : decode cX11_moveTo 60 = .ok (.invokevirtual 128, 3) := by decide +kernel
theorem dX11_moveTo_63 : decode cX11_moveTo 63 = .ok (.aload_n 0, 1) := by decide +kernel
theorem dX11_moveTo_64 : decode cX11_moveTo 64 = .ok (.getfield 26, 3) := by decide +kernel
theorem dX11_moveTo_67 : decode cX11_moveTo 67 = .ok (.iconst 5, 1) := by decide +kernel
theorem dX11_moveTo_68 : decode cX11_moveTo 68 = .ok (.iload_n 2, 1) := by decide +kernel
theorem dX11_moveTo_69 : decode cX11_moveTo 69 = .ok (.imul, 1) := by decide +kernel
theorem dX11_moveTo_70 : decode cX11_moveTo 70 = .ok (.iload_n 1, 1) := by decide +kernel
theorem dX11_moveTo_71 : decode cX11_moveTo 71 = .ok (.iadd, 1) := by decide +kernel
theorem dX11_moveTo_72 : decode cX11_moveTo 72 = .ok (.iload_n 3, 1) := by decide +kernel
theorem dX11_moveTo_73 : decode cX11_moveTo 73 = .ok (.aload_n 0, 1) := by decide +kernel
theorem dX11_moveTo_74 : decode cX11_moveTo 74 = .ok (.getfield 103, 3) := by decide +kernel
theorem dX11_moveTo_77 : decode cX11_moveTo 77 = .ok (.if_icmp .ge 12, 3) := by decide +kernel
theorem dX11_moveTo_80 : decode cX11_moveTo 80 = .ok (.aload_n 0, 1) := by decide +kernel
theorem dX11_moveTo_81 : decode cX11_moveTo 81 = .ok (.getfield 89, 3) := by decide +kernel
theorem dX11_moveTo_84 : decode cX11_moveTo 84 = .ok (.iload_n 3, 1) := by decide +kernel
theorem dX11_moveTo_85 : decode cX11_moveTo 85 = .ok (.iaload, 1) := by decide +kernel
theorem dX11_moveTo_86 : decode cX11_moveTo 86 = .ok (.goto 4, 3) := by decide +kernel
theorem dX11_moveTo_89 : decode cX11_moveTo 89 = .ok (.iconst (-1), 1) := by decide +kernel
theorem dX11_moveTo_90 : decode cX11_moveTo 90 = .ok (.iastore, 1) := by decide +kernel
theorem dX11_moveTo_91 : decode cX11_moveTo 91 = .ok (.iload 5, 2) := by decide +kernel
theorem dX11_moveTo_93 : decode cX11_moveTo 93 = .ok (.ireturn, 1) := by decide +kernel
theorem dX11_turns_0 : decode cX11_turns 0 = .ok (.iload_n 1, 1) := by decide +kernel
theorem dX11_turns_1 : decode cX11_turns 1 = .ok (.sipush 1000, 3) := by decide +kernel
theorem dX11_turns_4 : decode cX11_turns 4 = .ok (.idiv, 1) := by decide +kernel
theorem dX11_turns_5 : decode cX11_turns 5 = .ok (.istore_n 3, 1) := by decide +kernel
theorem dX11_turns_6 : decode cX11_turns 6 = .ok (.iload_n 1, 1) := by decide +kernel
theorem dX11_turns_7 : decode cX11_turns 7 = .ok (.sipush 500, 3) := by decide +kernel
theorem dX11_turns_10 : decode cX11_turns 10 = .ok (.irem, 1) := by decide +kernel
theorem dX11_turns_11 : decode cX11_turns 11 = .ok (.istore 4, 2) := by decide +kernel
theorem dX11_turns_13 : decode cX11_turns 13 = .ok (.aload_n 0, 1) := by decide +kernel
theorem dX11_turns_14 : decode cX11_turns 14 = .ok (.getfield 16, 3) := by decide +kernel
theorem dX11_turns_17 : decode cX11_turns 17 = .ok (.sipush 150, 3) := by decide +kernel
theorem dX11_turns_20 : decode cX11_turns 20 = .ok (.iload_n 3, 1) := by decide +kernel
theorem dX11_turns_21 : decode cX11_turns 21 = .ok (.imul, 1) := by decide +kernel
theorem dX11_turns_22 : decode cX11_turns 22 = .ok (.iload 4, 2) := by decide +kernel
theorem dX11_turns_24 : decode cX11_turns 24 = .ok (.iadd, 1) := by decide +kernel
theorem dX11_turns_25 : decode cX11_turns 25 = .ok (.baload, 1) := by decide +kernel
theorem dX11_turns_26 : decode cX11_turns 26 = .ok (.iload_n 2, 1) := by decide +kernel
theorem dX11_turns_27 : decode cX11_turns 27 = .ok (.if_icmp .eq 38, 3) := by decide +kernel
theorem dX11_turns_30 : decode cX11_turns 30 = .ok (.aload_n 0, 1) := by decide +kernel
theorem dX11_turns_31 : decode cX11_turns 31 = .ok (.getfield 23, 3) := by decide +kernel
theorem dX11_turns_34 : decode cX11_turns 34 = .ok (.iload_n 3, 1) := by decide +kernel
theorem dX11_turns_35 : decode cX11_turns 35 = .ok (.dup2, 1) := by decide +kernel
theorem dX11_turns_36 : decode cX11_turns 36 = .ok (.iaload, 1) := by decide +kernel
theorem dX11_turns_37 : decode cX11_turns 37 = .ok (.iconst 1, 1) := by decide +kernel
theorem dX11_turns_38 : decode cX11_turns 38 = .ok (.iadd, 1) := by decide +kernel
theorem dX11_turns_39 : decode cX11_turns 39 = .ok (.iastore, 1) := by decide +kernel
theorem dX11_turns_40 : decode cX11_turns 40 = .ok (.aload_n 0, 1) := by decide +kernel
theorem dX11_turns_41 : decode cX11_turns 41 = .ok (.getfield 16, 3) := by decide +kernel
theorem dX11_turns_44 : decode cX11_turns 44 = .ok (.sipush 150, 3) := by decide +kernel
theorem dX11_turns_47 : decode cX11_turns 47 = .ok (.iload_n 3, 1) := by decide +kernel
theorem dX11_turns_48 : decode cX11_turns 48 = .ok (.imul, 1) := by decide +kernel
theorem dX11_turns_49 : decode cX11_turns 49 = .ok (.iload 4, 2) := by decide +kernel
theorem dX11_turns_51 : decode cX11_turns 51 = .ok (.iadd, 1) := by decide +kernel
theorem dX11_turns_52 : decode cX11_turns 52 = .ok (.iload_n 2, 1) := by decide +kernel
theorem dX11_turns_53 : decode cX11_turns 53 = .ok (.bastore, 1) := by decide +kernel
theorem dX11_turns_54 : decode cX11_turns 54 = .ok (.iload_n 2, 1) := by decide +kernel
theorem dX11_turns_55 : decode cX11_turns 55 = .ok (.ifCond .ne 10, 3) := by decide +kernel
theorem dX11_turns_58 : decode cX11_turns 58 = .ok (.aload_n 0, 1) := by decide +kernel
theorem dX11_turns_59 : decode cX11_turns 59 = .ok (.iload_n 3, 1) := by decide +kernel
theorem dX11_turns_60 : decode cX11_turns 60 = .ok (.iload 4, 2) := by decide +kernel
theorem dX11_turns_62 : decode cX11_turns 62 = .ok (.invokevirtual 132, 3) := by decide +kernel
theorem dX11_turns_65 : decode cX11_turns 65 = .ok (.iload_n 3, 1) := by decide +kernel
theorem dX11_turns_66 : decode cX11_turns 66 = .ok (.ireturn, 1) := by decide +kernel
theorem dX11_undo_0 : decode cX11_undo 0 = .ok (.iload_n 1, 1) := by decide +kernel
theorem dX11_undo_1 : decode cX11_undo 1 = .ok (.iconst 5, 1) := by decide +kernel
theorem dX11_undo_2 : decode cX11_undo 2 = .ok (.invokestatic 99, 3) := by decide +kernel
theorem dX11_undo_5 : decode cX11_undo 5 = .ok (.istore_n 2, 1) := by decide +kernel
theorem dX11_undo_6 : decode cX11_undo 6 = .ok (.aload_n 0, 1) := by decide +kernel
theorem dX11_undo_7 : decode cX11_undo 7 = .ok (.iload_n 2, 1) := by decide +kernel
theorem dX11_undo_8 : decode cX11_undo 8 = .ok (.iload_n 2, 1) := by decide +kernel
theorem dX11_undo_9 : decode cX11_undo 9 = .ok (.ifCond .eq 16, 3) := by decide +kernel
theorem dX11_undo_12 : decode cX11_undo 12 = .ok (.aload_n 0, 1) := by decide +kernel
theorem dX11_undo_13 : decode cX11_undo 13 = .ok (.getfield 32, 3) := by decide +kernel
theorem dX11_undo_16 : decode cX11_undo 16 = .ok (.iload_n 1, 1) := by decide +kernel
theorem dX11_undo_17 : decode cX11_undo 17 = .ok (.iaload, 1) := by decide +kernel
theorem dX11_undo_18 : decode cX11_undo 18 = .ok (.ifCond .le 7, 3) := by decide +kernel
theorem dX11_undo_21 : decode cX11_undo 21 = .ok (.iconst 1, 1) := by decide +kernel
theorem dX11_undo_22 : decode cX11_undo 22 = .ok (.goto 4, 3) := by decide +kernel
theorem dX11_undo_25 : decode cX11_undo 25 = .ok (.iconst 0, 1) := by decide +kernel
theorem dX11_undo_26 : decode cX11_undo 26 = .ok (.iconst 1, 1) := by decide +kernel
theorem dX11_undo_27 : decode cX11_undo 27 = .ok (.invokevirtual 117, 3) := by decide +kernel
theorem dX11_undo_30 : decode cX11_undo 30 = .ok (.ifCond .ne 5, 3) := by decide +kernel
theorem dX11_undo_33 : decode cX11_undo 33 = .ok (.iconst 0, 1) := by decide +kernel
theorem dX11_undo_34 : decode cX11_undo 34 = .ok (.ireturn, 1) := by decide +kernel
theorem dX11_undo_35 : decode cX11_undo 35 = .ok (.aload_n 0, 1) := by decide +kernel
theorem dX11_undo_36 : decode cX11_undo 36 = .ok (.getfield 32, 3) := by decide +kernel
theorem dX11_undo_39 : decode cX11_undo 39 = .ok (.iload_n 1, 1) := by decide +kernel
theorem dX11_undo_40 : decode cX11_undo 40 = .ok (.dup2, 1) := by decide +kernel
theorem dX11_undo_41 : decode cX11_undo 41 = .ok (.iaload, 1) := by decide +kernel
theorem dX11_undo_42 : decode cX11_undo 42 = .ok (.iconst 1, 1) := by decide +kernel
theorem dX11_undo_43 : decode cX11_undo 43 = .ok (.isub, 1) := by decide +kernel
theorem dX11_undo_44 : decode cX11_undo 44 = .ok (.iastore, 1) := by decide +kernel
theorem dX11_undo_45 : decode cX11_undo 45 = .ok (.aload_n 0, 1) := by decide +kernel
theorem dX11_undo_46 : decode cX11_undo 46 = .ok (.getfield 35, 3) := by decide +kernel
theorem dX11_undo_49 : decode cX11_undo 49 = .ok (.iload_n 1, 1) := by decide +kernel
theorem dX11_undo_50 : decode cX11_undo 50 = .ok (.dup2, 1) := by decide +kernel
theorem dX11_undo_51 : decode cX11_undo 51 = .ok (.iaload, 1) := by decide +kernel
theorem dX11_undo_52 : decode cX11_undo 52 = .ok (.iconst 1, 1) := by decide +kernel
theorem dX11_undo_53 : decode cX11_undo 53 = .ok (.iadd, 1) := by decide +kernel
theorem dX11_undo_54 : decode cX11_undo 54 = .ok (.iastore, 1) := by decide +kernel
theorem dX11_undo_55 : decode cX11_undo 55 = .ok (.aload_n 0, 1) := by decide +kernel
theorem dX11_undo_56 : decode cX11_undo 56 = .ok (.getfield 29, 3) := by decide +kernel
theorem dX11_undo_59 : decode cX11_undo 59 = .ok (.sipush 600, 3) := by decide +kernel
theorem dX11_undo_62 : decode cX11_undo 62 = .ok (.iload_n 1, 1) := by decide +kernel
theorem dX11_undo_63 : decode cX11_undo 63 = .ok (.imul, 1) := by decide +kernel
theorem dX11_undo_64 : decode cX11_undo 64 = .ok (.aload_n 0, 1) := by decide +kernel
theorem dX11_undo_65 : decode cX11_undo 65 = .ok (.getfield 32, 3) := by decide +kernel
theorem dX11_undo_68 : decode cX11_undo 68 = .ok (.iload_n 1, 1) := by decide +kernel
theorem dX11_undo_69 : decode cX11_undo 69 = .ok (.iaload, 1) := by decide +kernel
theorem dX11_undo_70 : decode cX11_undo 70 = .ok (.iadd, 1) := by decide +kernel
theorem dX11_undo_71 : decode cX11_undo 71 = .ok (.iaload, 1) := by decide +kernel
theorem dX11_undo_72 : decode cX11_undo 72 = .ok (.istore_n 3, 1) := by decide +kernel
theorem dX11_undo_73 : decode cX11_undo 73 = .ok (.aload_n 0, 1) := by decide +kernel
theorem dX11_undo_74 : decode cX11_undo 74 = .ok (.iload_n 3, 1) := by decide +kernel
theorem dX11_undo_75 : decode cX11_undo 75 = .ok (.iload_n 3, 1) := by decide +kernel
theorem dX11_undo_76 : decode cX11_undo 76 = .ok (.sipush 1000, 3) := by decide +kernel
theorem dX11_undo_79 : decode cX11_undo 79 = .ok (.irem, 1) := by decide +kernel
theorem dX11_undo_80 : decode cX11_undo 80 = .ok (.sipush 500, 3) := by decide +kernel
theorem dX11_undo_83 : decode cX11_undo 83 = .ok (.if_icmp .lt 7, 3) := by decide +kernel
theorem dX11_undo_86 : decode cX11_undo 86 = .ok (.iconst 1, 1) := by decide +kernel
theorem dX11_undo_87 : decode cX11_undo 87 = .ok (.goto 4, 3) := by decide +kernel
theorem dX11_undo_90 : decode cX11_undo 90 = .ok (.iconst 0, 1) := by decide +kernel
theorem dX11_undo_91 : decode cX11_undo 91 = .ok (.invokevirtual 135, 3) := by decide +kernel
theorem dX11_undo_94 : decode cX11_undo 94 = .ok (.ireturn, 1) := by decide +kernel
theorem dX11_redo_0 : decode cX11_redo 0 = .ok (.iload_n 1, 1) := by decide +kernel
theorem dX11_redo_1 : decode cX11_redo 1 = .ok (.iconst 5, 1) := by decide +kernel
theorem dX11_redo_2 : decode cX11_redo 2 = .ok (.invokestatic 99, 3) := by decide +kernel
theorem dX11_redo_5 : decode cX11_redo 5 = .ok (.istore_n 2, 1) := by decide +kernel
theorem dX11_redo_6 : decode cX11_redo 6 = .ok (.aload_n 0, 1) := by decide +kernel
theorem dX11_redo_7 : decode cX11_redo 7 = .ok (.iload_n 2, 1) := by decide +kernel
theorem dX11_redo_8 : decode cX11_redo 8 = .ok (.iload_n 2, 1) := by decide +kernel
theorem dX11_redo_9 : decode cX11_redo 9 = .ok (.ifCond .eq 16, 3) := by decide +kernel
theorem dX11_redo_12 : decode cX11_redo 12 = .ok (.aload_n 0, 1) := by decide +kernel
theorem dX11_redo_13 : decode cX11_redo 13 = .ok (.getfield 35, 3) := by decide +kernel
theorem dX11_redo_16 : decode cX11_redo 16 = .ok (.iload_n 1, 1) := by decide +kernel
theorem dX11_redo_17 : decode cX11_redo 17 = .ok (.iaload, 1) := by decide +kernel
theorem dX11_redo_18 : decode cX11_redo 18 = .ok (.ifCond .le 7, 3) := by decide +kernel
theorem dX11_redo_21 : decode cX11_redo 21 = .ok (.iconst 1, 1) := by decide +kernel
theorem dX11_redo_22 : decode cX11_redo 22 = .ok (.goto 4, 3) := by decide +kernel
theorem dX11_redo_25 : decode cX11_redo 25 = .ok (.iconst 0, 1) := by decide +kernel
theorem dX11_redo_26 : decode cX11_redo 26 = .ok (.iconst 1, 1) := by decide +kernel
theorem dX11_redo_27 : decode cX11_redo 27 = .ok (.invokevirtual 117, 3) := by decide +kernel
theorem dX11_redo_30 : decode cX11_redo 30 = .ok (.ifCond .ne 5, 3) := by decide +kernel
theorem dX11_redo_33 : decode cX11_redo 33 = .ok (.iconst 0, 1) := by decide +kernel
theorem dX11_redo_34 : decode cX11_redo 34 = .ok (.ireturn, 1) := by decide +kernel
theorem dX11_redo_35 : decode cX11_redo 35 = .ok (.aload_n 0, 1) := by decide +kernel
theorem dX11_redo_36 : decode cX11_redo 36 = .ok (.getfield 29, 3) := by decide +kernel
theorem dX11_redo_39 : decode cX11_redo 39 = .ok (.sipush 600, 3) := by decide +kernel
theorem dX11_redo_42 : decode cX11_redo 42 = .ok (.iload_n 1, 1) := by decide +kernel
theorem dX11_redo_43 : decode cX11_redo 43 = .ok (.imul, 1) := by decide +kernel
theorem dX11_redo_44 : decode cX11_redo 44 = .ok (.aload_n 0, 1) := by decide +kernel
theorem dX11_redo_45 : decode cX11_redo 45 = .ok (.getfield 32, 3) := by decide +kernel
theorem dX11_redo_48 : decode cX11_redo 48 = .ok (.iload_n 1, 1) := by decide +kernel
theorem dX11_redo_49 : decode cX11_redo 49 = .ok (.iaload, 1) := by decide +kernel
theorem dX11_redo_50 : decode cX11_redo 50 = .ok (.iadd, 1) := by decide +kernel
theorem dX11_redo_51 : decode cX11_redo 51 = .ok (.iaload, 1) := by decide +kernel
theorem dX11_redo_52 : decode cX11_redo 52 = .ok (.istore_n 3, 1) := by decide +kernel
theorem dX11_redo_53 : decode cX11_redo 53 = .ok (.aload_n 0, 1) := by decide +kernel
theorem dX11_redo_54 : decode cX11_redo 54 = .ok (.getfield 32, 3) := by decide +kernel
theorem dX11_redo_57 : decode cX11_redo 57 = .ok (.iload_n 1, 1) := by decide +kernel
theorem dX11_redo_58 : decode cX11_redo 58 = .ok (.dup2, 1) := by decide +kernel
theorem dX11_redo_59 : decode cX11_redo 59 = .ok (.iaload, 1) := by decide +kernel
theorem dX11_redo_60 : decode cX11_redo 60 = .ok (.iconst 1, 1) := by decide +kernel
theorem dX11_redo_61 : decode cX11_redo 61 = .ok (.iadd, 1) := by decide +kernel
theorem dX11_redo_62 : decode cX11_redo 62 = .ok (.iastore, 1) := by decide +kernel
theorem dX11_redo_63 : decode cX11_redo 63 = .ok (.aload_n 0, 1) := by decide +kernel
theorem dX11_redo_64 : decode cX11_redo 64 = .ok (.getfield 35, 3) := by decide +kernel
theorem dX11_redo_67 : decode cX11_redo 67 = .ok (.iload_n 1, 1) := by decide +kernel
theorem dX11_redo_68 : decode cX11_redo 68 = .ok (.dup2, 1) := by decide +kernel
theorem dX11_redo_69 : decode cX11_redo 69 = .ok (.iaload, 1) := by decide +kernel
theorem dX11_redo_70 : decode cX11_redo 70 = .ok (.iconst 1, 1) := by decide +kernel
theorem dX11_redo_71 : decode cX11_redo 71 = .ok (.isub, 1) := by decide +kernel
theorem dX11_redo_72 : decode cX11_redo 72 = .ok (.iastore, 1) := by decide +kernel
theorem dX11_redo_73 : decode cX11_redo 73 = .ok (.aload_n 0, 1) := by decide +kernel
theorem dX11_redo_74 : decode cX11_redo 74 = .ok (.iload_n 3, 1) := by decide +kernel
theorem dX11_redo_75 : decode cX11_redo 75 = .ok (.iload_n 3, 1) := by decide +kernel
theorem dX11_redo_76 : decode cX11_redo 76 = .ok (.sipush 1000, 3) := by decide +kernel
theorem dX11_redo_79 : decode cX11_redo 79 = .ok (.irem, 1) := by decide +kernel
theorem dX11_redo_80 : decode cX11_redo 80 = .ok (.sipush 500, 3) := by decide +kernel
theorem dX11_redo_83 : decode cX11_redo 83 = .ok (.if_icmp .ge 7, 3) := by decide +kernel
theorem dX11_redo_86 : decode cX11_redo 86 = .ok (.iconst 1, 1) := by decide +kernel
theorem dX11_redo_87 : decode cX11_redo 87 = .ok (.goto 4, 3) := by decide +kernel
theorem dX11_redo_90 : decode cX11_redo 90 = .ok (.iconst 0, 1) := by decide +kernel
theorem dX11_redo_91 : decode cX11_redo 91 = .ok (.invokevirtual 135, 3) := by decide +kernel
theorem dX11_redo_94 : decode cX11_redo 94 = .ok (.ireturn, 1) := by decide +kernel
theorem dX11_isText_0 : decode cX11_isText 0 = .ok (.iload_n 0, 1) := by decide +kernel
theorem dX11_isText_1 : decode cX11_isText 1 = .ok (.iconst 3, 1) := by decide +kernel
theorem dX11_isText_2 : decode cX11_isText 2 = .ok (.invokestatic 99, 3) := by decide +kernel
theorem dX11_isText_5 : decode cX11_isText 5 = .ok (.ireturn, 1) := by decide +kernel
theorem dX11_place_0 : decode cX11_place 0 = .ok (.aload_n 0, 1) := by decide +kernel
theorem dX11_place_1 : decode cX11_place 1 = .ok (.iload_n 1, 1) := by decide +kernel
theorem dX11_place_2 : decode cX11_place 2 = .ok (.iload_n 2, 1) := by decide +kernel
theorem dX11_place_3 : decode cX11_place 3 = .ok (.invokestatic 110, 3) := by decide +kernel
theorem dX11_place_6 : decode cX11_place 6 = .ok (.iconst 1, 1) := by decide +kernel
theorem dX11_place_7 : decode cX11_place 7 = .ok (.iconst 1, 1) := by decide +kernel
theorem dX11_place_8 : decode cX11_place 8 = .ok (.invokevirtual 117, 3) := by decide +kernel
theorem dX11_place_11 : decode cX11_place 11 = .ok (.ifCond .eq 12, 3) := by decide +kernel
theorem dX11_place_14 : decode cX11_place 14 = .ok (.aload_n 0, 1) := by decide +kernel
theorem dX11_place_15 : decode cX11_place 15 = .ok (.iload_n 1, 1) := by decide +kernel
theorem dX11_place_16 : decode cX11_place 16 = .ok (.iload_n 2, 1) := by decide +kernel
theorem dX11_place_17 : decode cX11_place 17 = .ok (.invokevirtual 125, 3) := by decide +kernel
theorem dX11_place_20 : decode cX11_place 20 = .ok (.goto 4, 3) := by decide +kernel
theorem dX11_place_23 : decode cX11_place 23 = .ok (.iconst 0, 1) := by decide +kernel
theorem dX11_place_24 : decode cX11_place 24 = .ok (.ireturn, 1) := by decide +kernel
theorem dX11_length_0 : decode cX11_length 0 = .ok (.aload_n 0, 1) := by decide +kernel
theorem dX11_length_1 : decode cX11_length 1 = .ok (.iload_n 1, 1) := by decide +kernel
theorem dX11_length_2 : decode cX11_length 2 = .ok (.invokestatic 139, 3) := by decide +kernel
theorem dX11_length_5 : decode cX11_length 5 = .ok (.iconst 1, 1) := by decide +kernel
theorem dX11_length_6 : decode cX11_length 6 = .ok (.iconst 1, 1) := by decide +kernel
theorem dX11_length_7 : decode cX11_length 7 = .ok (.invokevirtual 117, 3) := by decide +kernel
theorem dX11_length_10 : decode cX11_length 10 = .ok (.ifCond .ne 5, 3) := by decide +kernel
theorem dX11_length_13 : decode cX11_length 13 = .ok (.iconst 0, 1) := by decide +kernel
theorem dX11_length_14 : decode cX11_length 14 = .ok (.ireturn, 1) := by decide +kernel
theorem dX11_length_15 : decode cX11_length 15 = .ok (.aload_n 0, 1) := by decide +kernel
theorem dX11_length_16 : decode cX11_length 16 = .ok (.iload_n 1, 1) := by decide +kernel
theorem dX11_length_17 : decode cX11_length 17 = .ok (.invokevirtual 128, 3) := by decide +kernel
theorem dX11_length_20 : decode cX11_length 20 = .ok (.aload_n 0, 1) := by decide +kernel
theorem dX11_length_21 : decode cX11_length 21 = .ok (.getfield 103, 3) := by decide +kernel
theorem dX11_length_24 : decode cX11_length 24 = .ok (.ireturn, 1) := by decide +kernel
theorem dX11_letter_0 : decode cX11_letter 0 = .ok (.iload_n 1, 1) := by decide +kernel
theorem dX11_letter_1 : decode cX11_letter 1 = .ok (.invokestatic 139, 3) := by decide +kernel
theorem dX11_letter_4 : decode cX11_letter 4 = .ok (.istore_n 3, 1) := by decide +kernel
theorem dX11_letter_5 : decode cX11_letter 5 = .ok (.iload_n 3, 1) := by decide +kernel
theorem dX11_letter_6 : decode cX11_letter 6 = .ok (.ifCond .eq 8, 3) := by decide +kernel
theorem dX11_letter_9 : decode cX11_letter 9 = .ok (.aload_n 0, 1) := by decide +kernel
theorem dX11_letter_10 : decode cX11_letter 10 = .ok (.iload_n 1, 1) := by decide +kernel
theorem dX11_letter_11 : decode cX11_letter 11 = .ok (.invokevirtual 128, 3) := by decide +kernel
theorem dX11_letter_14 : decode cX11_letter 14 = .ok (.aload_n 0, 1) := by decide +kernel
theorem dX11_letter_15 : decode cX11_letter 15 = .ok (.iload_n 3, 1) := by decide +kernel
theorem dX11_letter_16 : decode cX11_letter 16 = .ok (.ifCond .eq 18, 3) := by decide +kernel
theorem dX11_letter_19 : decode cX11_letter 19 = .ok (.iload_n 2, 1) := by decide +kernel
theorem dX11_letter_20 : decode cX11_letter 20 = .ok (.aload_n 0, 1) := by decide +kernel
theorem dX11_letter_21 : decode cX11_letter 21 = .ok (.getfield 103, 3) := by decide +kernel
theorem dX11_letter_24 : decode cX11_letter 24 = .ok (.invokestatic 99, 3) := by decide +kernel
theorem dX11_letter_27 : decode cX11_letter 27 = .ok (.ifCond .eq 7, 3) := by decide +kernel
theorem dX11_letter_30 : decode cX11_letter 30 = .ok (.iconst 1, 1) := by decide +kernel
theorem dX11_letter_31 : decode cX11_letter 31 = .ok (.goto 4, 3) := by decide +kernel
theorem dX11_letter_34 : decode cX11_letter 34 = .ok (.iconst 0, 1) := by decide +kernel
theorem dX11_letter_35 : decode cX11_letter 35 = .ok (.iconst 1, 1) := by decide +kernel
theorem dX11_letter_36 : decode cX11_letter 36 = .ok (.iconst 1, 1) := by decide +kernel
theorem dX11_letter_37 : decode cX11_letter 37 = .ok (.invokevirtual 117, 3) := by decide +kernel
theorem dX11_letter_40 : decode cX11_letter 40 = .ok (.ifCond .eq 24, 3) := by decide +kernel
theorem dX11_letter_43 : decode cX11_letter 43 = .ok (.aload_n 0, 1) := by decide +kernel
theorem dX11_letter_44 : decode cX11_letter 44 = .ok (.getfield 13, 3) := by decide +kernel
theorem dX11_letter_47 : decode cX11_letter 47 = .ok (.sipush 150, 3) := by decide +kernel
theorem dX11_letter_50 : decode cX11_letter 50 = .ok (.iload_n 1, 1) := by decide +kernel
theorem dX11_letter_51 : decode cX11_letter 51 = .ok (.imul, 1) := by decide +kernel
theorem dX11_letter_52 : decode cX11_letter 52 = .ok (.aload_n 0, 1) := by decide +kernel
theorem dX11_letter_53 : decode cX11_letter 53 = .ok (.getfield 89, 3) := by decide +kernel
theorem dX11_letter_56 : decode cX11_letter 56 = .ok (.iload_n 2, 1) := by decide +kernel
theorem dX11_letter_57 : decode cX11_letter 57 = .ok (.iaload, 1) := by decide +kernel
theorem dX11_letter_58 : decode cX11_letter 58 = .ok (.iadd, 1) := by decide +kernel
theorem dX11_letter_59 : decode cX11_letter 59 = .ok (.iaload, 1) := by decide +kernel
theorem dX11_letter_60 : decode cX11_letter 60 = .ok (.i2c, 1) := by decide +kernel
theorem dX11_letter_61 : decode cX11_letter 61 = .ok (.goto 4, 3) := by decide +kernel
theorem dX11_letter_64 : decode cX11_letter 64 = .ok (.iconst 0, 1) := by decide +kernel
theorem dX11_letter_65 : decode cX11_letter 65 = .ok (.ireturn, 1) := by decide +kernel
theorem dX11_letterAnew_0 : decode cX11_letterAnew 0 = .ok (.aload_n 0, 1) := by decide +kernel
theorem dX11_letterAnew_1 : decode cX11_letterAnew 1 = .ok (.iload_n 1, 1) := by decide +kernel
theorem dX11_letterAnew_2 : decode cX11_letterAnew 2 = .ok (.iload_n 2, 1) := by decide +kernel
theorem dX11_letterAnew_3 : decode cX11_letterAnew 3 = .ok (.invokevirtual 142, 3) := by decide +kernel
theorem dX11_letterAnew_6 : decode cX11_letterAnew 6 = .ok (.ireturn, 1) := by decide +kernel
theorem dX11_version_0 : decode cX11_version 0 = .ok (.aload_n 0, 1) := by decide +kernel
theorem dX11_version_1 : decode cX11_version 1 = .ok (.iload_n 1, 1) := by decide +kernel
theorem dX11_version_2 : decode cX11_version 2 = .ok (.invokestatic 139, 3) := by decide +kernel
theorem dX11_version_5 : decode cX11_version 5 = .ok (.iconst 1, 1) := by decide +kernel
theorem dX11_version_6 : decode cX11_version 6 = .ok (.iconst 1, 1) := by decide +kernel
theorem dX11_version_7 : decode cX11_version 7 = .ok (.invokevirtual 117, 3) := by decide +kernel
theorem dX11_version_10 : decode cX11_version 10 = .ok (.ifCond .eq 12, 3) := by decide +kernel
theorem dX11_version_13 : decode cX11_version 13 = .ok (.aload_n 0, 1) := by decide +kernel
theorem dX11_version_14 : decode cX11_version 14 = .ok (.getfield 23, 3) := by decide +kernel
theorem dX11_version_17 : decode cX11_version 17 = .ok (.iload_n 1, 1) := by decide +kernel
theorem dX11_version_18 : decode cX11_version 18 = .ok (.iaload, 1) := by decide +kernel
theorem dX11_version_19 : decode cX11_version 19 = .ok (.goto 4, 3) := by decide +kernel
theorem dX11_version_22 : decode cX11_version 22 = .ok (.iconst 0, 1) := by decide +kernel
theorem dX11_version_23 : decode cX11_version 23 = .ok (.ireturn, 1) := by decide +kernel
theorem dX11_signAt_0 : decode cX11_signAt 0 = .ok (.aload_n 0, 1) := by decide +kernel
theorem dX11_signAt_1 : decode cX11_signAt 1 = .ok (.getfield 13, 3) := by decide +kernel
theorem dX11_signAt_4 : decode cX11_signAt 4 = .ok (.sipush 150, 3) := by decide +kernel
theorem dX11_signAt_7 : decode cX11_signAt 7 = .ok (.iload_n 1, 1) := by decide +kernel
theorem dX11_signAt_8 : decode cX11_signAt 8 = .ok (.imul, 1) := by decide +kernel
theorem dX11_signAt_9 : decode cX11_signAt 9 = .ok (.aload_n 0, 1) := by decide +kernel
theorem dX11_signAt_10 : decode cX11_signAt 10 = .ok (.getfield 89, 3) := by decide +kernel
theorem dX11_signAt_13 : decode cX11_signAt 13 = .ok (.iload_n 2, 1) := by decide +kernel
theorem dX11_signAt_14 : decode cX11_signAt 14 = .ok (.iaload, 1) := by decide +kernel
theorem dX11_signAt_15 : decode cX11_signAt 15 = .ok (.iadd, 1) := by decide +kernel
theorem dX11_signAt_16 : decode cX11_signAt 16 = .ok (.iaload, 1) := by decide +kernel
theorem dX11_signAt_17 : decode cX11_signAt 17 = .ok (.ireturn, 1) := by decide +kernel
theorem dX11_wants_0 : decode cX11_wants 0 = .ok (.sipush 150, 3) := by decide +kernel
theorem dX11_wants_3 : decode cX11_wants 3 = .ok (.aload_n 0, 1) := by decide +kernel
theorem dX11_wants_4 : decode cX11_wants 4 = .ok (.getfield 145, 3) := by decide +kernel
theorem dX11_wants_7 : decode cX11_wants 7 = .ok (.imul, 1) := by decide +kernel
theorem dX11_wants_8 : decode cX11_wants 8 = .ok (.aload_n 0, 1) := by decide +kernel
theorem dX11_wants_9 : decode cX11_wants 9 = .ok (.getfield 44, 3) := by decide +kernel
theorem dX11_wants_12 : decode cX11_wants 12 = .ok (.aload_n 0, 1) := by decide +kernel
theorem dX11_wants_13 : decode cX11_wants 13 = .ok (.getfield 145, 3) := by decide +kernel
theorem dX11_wants_16 : decode cX11_wants 16 = .ok (.iaload, 1) := by decide +kernel
theorem dX11_wants_17 : decode cX11_wants 17 = .ok (.iadd, 1) := by decide +kernel
theorem dX11_wants_18 : decode cX11_wants 18 = .ok (.istore 4, 2) := by decide +kernel
theorem dX11_wants_20 : decode cX11_wants 20 = .ok (.aload_n 0, 1) := by decide +kernel
theorem dX11_wants_21 : decode cX11_wants 21 = .ok (.getfield 50, 3) := by decide +kernel
theorem dX11_wants_24 : decode cX11_wants 24 = .ok (.iload 4, 2) := by decide +kernel
theorem dX11_wants_26 : decode cX11_wants 26 = .ok (.aload_n 0, 1) := by decide +kernel
theorem dX11_wants_27 : decode cX11_wants 27 = .ok (.getfield 89, 3) := by decide +kernel
theorem dX11_wants_30 : decode cX11_wants 30 = .ok (.iload_n 2, 1) := by decide +kernel
theorem dX11_wants_31 : decode cX11_wants 31 = .ok (.iaload, 1) := by decide +kernel
theorem dX11_wants_32 : decode cX11_wants 32 = .ok (.iastore, 1) := by decide +kernel
theorem dX11_wants_33 : decode cX11_wants 33 = .ok (.aload_n 0, 1) := by decide +kernel
theorem dX11_wants_34 : decode cX11_wants 34 = .ok (.getfield 53, 3) := by decide +kernel
theorem dX11_wants_37 : decode cX11_wants 37 = .ok (.iload 4, 2) := by decide +kernel
theorem dX11_wants_39 : decode cX11_wants 39 = .ok (.aload_n 0, 1) := by decide +kernel
theorem dX11_wants_40 : decode cX11_wants 40 = .ok (.iload_n 1, 1) := by decide +kernel
theorem dX11_wants_41 : decode cX11_wants 41 = .ok (.iload_n 2, 1) := by decide +kernel
theorem dX11_wants_42 : decode cX11_wants 42 = .ok (.invokevirtual 148, 3) := by decide +kernel
theorem dX11_wants_45 : decode cX11_wants 45 = .ok (.iastore, 1) := by decide +kernel
theorem dX11_wants_46 : decode cX11_wants 46 = .ok (.aload_n 0, 1) := by decide +kernel
theorem dX11_wants_47 : decode cX11_wants 47 = .ok (.getfield 56, 3) := by decide +kernel
theorem dX11_wants_50 : decode cX11_wants 50 = .ok (.iload 4, 2) := by decide +kernel
theorem dX11_wants_52 : decode cX11_wants 52 = .ok (.iload_n 3, 1) := by decide +kernel
theorem dX11_wants_53 : decode cX11_wants 53 = .ok (.iastore, 1) := by decide +kernel
theorem dX11_wants_54 : decode cX11_wants 54 = .ok (.aload_n 0, 1) := by decide +kernel
theorem dX11_wants_55 : decode cX11_wants 55 = .ok (.getfield 44, 3) := by decide +kernel
theorem dX11_wants_58 : decode cX11_wants 58 = .ok (.aload_n 0, 1) := by decide +kernel
theorem dX11_wants_59 : decode cX11_wants 59 = .ok (.getfield 145, 3) := by decide +kernel
theorem dX11_wants_62 : decode cX11_wants 62 = .ok (.dup2, 1) := by decide +kernel
theorem dX11_wants_63 : decode cX11_wants 63 = .ok (.iaload, 1) := by decide +kernel
theorem dX11_wants_64 : decode cX11_wants 64 = .ok (.iconst 1, 1) := by decide +kernel
theorem dX11_wants_65 : decode cX11_wants 65 = .ok (.iadd, 1) := by decide +kernel
theorem dX11_wants_66 : decode cX11_wants 66 = .ok (.iastore, 1) := by decide +kernel
theorem dX11_wants_67 : decode cX11_wants 67 = .ok (.return_, 1) := by decide +kernel
theorem dX11_nextEnd_0 : decode cX11_nextEnd 0 = .ok (.iload_n 2, 1) := by decide +kernel
theorem dX11_nextEnd_1 : decode cX11_nextEnd 1 = .ok (.istore_n 3, 1) := by decide +kernel
theorem dX11_nextEnd_2 : decode cX11_nextEnd 2 = .ok (.iload_n 3, 1) := by decide +kernel
theorem dX11_nextEnd_3 : decode cX11_nextEnd 3 = .ok (.aload_n 0, 1) := by decide +kernel
theorem dX11_nextEnd_4 : decode cX11_nextEnd 4 = .ok (.getfield 103, 3) := by decide +kernel
theorem dX11_nextEnd_7 : decode cX11_nextEnd 7 = .ok (.if_icmp .ge 20, 3) := by decide +kernel
theorem dX11_nextEnd_10 : decode cX11_nextEnd 10 = .ok (.aload_n 0, 1) := by decide +kernel
theorem dX11_nextEnd_11 : decode cX11_nextEnd 11 = .ok (.iload_n 1, 1) := by decide +kernel
theorem dX11_nextEnd_12 : decode cX11_nextEnd 12 = .ok (.iload_n 3, 1) := by decide +kernel
theorem dX11_nextEnd_13 : decode cX11_nextEnd 13 = .ok (.invokevirtual 148, 3) := by decide +kernel
theorem dX11_nextEnd_16 : decode cX11_nextEnd 16 = .ok (.bipush 47, 2) := by decide +kernel
theorem dX11_nextEnd_18 : decode cX11_nextEnd 18 = .ok (.if_icmp .eq 9, 3) := by decide +kernel
theorem dX11_nextEnd_21 : decode cX11_nextEnd 21 = .ok (.iinc 3 1, 3) := by decide +kernel
theorem dX11_nextEnd_24 : decode cX11_nextEnd 24 = .ok (.goto (-22), 3) := by decide +kernel
theorem dX11_nextEnd_27 : decode cX11_nextEnd 27 = .ok (.iload_n 3, 1) := by decide +kernel
theorem dX11_nextEnd_28 : decode cX11_nextEnd 28 = .ok (.ireturn, 1) := by decide +kernel
theorem dX11_wantsLetters_0 : decode cX11_wantsLetters 0 = .ok (.iconst 0, 1) := by decide +kernel
theorem dX11_wantsLetters_1 : decode cX11_wantsLetters 1 = .ok (.istore_n 3, 1) := by decide +kernel
theorem dX11_wantsLetters_2 : decode cX11_wantsLetters 2 = .ok (.iload_n 3, 1) := by decide +kernel
theorem dX11_wantsLetters_3 : decode cX11_wantsLetters 3 = .ok (.aload_n 0, 1) := by decide +kernel
theorem dX11_wantsLetters_4 : decode cX11_wantsLetters 4 = .ok (.getfield 103, 3) := by decide +kernel
theorem dX11_wantsLetters_7 : decode cX11_wantsLetters 7 = .ok (.if_icmp .ge 194, 3) := by decide +kernel
theorem dX11_wantsLetters_10 : decode cX11_wantsLetters 10 = .ok (.aload_n 0, 1) := by decide +kernel
theorem dX11_wantsLetters_11 : decode cX11_wantsLetters 11 = .ok (.iload_n 1, 1) := by decide +kernel
theorem dX11_wantsLetters_12 : decode cX11_wantsLetters 12 = .ok (.iload_n 3, 1) := by decide +kernel
theorem dX11_wantsLetters_13 : decode cX11_wantsLetters 13 = .ok (.invokevirtual 148, 3) := by decide +kernel
theorem dX11_wantsLetters_16 : decode cX11_wantsLetters 16 = .ok (.istore 4, 2) := by decide +kernel
theorem dX11_wantsLetters_18 : decode cX11_wantsLetters 18 = .ok (.iload_n 3, 1) := by decide +kernel
theorem dX11_wantsLetters_19 : decode cX11_wantsLetters 19 = .ok (.ifCond .le 20, 3) := by decide +kernel
theorem dX11_wantsLetters_22 : decode cX11_wantsLetters 22 = .ok (.aload_n 0, 1) := by decide +kernel
theorem dX11_wantsLetters_23 : decode cX11_wantsLetters 23 = .ok (.iload_n 1, 1) := by decide +kernel
theorem dX11_wantsLetters_24 : decode cX11_wantsLetters 24 = .ok (.iload_n 3, 1) := by decide +kernel
theorem dX11_wantsLetters_25 : decode cX11_wantsLetters 25 = .ok (.iconst 1, 1) := by decide +kernel
theorem dX11_wantsLetters_26 : decode cX11_wantsLetters 26 = .ok (.isub, 1) := by decide +kernel
theorem dX11_wantsLetters_27 : decode cX11_wantsLetters 27 = .ok (.invokevirtual 148, 3) := by decide +kernel
theorem dX11_wantsLetters_30 : decode cX11_wantsLetters 30 = .ok (.bipush 32, 2) := by decide +kernel
theorem dX11_wantsLetters_32 : decode cX11_wantsLetters 32 = .ok (.if_icmp .ne 7, 3) := by decide +kernel
theorem dX11_wantsLetters_35 : decode cX11_wantsLetters 35 = .ok (.iconst 1, 1) := by decide +kernel
theorem dX11_wantsLetters_36 : decode cX11_wantsLetters 36 = .ok (.goto 4, 3) := by decide +kernel
theorem dX11_wantsLetters_39 : decode cX11_wantsLetters 39 = .ok (.iconst 0, 1) := by decide +kernel
theorem dX11_wantsLetters_40 : decode cX11_wantsLetters 40 = .ok (.istore 5, 2) := by decide +kernel
theorem dX11_wantsLetters_42 : decode cX11_wantsLetters 42 = .ok (.iload_n 3, 1) := by decide +kernel
theorem dX11_wantsLetters_43 : decode cX11_wantsLetters 43 = .ok (.ifCond .eq 16, 3) := by decide +kernel
theorem dX11_wantsLetters_46 : decode cX11_wantsLetters 46 = .ok (.aload_n 0, 1) := by decide +kernel
theorem dX11_wantsLetters_47 : decode cX11_wantsLetters 47 = .ok (.iload_n 1, 1) := by decide +kernel
theorem dX11_wantsLetters_48 : decode cX11_wantsLetters 48 = .ok (.iload_n 3, 1) := by decide +kernel
theorem dX11_wantsLetters_49 : decode cX11_wantsLetters 49 = .ok (.iconst 1, 1) := by decide +kernel
theorem dX11_wantsLetters_50 : decode cX11_wantsLetters 50 = .ok (.isub, 1) := by decide +kernel
theorem dX11_wantsLetters_51 : decode cX11_wantsLetters 51 = .ok (.invokevirtual 148, 3) := by decide +kernel
theorem dX11_wantsLetters_54 : decode cX11_wantsLetters 54 = .ok (.bipush 47, 2) := by decide +kernel
theorem dX11_wantsLetters_56 : decode cX11_wantsLetters 56 = .ok (.if_icmp .ne 7, 3) := by decide +kernel
theorem dX11_wantsLetters_59 : decode cX11_wantsLetters 59 = .ok (.iconst 1, 1) := by decide +kernel
theorem dX11_wantsLetters_60 : decode cX11_wantsLetters 60 = .ok (.goto 4, 3) := by decide +kernel
theorem dX11_wantsLetters_63 : decode cX11_wantsLetters 63 = .ok (.iconst 0, 1) := by decide +kernel
theorem dX11_wantsLetters_64 : decode cX11_wantsLetters 64 = .ok (.istore 6, 2) := by decide +kernel
theorem dX11_wantsLetters_66 : decode cX11_wantsLetters 66 = .ok (.iload_n 3, 1) := by decide +kernel
theorem dX11_wantsLetters_67 : decode cX11_wantsLetters 67 = .ok (.istore 7, 2) := by decide +kernel
theorem dX11_wantsLetters_69 : decode cX11_wantsLetters 69 = .ok (.iload 7, 2) := by decide +kernel
theorem dX11_wantsLetters_71 : decode cX11_wantsLetters 71 = .ok (.aload_n 0, 1) := by decide +kernel
theorem dX11_wantsLetters_72 : decode cX11_wantsLetters 72 = .ok (.getfield 103, 3) := by decide +kernel
theorem dX11_wantsLetters_75 : decode cX11_wantsLetters 75 = .ok (.if_icmp .ge 21, 3) := by decide +kernel
theorem dX11_wantsLetters_78 : decode cX11_wantsLetters 78 = .ok (.aload_n 0, 1) := by decide +kernel
theorem dX11_wantsLetters_79 : decode cX11_wantsLetters 79 = .ok (.iload_n 1, 1) := by decide +kernel
theorem dX11_wantsLetters_80 : decode cX11_wantsLetters 80 = .ok (.iload 7, 2) := by decide +kernel
theorem dX11_wantsLetters_82 : decode cX11_wantsLetters 82 = .ok (.invokevirtual 148, 3) := by decide +kernel
theorem dX11_wantsLetters_85 : decode cX11_wantsLetters 85 = .ok (.bipush 32, 2) := by decide +kernel
theorem dX11_wantsLetters_87 : decode cX11_wantsLetters 87 = .ok (.if_icmp .ne 9, 3) := by decide +kernel
theorem dX11_wantsLetters_90 : decode cX11_wantsLetters 90 = .ok (.iinc 7 1, 3) := by decide +kernel
theorem dX11_wantsLetters_93 : decode cX11_wantsLetters 93 = .ok (.goto (-24), 3) := by decide +kernel
theorem dX11_wantsLetters_96 : decode cX11_wantsLetters 96 = .ok (.iload 7, 2) := by decide +kernel
theorem dX11_wantsLetters_98 : decode cX11_wantsLetters 98 = .ok (.aload_n 0, 1) := by decide +kernel
theorem dX11_wantsLetters_99 : decode cX11_wantsLetters 99 = .ok (.getfield 103, 3) := by decide +kernel
theorem dX11_wantsLetters_102 : decode cX11_wantsLetters 102 = .ok (.if_icmp .eq 15, 3) := by decide +kernel
theorem dX11_wantsLetters_105 : decode cX11_wantsLetters 105 = .ok (.aload_n 0, 1) := by decide +kernel
theorem dX11_wantsLetters_106 : decode cX11_wantsLetters 106 = .ok (.iload_n 1, 1) := by decide +kernel
theorem dX11_wantsLetters_107 : decode cX11_wantsLetters 107 = .ok (.iload 7, 2) := by decide +kernel
theorem dX11_wantsLetters_109 : decode cX11_wantsLetters 109 = .ok (.invokevirtual 148, 3) := by decide +kernel
theorem dX11_wantsLetters_112 : decode cX11_wantsLetters 112 = .ok (.bipush 47, 2) := by decide +kernel
theorem dX11_wantsLetters_114 : decode cX11_wantsLetters 114 = .ok (.if_icmp .ne 7, 3) := by decide +kernel
theorem dX11_wantsLetters_117 : decode cX11_wantsLetters 117 = .ok (.iconst 1, 1) := by decide +kernel
theorem dX11_wantsLetters_118 : decode cX11_wantsLetters 118 = .ok (.goto 4, 3) := by decide +kernel
theorem dX11_wantsLetters_121 : decode cX11_wantsLetters 121 = .ok (.iconst 0, 1) := by decide +kernel
theorem dX11_wantsLetters_122 : decode cX11_wantsLetters 122 = .ok (.istore 8, 2) := by decide +kernel
theorem dX11_wantsLetters_124 : decode cX11_wantsLetters 124 = .ok (.iload 4, 2) := by decide +kernel
theorem dX11_wantsLetters_126 : decode cX11_wantsLetters 126 = .ok (.bipush 32, 2) := by decide +kernel
theorem dX11_wantsLetters_128 : decode cX11_wantsLetters 128 = .ok (.if_icmp .ne 32, 3) := by decide +kernel
theorem dX11_wantsLetters_131 : decode cX11_wantsLetters 131 = .ok (.iload_n 2, 1) := by decide +kernel
theorem dX11_wantsLetters_132 : decode cX11_wantsLetters 132 = .ok (.ifCond .ne 8, 3) := by decide +kernel
theorem dX11_wantsLetters_135 : decode cX11_wantsLetters 135 = .ok (.iload 5, 2) := by decide +kernel
theorem dX11_wantsLetters_137 : decode cX11_wantsLetters 137 = .ok (.ifCond .ne 13, 3) := by decide +kernel
theorem dX11_wantsLetters_140 : decode cX11_wantsLetters 140 = .ok (.iload_n 2, 1) := by decide +kernel
theorem dX11_wantsLetters_141 : decode cX11_wantsLetters 141 = .ok (.iconst 1, 1) := by decide +kernel
theorem dX11_wantsLetters_142 : decode cX11_wantsLetters 142 = .ok (.if_icmp .ne 18, 3) := by decide +kernel
theorem dX11_wantsLetters_145 : decode cX11_wantsLetters 145 = .ok (.iload 8, 2) := by decide +kernel
theorem dX11_wantsLetters_147 : decode cX11_wantsLetters 147 = .ok (.ifCond .eq 13, 3) := by decide +kernel
theorem dX11_wantsLetters_150 : decode cX11_wantsLetters 150 = .ok (.aload_n 0, 1) := by decide +kernel
theorem dX11_wantsLetters_151 : decode cX11_wantsLetters 151 = .ok (.iload_n 1, 1) := by decide +kernel
theorem dX11_wantsLetters_152 : decode cX11_wantsLetters 152 = .ok (.iload_n 3, 1) := by decide +kernel
theorem dX11_wantsLetters_153 : decode cX11_wantsLetters 153 = .ok (.iconst 0, 1) := by decide +kernel
theorem dX11_wantsLetters_154 : decode cX11_wantsLetters 154 = .ok (.invokevirtual 151, 3) := by decide +kernel
theorem dX11_wantsLetters_157 : decode cX11_wantsLetters 157 = .ok (.goto 38, 3) := by decide +kernel
theorem dX11_wantsLetters_160 : decode cX11_wantsLetters 160 = .ok (.iload_n 2, 1) := by decide +kernel
theorem dX11_wantsLetters_161 : decode cX11_wantsLetters 161 = .ok (.iconst 2, 1) := by decide +kernel
theorem dX11_wantsLetters_162 : decode cX11_wantsLetters 162 = .ok (.if_icmp .ne 33, 3) := by decide +kernel
theorem dX11_wantsLetters_165 : decode cX11_wantsLetters 165 = .ok (.iload 6, 2) := by decide +kernel
theorem dX11_wantsLetters_167 : decode cX11_wantsLetters 167 = .ok (.ifCond .eq 28, 3) := by decide +kernel
theorem dX11_wantsLetters_170 : decode cX11_wantsLetters 170 = .ok (.iload 4, 2) := by decide +kernel
theorem dX11_wantsLetters_172 : decode cX11_wantsLetters 172 = .ok (.bipush 97, 2) := by decide +kernel
theorem dX11_wantsLetters_174 : decode cX11_wantsLetters 174 = .ok (.if_icmp .lt 21, 3) := by decide +kernel
theorem dX11_wantsLetters_177 : decode cX11_wantsLetters 177 = .ok (.iload 4, 2) := by decide +kernel
theorem dX11_wantsLetters_179 : decode cX11_wantsLetters 179 = .ok (.bipush 122, 2) := by decide +kernel
theorem dX11_wantsLetters_181 : decode cX11_wantsLetters 181 = .ok (.if_icmp .gt 14, 3) := by decide +kernel
theorem dX11_wantsLetters_184 : decode cX11_wantsLetters 184 = .ok (.aload_n 0, 1) := by decide +kernel
theorem dX11_wantsLetters_185 : decode cX11_wantsLetters 185 = .ok (.iload_n 1, 1) := by decide +kernel
theorem dX11_wantsLetters_186 : decode cX11_wantsLetters 186 = .ok (.iload_n 3, 1) := by decide +kernel
theorem dX11_wantsLetters_187 : decode cX11_wantsLetters 187 = .ok (.iload 4, 2) := by decide +kernel
theorem dX11_wantsLetters_189 : decode cX11_wantsLetters 189 = .ok (.bipush 32, 2) := by decide +kernel
theorem dX11_wantsLetters_191 : decode cX11_wantsLetters 191 = .ok (.isub, 1) := by decide +kernel
theorem dX11_wantsLetters_192 : decode cX11_wantsLetters 192 = .ok (.invokevirtual 151, 3) := by decide +kernel
theorem dX11_wantsLetters_195 : decode cX11_wantsLetters 195 = .ok (.iinc 3 1, 3) := by decide +kernel
theorem dX11_wantsLetters_198 : decode cX11_wantsLetters 198 = .ok (.goto (-196), 3) := by decide +kernel
theorem dX11_wantsLetters_201 : decode cX11_wantsLetters 201 = .ok (.return_, 1) := by decide +kernel
theorem dX11_wantsLines_0 : decode cX11_wantsLines 0 = .ok (.iconst 0, 1) := by decide +kernel
theorem dX11_wantsLines_1 : decode cX11_wantsLines 1 = .ok (.istore_n 3, 1) := by decide +kernel
theorem dX11_wantsLines_2 : decode cX11_wantsLines 2 = .ok (.iload_n 3, 1) := by decide +kernel
theorem dX11_wantsLines_3 : decode cX11_wantsLines 3 = .ok (.aload_n 0, 1) := by decide +kernel
theorem dX11_wantsLines_4 : decode cX11_wantsLines 4 = .ok (.getfield 103, 3) := by decide +kernel
theorem dX11_wantsLines_7 : decode cX11_wantsLines 7 = .ok (.if_icmp .ge 94, 3) := by decide +kernel
theorem dX11_wantsLines_10 : decode cX11_wantsLines 10 = .ok (.aload_n 0, 1) := by decide +kernel
theorem dX11_wantsLines_11 : decode cX11_wantsLines 11 = .ok (.iload_n 1, 1) := by decide +kernel
theorem dX11_wantsLines_12 : decode cX11_wantsLines 12 = .ok (.iload_n 3, 1) := by decide +kernel
theorem dX11_wantsLines_13 : decode cX11_wantsLines 13 = .ok (.invokevirtual 155, 3) := by decide +kernel
theorem dX11_wantsLines_16 : decode cX11_wantsLines 16 = .ok (.istore 4, 2) := by decide +kernel
theorem dX11_wantsLines_18 : decode cX11_wantsLines 18 = .ok (.iconst (-1), 1) := by decide +kernel
theorem dX11_wantsLines_19 : decode cX11_wantsLines 19 = .ok (.istore 5, 2) := by decide +kernel
theorem dX11_wantsLines_21 : decode cX11_wantsLines 21 = .ok (.iload_n 3, 1) := by decide +kernel
theorem dX11_wantsLines_22 : decode cX11_wantsLines 22 = .ok (.istore 6, 2) := by decide +kernel
theorem dX11_wantsLines_24 : decode cX11_wantsLines 24 = .ok (.iload 6, 2) := by decide +kernel
theorem dX11_wantsLines_26 : decode cX11_wantsLines 26 = .ok (.iload_n 3, 1) := by decide +kernel
theorem dX11_wantsLines_27 : decode cX11_wantsLines 27 = .ok (.iload_n 2, 1) := by decide +kernel
theorem dX11_wantsLines_28 : decode cX11_wantsLines 28 = .ok (.iadd, 1) := by decide +kernel
theorem dX11_wantsLines_29 : decode cX11_wantsLines 29 = .ok (.if_icmp .gt 38, 3) := by decide +kernel
theorem dX11_wantsLines_32 : decode cX11_wantsLines 32 = .ok (.iload 4, 2) := by decide +kernel
theorem dX11_wantsLines_34 : decode cX11_wantsLines 34 = .ok (.iload_n 3, 1) := by decide +kernel
theorem dX11_wantsLines_35 : decode cX11_wantsLines 35 = .ok (.isub, 1) := by decide +kernel
theorem dX11_wantsLines_36 : decode cX11_wantsLines 36 = .ok (.iload_n 2, 1) := by decide +kernel
theorem dX11_wantsLines_37 : decode cX11_wantsLines 37 = .ok (.if_icmp .le 30, 3) := by decide +kernel
theorem dX11_wantsLines_40 : decode cX11_wantsLines 40 = .ok (.aload_n 0, 1) := by decide +kernel
theorem dX11_wantsLines_41 : decode cX11_wantsLines 41 = .ok (.iload_n 1, 1) := by decide +kernel
theorem dX11_wantsLines_42 : decode cX11_wantsLines 42 = .ok (.iload 6, 2) := by decide +kernel
theorem dX11_wantsLines_44 : decode cX11_wantsLines 44 = .ok (.invokevirtual 148, 3) := by decide +kernel
theorem dX11_wantsLines_47 : decode cX11_wantsLines 47 = .ok (.bipush 32, 2) := by decide +kernel
theorem dX11_wantsLines_49 : decode cX11_wantsLines 49 = .ok (.if_icmp .ne 8, 3) := by decide +kernel
theorem dX11_wantsLines_52 : decode cX11_wantsLines 52 = .ok (.iload 6, 2) := by decide +kernel
theorem dX11_wantsLines_54 : decode cX11_wantsLines 54 = .ok (.goto 5, 3) := by decide +kernel
theorem dX11_wantsLines_57 : decode cX11_wantsLines 57 = .ok (.iload 5, 2) := by decide +kernel
theorem dX11_wantsLines_59 : decode cX11_wantsLines 59 = .ok (.istore 5, 2) := by decide +kernel
theorem dX11_wantsLines_61 : decode cX11_wantsLines 61 = .ok (.iinc 6 1, 3) := by decide +kernel
theorem dX11_wantsLines_64 : decode cX11_wantsLines 64 = .ok (.goto (-40), 3) := by decide +kernel
theorem dX11_wantsLines_67 : decode cX11_wantsLines 67 = .ok (.iload 5, 2) := by decide +kernel
theorem dX11_wantsLines_69 : decode cX11_wantsLines 69 = .ok (.ifCond .lt 12, 3) := by decide +kernel
theorem dX11_wantsLines_72 : decode cX11_wantsLines 72 = .ok (.aload_n 0, 1) := by decide +kernel
theorem dX11_wantsLines_73 : decode cX11_wantsLines 73 = .ok (.iload_n 1, 1) := by decide +kernel
theorem dX11_wantsLines_74 : decode cX11_wantsLines 74 = .ok (.iload 5, 2) := by decide +kernel
theorem dX11_wantsLines_76 : decode cX11_wantsLines 76 = .ok (.bipush 47, 2) := by decide +kernel
theorem dX11_wantsLines_78 : decode cX11_wantsLines 78 = .ok (.invokevirtual 151, 3) := by decide +kernel
theorem dX11_wantsLines_81 : decode cX11_wantsLines 81 = .ok (.iload 5, 2) := by decide +kernel
theorem dX11_wantsLines_83 : decode cX11_wantsLines 83 = .ok (.ifCond .lt 10, 3) := by decide +kernel
theorem dX11_wantsLines_86 : decode cX11_wantsLines 86 = .ok (.iload 5, 2) := by decide +kernel
theorem dX11_wantsLines_88 : decode cX11_wantsLines 88 = .ok (.iconst 1, 1) := by decide +kernel
theorem dX11_wantsLines_89 : decode cX11_wantsLines 89 = .ok (.iadd, 1) := by decide +kernel
theorem dX11_wantsLines_90 : decode cX11_wantsLines 90 = .ok (.goto 7, 3) := by decide +kernel
theorem dX11_wantsLines_93 : decode cX11_wantsLines 93 = .ok (.iload 4, 2) := by decide +kernel
theorem dX11_wantsLines_95 : decode cX11_wantsLines 95 = .ok (.iconst 1, 1) := by decide +kernel
theorem dX11_wantsLines_96 : decode cX11_wantsLines 96 = .ok (.iadd, 1) := by decide +kernel
theorem dX11_wantsLines_97 : decode cX11_wantsLines 97 = .ok (.istore_n 3, 1) := by decide +kernel
theorem dX11_wantsLines_98 : decode cX11_wantsLines 98 = .ok (.goto (-96), 3) := by decide +kernel
theorem dX11_wantsLines_101 : decode cX11_wantsLines 101 = .ok (.return_, 1) := by decide +kernel
theorem dX11_marks_0 : decode cX11_marks 0 = .ok (.iconst 0, 1) := by decide +kernel
theorem dX11_marks_1 : decode cX11_marks 1 = .ok (.istore_n 2, 1) := by decide +kernel
theorem dX11_marks_2 : decode cX11_marks 2 = .ok (.iload_n 2, 1) := by decide +kernel
theorem dX11_marks_3 : decode cX11_marks 3 = .ok (.sipush 150, 3) := by decide +kernel
theorem dX11_marks_6 : decode cX11_marks 6 = .ok (.if_icmp .ge 16, 3) := by decide +kernel
theorem dX11_marks_9 : decode cX11_marks 9 = .ok (.aload_n 0, 1) := by decide +kernel
theorem dX11_marks_10 : decode cX11_marks 10 = .ok (.getfield 92, 3) := by decide +kernel
theorem dX11_marks_13 : decode cX11_marks 13 = .ok (.iload_n 2, 1) := by decide +kernel
theorem dX11_marks_14 : decode cX11_marks 14 = .ok (.iconst 0, 1) := by decide +kernel
theorem dX11_marks_15 : decode cX11_marks 15 = .ok (.bastore, 1) := by decide +kernel
theorem dX11_marks_16 : decode cX11_marks 16 = .ok (.iinc 2 1, 3) := by decide +kernel
theorem dX11_marks_19 : decode cX11_marks 19 = .ok (.goto (-17), 3) := by decide +kernel
theorem dX11_marks_22 : decode cX11_marks 22 = .ok (.iconst 0, 1) := by decide +kernel
theorem dX11_marks_23 : decode cX11_marks 23 = .ok (.istore_n 2, 1) := by decide +kernel
theorem dX11_marks_24 : decode cX11_marks 24 = .ok (.iload_n 2, 1) := by decide +kernel
theorem dX11_marks_25 : decode cX11_marks 25 = .ok (.aload_n 0, 1) := by decide +kernel
theorem dX11_marks_26 : decode cX11_marks 26 = .ok (.getfield 44, 3) := by decide +kernel
theorem dX11_marks_29 : decode cX11_marks 29 = .ok (.iload_n 1, 1) := by decide +kernel
theorem dX11_marks_30 : decode cX11_marks 30 = .ok (.iaload, 1) := by decide +kernel
theorem dX11_marks_31 : decode cX11_marks 31 = .ok (.if_icmp .ge 42, 3) := by decide +kernel
theorem dX11_marks_34 : decode cX11_marks 34 = .ok (.aload_n 0, 1) := by decide +kernel
theorem dX11_marks_35 : decode cX11_marks 35 = .ok (.getfield 56, 3) := by decide +kernel
theorem dX11_marks_38 : decode cX11_marks 38 = .ok (.sipush 150, 3) := by decide +kernel
theorem dX11_marks_41 : decode cX11_marks 41 = .ok (.iload_n 1, 1) := by decide +kernel
theorem dX11_marks_42 : decode cX11_marks 42 = .ok (.imul, 1) := by decide +kernel
theorem dX11_marks_43 : decode cX11_marks 43 = .ok (.iload_n 2, 1) := by decide +kernel
theorem dX11_marks_44 : decode cX11_marks 44 = .ok (.iadd, 1) := by decide +kernel
theorem dX11_marks_45 : decode cX11_marks 45 = .ok (.iaload, 1) := by decide +kernel
theorem dX11_marks_46 : decode cX11_marks 46 = .ok (.ifCond .ne 21, 3) := by decide +kernel
theorem dX11_marks_49 : decode cX11_marks 49 = .ok (.aload_n 0, 1) := by decide +kernel
theorem dX11_marks_50 : decode cX11_marks 50 = .ok (.getfield 92, 3) := by decide +kernel
theorem dX11_marks_53 : decode cX11_marks 53 = .ok (.aload_n 0, 1) := by decide +kernel
theorem dX11_marks_54 : decode cX11_marks 54 = .ok (.getfield 50, 3) := by decide +kernel
theorem dX11_marks_57 : decode cX11_marks 57 = .ok (.sipush 150, 3) := by decide +kernel
theorem dX11_marks_60 : decode cX11_marks 60 = .ok (.iload_n 1, 1) := by decide +kernel
theorem dX11_marks_61 : decode cX11_marks 61 = .ok (.imul, 1) := by decide +kernel
theorem dX11_marks_62 : decode cX11_marks 62 = .ok (.iload_n 2, 1) := by decide +kernel
theorem dX11_marks_63 : decode cX11_marks 63 = .ok (.iadd, 1) := by decide +kernel
theorem dX11_marks_64 : decode cX11_marks 64 = .ok (.iaload, 1) := by decide +kernel
theorem dX11_marks_65 : decode cX11_marks 65 = .ok (.iconst 1, 1) := by decide +kernel
theorem dX11_marks_66 : decode cX11_marks 66 = .ok (.bastore, 1) := by decide +kernel
theorem dX11_marks_67 : decode cX11_marks 67 = .ok (.iinc 2 1, 3) := by decide +kernel
theorem dX11_marks_70 : decode cX11_marks 70 = .ok (.goto (-46), 3) := by decide +kernel
theorem dX11_marks_73 : decode cX11_marks 73 = .ok (.return_, 1) := by decide +kernel
theorem dX11_nearest_0 : decode cX11_nearest 0 = .ok (.aload_n 0, 1) := by decide +kernel
theorem dX11_nearest_1 : decode cX11_nearest 1 = .ok (.iload_n 1, 1) := by decide +kernel
theorem dX11_nearest_2 : decode cX11_nearest 2 = .ok (.iload_n 2, 1) := by decide +kernel
theorem dX11_nearest_3 : decode cX11_nearest 3 = .ok (.invokevirtual 106, 3) := by decide +kernel
theorem dX11_nearest_6 : decode cX11_nearest 6 = .ok (.iload_n 3, 1) := by decide +kernel
theorem dX11_nearest_7 : decode cX11_nearest 7 = .ok (.iadd, 1) := by decide +kernel
theorem dX11_nearest_8 : decode cX11_nearest 8 = .ok (.istore 4, 2) := by decide +kernel
theorem dX11_nearest_10 : decode cX11_nearest 10 = .ok (.iload 4, 2) := by decide +kernel
theorem dX11_nearest_12 : decode cX11_nearest 12 = .ok (.ifCond .lt 67, 3) := by decide +kernel
theorem dX11_nearest_15 : decode cX11_nearest 15 = .ok (.iload 4, 2) := by decide +kernel
theorem dX11_nearest_17 : decode cX11_nearest 17 = .ok (.aload_n 0, 1) := by decide +kernel
theorem dX11_nearest_18 : decode cX11_nearest 18 = .ok (.getfield 20, 3) := by decide +kernel
theorem dX11_nearest_21 : decode cX11_nearest 21 = .ok (.iload_n 1, 1) := by decide +kernel
theorem dX11_nearest_22 : decode cX11_nearest 22 = .ok (.iaload, 1) := by decide +kernel
theorem dX11_nearest_23 : decode cX11_nearest 23 = .ok (.if_icmp .ge 56, 3) := by decide +kernel
theorem dX11_nearest_26 : decode cX11_nearest 26 = .ok (.aload_n 0, 1) := by decide +kernel
theorem dX11_nearest_27 : decode cX11_nearest 27 = .ok (.getfield 7, 3) := by decide +kernel
theorem dX11_nearest_30 : decode cX11_nearest 30 = .ok (.sipush 150, 3) := by decide +kernel
theorem dX11_nearest_33 : decode cX11_nearest 33 = .ok (.iload_n 1, 1) := by decide +kernel
theorem dX11_nearest_34 : decode cX11_nearest 34 = .ok (.imul, 1) := by decide +kernel
theorem dX11_nearest_35 : decode cX11_nearest 35 = .ok (.iload 4, 2) := by decide +kernel
theorem dX11_nearest_37 : decode cX11_nearest 37 = .ok (.iadd, 1) := by decide +kernel
theorem dX11_nearest_38 : decode cX11_nearest 38 = .ok (.iaload, 1) := by decide +kernel
theorem dX11_nearest_39 : decode cX11_nearest 39 = .ok (.istore 5, 2) := by decide +kernel
theorem dX11_nearest_41 : decode cX11_nearest 41 = .ok (.aload_n 0, 1) := by decide +kernel
theorem dX11_nearest_42 : decode cX11_nearest 42 = .ok (.getfield 16, 3) := by decide +kernel
theorem dX11_nearest_45 : decode cX11_nearest 45 = .ok (.sipush 150, 3) := by decide +kernel
theorem dX11_nearest_48 : decode cX11_nearest 48 = .ok (.iload_n 1, 1) := by decide +kernel
theorem dX11_nearest_49 : decode cX11_nearest 49 = .ok (.imul, 1) := by decide +kernel
theorem dX11_nearest_50 : decode cX11_nearest 50 = .ok (.iload 5, 2) := by decide +kernel
theorem dX11_nearest_52 : decode cX11_nearest 52 = .ok (.iadd, 1) := by decide +kernel
theorem dX11_nearest_53 : decode cX11_nearest 53 = .ok (.baload, 1) := by decide +kernel
theorem dX11_nearest_54 : decode cX11_nearest 54 = .ok (.ifCond .eq 16, 3) := by decide +kernel
theorem dX11_nearest_57 : decode cX11_nearest 57 = .ok (.aload_n 0, 1) := by decide +kernel
theorem dX11_nearest_58 : decode cX11_nearest 58 = .ok (.getfield 92, 3) := by decide +kernel
theorem dX11_nearest_61 : decode cX11_nearest 61 = .ok (.iload 5, 2) := by decide +kernel
theorem dX11_nearest_63 : decode cX11_nearest 63 = .ok (.baload, 1) := by decide +kernel
theorem dX11_nearest_64 : decode cX11_nearest 64 = .ok (.ifCond .ne 6, 3) := by decide +kernel
theorem dX11_nearest_67 : decode cX11_nearest 67 = .ok (.iload 5, 2) := by decide +kernel
theorem dX11_nearest_69 : decode cX11_nearest 69 = .ok (.ireturn, 1) := by decide +kernel
theorem dX11_nearest_70 : decode cX11_nearest 70 = .ok (.iload 4, 2) := by decide +kernel
theorem dX11_nearest_72 : decode cX11_nearest 72 = .ok (.iload_n 3, 1) := by decide +kernel
theorem dX11_nearest_73 : decode cX11_nearest 73 = .ok (.iadd, 1) := by decide +kernel
theorem dX11_nearest_74 : decode cX11_nearest 74 = .ok (.istore 4, 2) := by decide +kernel
theorem dX11_nearest_76 : decode cX11_nearest 76 = .ok (.goto (-66), 3) := by decide +kernel
theorem dX11_nearest_79 : decode cX11_nearest 79 = .ok (.iconst (-1), 1) := by decide +kernel
theorem dX11_nearest_80 : decode cX11_nearest 80 = .ok (.ireturn, 1) := by decide +kernel
theorem dX11_ask_0 : decode cX11_ask 0 = .ok (.iload_n 1, 1) := by decide +kernel
theorem dX11_ask_1 : decode cX11_ask 1 = .ok (.invokestatic 139, 3) := by decide +kernel
theorem dX11_ask_4 : decode cX11_ask 4 = .ok (.istore 4, 2) := by decide +kernel
theorem dX11_ask_6 : decode cX11_ask 6 = .ok (.iload_n 2, 1) := by decide +kernel
theorem dX11_ask_7 : decode cX11_ask 7 = .ok (.iconst 3, 1) := by decide +kernel
theorem dX11_ask_8 : decode cX11_ask 8 = .ok (.if_icmp .ne 22, 3) := by decide +kernel
theorem dX11_ask_11 : decode cX11_ask 11 = .ok (.iload_n 3, 1) := by decide +kernel
theorem dX11_ask_12 : decode cX11_ask 12 = .ok (.iconst 5, 1) := by decide +kernel
theorem dX11_ask_13 : decode cX11_ask 13 = .ok (.if_icmp .lt 13, 3) := by decide +kernel
theorem dX11_ask_16 : decode cX11_ask 16 = .ok (.iload_n 3, 1) := by decide +kernel
theorem dX11_ask_17 : decode cX11_ask 17 = .ok (.bipush 40, 2) := by decide +kernel
theorem dX11_ask_19 : decode cX11_ask 19 = .ok (.if_icmp .gt 7, 3) := by decide +kernel
theorem dX11_ask_22 : decode cX11_ask 22 = .ok (.iconst 1, 1) := by decide +kernel
theorem dX11_ask_23 : decode cX11_ask 23 = .ok (.goto 25, 3) := by decide +kernel
theorem dX11_ask_26 : decode cX11_ask 26 = .ok (.iconst 0, 1) := by decide +kernel
theorem dX11_ask_27 : decode cX11_ask 27 = .ok (.goto 21, 3) := by decide +kernel
theorem dX11_ask_30 : decode cX11_ask 30 = .ok (.iload_n 2, 1) := by decide +kernel
theorem dX11_ask_31 : decode cX11_ask 31 = .ok (.ifCond .lt 16, 3) := by decide +kernel
theorem dX11_ask_34 : decode cX11_ask 34 = .ok (.iload_n 2, 1) := by decide +kernel
theorem dX11_ask_35 : decode cX11_ask 35 = .ok (.iconst 3, 1) := by decide +kernel
theorem dX11_ask_36 : decode cX11_ask 36 = .ok (.if_icmp .ge 11, 3) := by decide +kernel
theorem dX11_ask_39 : decode cX11_ask 39 = .ok (.iload_n 3, 1) := by decide +kernel
theorem dX11_ask_40 : decode cX11_ask 40 = .ok (.ifCond .ne 7, 3) := by decide +kernel
theorem dX11_ask_43 : decode cX11_ask 43 = .ok (.iconst 1, 1) := by decide +kernel
theorem dX11_ask_44 : decode cX11_ask 44 = .ok (.goto 4, 3) := by decide +kernel
theorem dX11_ask_47 : decode cX11_ask 47 = .ok (.iconst 0, 1) := by decide +kernel
theorem dX11_ask_48 : decode cX11_ask 48 = .ok (.istore 5, 2) := by decide +kernel
theorem dX11_ask_50 : decode cX11_ask 50 = .ok (.aload_n 0, 1) := by decide +kernel
theorem dX11_ask_51 : decode cX11_ask 51 = .ok (.iload 4, 2) := by decide +kernel
theorem dX11_ask_53 : decode cX11_ask 53 = .ok (.iload 5, 2) := by decide +kernel
theorem dX11_ask_55 : decode cX11_ask 55 = .ok (.aload_n 0, 1) := by decide +kernel
theorem dX11_ask_56 : decode cX11_ask 56 = .ok (.getfield 145, 3) := by decide +kernel
theorem dX11_ask_59 : decode cX11_ask 59 = .ok (.bipush 60, 2) := by decide +kernel
theorem dX11_ask_61 : decode cX11_ask 61 = .ok (.if_icmp .ge 7, 3) := by decide +kernel
theorem dX11_ask_64 : decode cX11_ask 64 = .ok (.iconst 1, 1) := by decide +kernel
theorem dX11_ask_65 : decode cX11_ask 65 = .ok (.goto 4, 3) := by decide +kernel
theorem dX11_ask_68 : decode cX11_ask 68 = .ok (.iconst 0, 1) := by decide +kernel
theorem dX11_ask_69 : decode cX11_ask 69 = .ok (.invokevirtual 117, 3) := by decide +kernel
theorem dX11_ask_72 : decode cX11_ask 72 = .ok (.ifCond .ne 5, 3) := by decide +kernel
theorem dX11_ask_75 : decode cX11_ask 75 = .ok (.iconst 0, 1) := by decide +kernel
theorem dX11_ask_76 : decode cX11_ask 76 = .ok (.ireturn, 1) := by decide +kernel
theorem dX11_ask_77 : decode cX11_ask 77 = .ok (.aload_n 0, 1) := by decide +kernel
theorem dX11_ask_78 : decode cX11_ask 78 = .ok (.getfield 38, 3) := by decide +kernel
theorem dX11_ask_81 : decode cX11_ask 81 = .ok (.aload_n 0, 1) := by decide +kernel
theorem dX11_ask_82 : decode cX11_ask 82 = .ok (.getfield 145, 3) := by decide +kernel
theorem dX11_ask_85 : decode cX11_ask 85 = .ok (.iload_n 1, 1) := by decide +kernel
theorem dX11_ask_86 : decode cX11_ask 86 = .ok (.iastore, 1) := by decide +kernel
theorem dX11_ask_87 : decode cX11_ask 87 = .ok (.aload_n 0, 1) := by decide +kernel
theorem dX11_ask_88 : decode cX11_ask 88 = .ok (.getfield 41, 3) := by decide +kernel
theorem dX11_ask_91 : decode cX11_ask 91 = .ok (.aload_n 0, 1) := by decide +kernel
theorem dX11_ask_92 : decode cX11_ask 92 = .ok (.getfield 145, 3) := by decide +kernel
theorem dX11_ask_95 : decode cX11_ask 95 = .ok (.iconst 0, 1) := by decide +kernel
theorem dX11_ask_96 : decode cX11_ask 96 = .ok (.iastore, 1) := by decide +kernel
theorem dX11_ask_97 : decode cX11_ask 97 = .ok (.aload_n 0, 1) := by decide +kernel
theorem dX11_ask_98 : decode cX11_ask 98 = .ok (.getfield 44, 3) := by decide +kernel
theorem dX11_ask_101 : decode cX11_ask 101 = .ok (.aload_n 0, 1) := by decide +kernel
theorem dX11_ask_102 : decode cX11_ask 102 = .ok (.getfield 145, 3) := by decide +kernel
theorem dX11_ask_105 : decode cX11_ask 105 = .ok (.iconst 0, 1) := by decide +kernel
theorem dX11_ask_106 : decode cX11_ask 106 = .ok (.iastore, 1) := by decide +kernel
theorem dX11_ask_107 : decode cX11_ask 107 = .ok (.aload_n 0, 1) := by decide +kernel
theorem dX11_ask_108 : decode cX11_ask 108 = .ok (.iload_n 1, 1) := by decide +kernel
theorem dX11_ask_109 : decode cX11_ask 109 = .ok (.invokevirtual 128, 3) := by decide +kernel
theorem dX11_ask_112 : decode cX11_ask 112 = .ok (.iload_n 2, 1) := by decide +kernel
theorem dX11_ask_113 : decode cX11_ask 113 = .ok (.iconst 3, 1) := by decide +kernel
theorem dX11_ask_114 : decode cX11_ask 114 = .ok (.if_icmp .ne 12, 3) := by decide +kernel
theorem dX11_ask_117 : decode cX11_ask 117 = .ok (.aload_n 0, 1) := by decide +kernel
theorem dX11_ask_118 : decode cX11_ask 118 = .ok (.iload_n 1, 1) := by decide +kernel
theorem dX11_ask_119 : decode cX11_ask 119 = .ok (.iload_n 3, 1) := by decide +kernel
theorem dX11_ask_120 : decode cX11_ask 120 = .ok (.invokevirtual 158, 3) := by decide +kernel
theorem dX11_ask_123 : decode cX11_ask 123 = .ok (.goto 9, 3) := by decide +kernel
theorem dX11_ask_126 : decode cX11_ask 126 = .ok (.aload_n 0, 1) := by decide +kernel
theorem dX11_ask_127 : decode cX11_ask 127 = .ok (.iload_n 1, 1) := by decide +kernel
theorem dX11_ask_128 : decode cX11_ask 128 = .ok (.iload_n 2, 1) := by decide +kernel
theorem dX11_ask_129 : decode cX11_ask 129 = .ok (.invokevirtual 161, 3) := by decide +kernel
theorem dX11_ask_132 : decode cX11_ask 132 = .ok (.aload_n 0, 1) := by decide +kernel
theorem dX11_ask_133 : decode cX11_ask 133 = .ok (.aload_n 0, 1) := by decide +kernel
theorem dX11_ask_134 : decode cX11_ask 134 = .ok (.getfield 145, 3) := by decide +kernel
theorem dX11_ask_137 : decode cX11_ask 137 = .ok (.invokevirtual 164, 3) := by decide +kernel
theorem dX11_ask_140 : decode cX11_ask 140 = .ok (.iconst 0, 1) := by decide +kernel
theorem dX11_ask_141 : decode cX11_ask 141 = .ok (.istore 6, 2) := by decide +kernel
theorem dX11_ask_143 : decode cX11_ask 143 = .ok (.iload 6, 2) := by decide +kernel
theorem dX11_ask_145 : decode cX11_ask 145 = .ok (.aload_n 0, 1) := by decide +kernel
theorem dX11_ask_146 : decode cX11_ask 146 = .ok (.getfield 44, 3) := by decide +kernel
theorem dX11_ask_149 : decode cX11_ask 149 = .ok (.aload_n 0, 1) := by decide +kernel
theorem dX11_ask_150 : decode cX11_ask 150 = .ok (.getfield 145, 3) := by decide +kernel
theorem dX11_ask_153 : decode cX11_ask 153 = .ok (.iaload, 1) := by decide +kernel
theorem dX11_ask_154 : decode cX11_ask 154 = .ok (.if_icmp .ge 62, 3) := by decide +kernel
theorem dX11_ask_157 : decode cX11_ask 157 = .ok (.sipush 150, 3) := by decide +kernel
theorem dX11_ask_160 : decode cX11_ask 160 = .ok (.aload_n 0, 1) := by decide +kernel
theorem dX11_ask_161 : decode cX11_ask 161 = .ok (.getfield 145, 3) := by decide +kernel
theorem dX11_ask_164 : decode cX11_ask 164 = .ok (.imul, 1) := by decide +kernel
theorem dX11_ask_165 : decode cX11_ask 165 = .ok (.iload 6, 2) := by decide +kernel
theorem dX11_ask_167 : decode cX11_ask 167 = .ok (.iadd, 1) := by decide +kernel
theorem dX11_ask_168 : decode cX11_ask 168 = .ok (.istore 7, 2) := by decide +kernel
theorem dX11_ask_170 : decode cX11_ask 170 = .ok (.aload_n 0, 1) := by decide +kernel
theorem dX11_ask_171 : decode cX11_ask 171 = .ok (.getfield 59, 3) := by decide +kernel
theorem dX11_ask_174 : decode cX11_ask 174 = .ok (.iload 7, 2) := by decide +kernel
theorem dX11_ask_176 : decode cX11_ask 176 = .ok (.aload_n 0, 1) := by decide +kernel
theorem dX11_ask_177 : decode cX11_ask 177 = .ok (.iload_n 1, 1) := by decide +kernel
theorem dX11_ask_178 : decode cX11_ask 178 = .ok (.aload_n 0, 1) := by decide +kernel
theorem dX11_ask_179 : decode cX11_ask 179 = .ok (.getfield 50, 3) := by decide +kernel
theorem dX11_ask_182 : decode cX11_ask 182 = .ok (.iload 7, 2) := by decide +kernel
theorem dX11_ask_184 : decode cX11_ask 184 = .ok (.iaload, 1) := by decide +kernel
theorem dX11_ask_185 : decode cX11_ask 185 = .ok (.iconst (-1), 1) := by decide +kernel
theorem dX11_ask_186 : decode cX11_ask 186 = .ok (.invokevirtual 167, 3) := by decide +kernel
theorem dX11_ask_189 : decode cX11_ask 189 = .ok (.iastore, 1) := by decide +kernel
theorem dX11_ask_190 : decode cX11_ask 190 = .ok (.aload_n 0, 1) := by decide +kernel
theorem dX11_ask_191 : decode cX11_ask 191 = .ok (.getfield 62, 3) := by decide +kernel
theorem dX11_ask_194 : decode cX11_ask 194 = .ok (.iload 7, 2) := by decide +kernel
theorem dX11_ask_196 : decode cX11_ask 196 = .ok (.aload_n 0, 1) := by decide +kernel
theorem dX11_ask_197 : decode cX11_ask 197 = .ok (.iload_n 1, 1) := by decide +kernel
theorem dX11_ask_198 : decode cX11_ask 198 = .ok (.aload_n 0, 1) := by decide +kernel
theorem dX11_ask_199 : decode cX11_ask 199 = .ok (.getfield 50, 3) := by decide +kernel
theorem dX11_ask_202 : decode cX11_ask 202 = .ok (.iload 7, 2) := by decide +kernel
theorem dX11_ask_204 : decode cX11_ask 204 = .ok (.iaload, 1) := by decide +kernel
theorem dX11_ask_205 : decode cX11_ask 205 = .ok (.iconst 1, 1) := by decide +kernel
theorem dX11_ask_206 : decode cX11_ask 206 = .ok (.invokevirtual 167, 3) := by decide +kernel
theorem dX11_ask_209 : decode cX11_ask 209 = .ok (.iastore, 1) := by decide +kernel
theorem dX11_ask_210 : decode cX11_ask 210 = .ok (.iinc 6 1, 3) := by decide +kernel
theorem dX11_ask_213 : decode cX11_ask 213 = .ok (.goto (-70), 3) := by decide +kernel
theorem dX11_ask_216 : decode cX11_ask 216 = .ok (.aload_n 0, 1) := by decide +kernel
theorem dX11_ask_217 : decode cX11_ask 217 = .ok (.dup, 1) := by decide +kernel
theorem dX11_ask_218 : decode cX11_ask 218 = .ok (.getfield 145, 3) := by decide +kernel
theorem dX11_ask_221 : decode cX11_ask 221 = .ok (.iconst 1, 1) := by decide +kernel
theorem dX11_ask_222 : decode cX11_ask 222 = .ok (.iadd, 1) := by decide +kernel
theorem dX11_ask_223 : decode cX11_ask 223 = .ok (.putfield 145, 3) := by decide +kernel
theorem dX11_ask_226 : decode cX11_ask 226 = .ok (.aload_n 0, 1) := by decide +kernel
theorem dX11_ask_227 : decode cX11_ask 227 = .ok (.getfield 145, 3) := by decide +kernel
theorem dX11_ask_230 : decode cX11_ask 230 = .ok (.iconst 1, 1) := by decide +kernel
theorem dX11_ask_231 : decode cX11_ask 231 = .ok (.isub, 1) := by decide +kernel
theorem dX11_ask_232 : decode cX11_ask 232 = .ok (.ireturn, 1) := by decide +kernel
theorem dX11_isFormat_0 : decode cX11_isFormat 0 = .ok (.iload_n 1, 1) := by decide +kernel
theorem dX11_isFormat_1 : decode cX11_isFormat 1 = .ok (.aload_n 0, 1) := by decide +kernel
theorem dX11_isFormat_2 : decode cX11_isFormat 2 = .ok (.getfield 145, 3) := by decide +kernel
theorem dX11_isFormat_5 : decode cX11_isFormat 5 = .ok (.invokestatic 99, 3) := by decide +kernel
theorem dX11_isFormat_8 : decode cX11_isFormat 8 = .ok (.ireturn, 1) := by decide +kernel
theorem dX11_hasCursor_0 : decode cX11_hasCursor 0 = .ok (.iconst 0, 1) := by decide +kernel
theorem dX11_hasCursor_1 : decode cX11_hasCursor 1 = .ok (.istore_n 3, 1) := by decide +kernel
theorem dX11_hasCursor_2 : decode cX11_hasCursor 2 = .ok (.iconst 0, 1) := by decide +kernel
theorem dX11_hasCursor_3 : decode cX11_hasCursor 3 = .ok (.istore 4, 2) := by decide +kernel
theorem dX11_hasCursor_5 : decode cX11_hasCursor 5 = .ok (.iload 4, 2) := by decide +kernel
theorem dX11_hasCursor_7 : decode cX11_hasCursor 7 = .ok (.iconst 5, 1) := by decide +kernel
theorem dX11_hasCursor_8 : decode cX11_hasCursor 8 = .ok (.if_icmp .ge 34, 3) := by decide +kernel
theorem dX11_hasCursor_11 : decode cX11_hasCursor 11 = .ok (.iload_n 3, 1) := by decide +kernel
theorem dX11_hasCursor_12 : decode cX11_hasCursor 12 = .ok (.ifCond .ne 18, 3) := by decide +kernel
theorem dX11_hasCursor_15 : decode cX11_hasCursor 15 = .ok (.aload_n 0, 1) := by decide +kernel
theorem dX11_hasCursor_16 : decode cX11_hasCursor 16 = .ok (.getfield 26, 3) := by decide +kernel
theorem dX11_hasCursor_19 : decode cX11_hasCursor 19 = .ok (.iconst 5, 1) := by decide +kernel
theorem dX11_hasCursor_20 : decode cX11_hasCursor 20 = .ok (.iload_n 1, 1) := by decide +kernel
theorem dX11_hasCursor_21 : decode cX11_hasCursor 21 = .ok (.imul, 1) := by decide +kernel
theorem dX11_hasCursor_22 : decode cX11_hasCursor 22 = .ok (.iload 4, 2) := by decide +kernel
theorem dX11_hasCursor_24 : decode cX11_hasCursor 24 = .ok (.iadd, 1) := by decide +kernel
theorem dX11_hasCursor_25 : decode cX11_hasCursor 25 = .ok (.iaload, 1) := by decide +kernel
theorem dX11_hasCursor_26 : decode cX11_hasCursor 26 = .ok (.iload_n 2, 1) := by decide +kernel
theorem dX11_hasCursor_27 : decode cX11_hasCursor 27 = .ok (.if_icmp .ne 7, 3) := by decide +kernel
theorem dX11_hasCursor_30 : decode cX11_hasCursor 30 = .ok (.iconst 1, 1) := by decide +kernel
theorem dX11_hasCursor_31 : decode cX11_hasCursor 31 = .ok (.goto 4, 3) := by decide +kernel
theorem dX11_hasCursor_34 : decode cX11_hasCursor 34 = .ok (.iconst 0, 1) := by decide +kernel
theorem dX11_hasCursor_35 : decode cX11_hasCursor 35 = .ok (.istore_n 3, 1) := by decide +kernel
theorem dX11_hasCursor_36 : decode cX11_hasCursor 36 = .ok (.iinc 4 1, 3) := by decide +kernel
theorem dX11_hasCursor_39 : decode cX11_hasCursor 39 = .ok (.goto (-34), 3) := by decide +kernel
theorem dX11_hasCursor_42 : decode cX11_hasCursor 42 = .ok (.iload_n 3, 1) := by decide +kernel
theorem dX11_hasCursor_43 : decode cX11_hasCursor 43 = .ok (.ireturn, 1) := by decide +kernel
theorem dX11_isSpared_0 : decode cX11_isSpared 0 = .ok (.aload_n 0, 1) := by decide +kernel
theorem dX11_isSpared_1 : decode cX11_isSpared 1 = .ok (.getfield 38, 3) := by decide +kernel
theorem dX11_isSpared_4 : decode cX11_isSpared 4 = .ok (.iload_n 1, 1) := by decide +kernel
theorem dX11_isSpared_5 : decode cX11_isSpared 5 = .ok (.iaload, 1) := by decide +kernel
theorem dX11_isSpared_6 : decode cX11_isSpared 6 = .ok (.istore_n 3, 1) := by decide +kernel
theorem dX11_isSpared_7 : decode cX11_isSpared 7 = .ok (.sipush 150, 3) := by decide +kernel
theorem dX11_isSpared_10 : decode cX11_isSpared 10 = .ok (.iload_n 1, 1) := by decide +kernel
theorem dX11_isSpared_11 : decode cX11_isSpared 11 = .ok (.imul, 1) := by decide +kernel
theorem dX11_isSpared_12 : decode cX11_isSpared 12 = .ok (.iload_n 2, 1) := by decide +kernel
theorem dX11_isSpared_13 : decode cX11_isSpared 13 = .ok (.iadd, 1) := by decide +kernel
theorem dX11_isSpared_14 : decode cX11_isSpared 14 = .ok (.istore 4, 2) := by decide +kernel
theorem dX11_isSpared_16 : decode cX11_isSpared 16 = .ok (.aload_n 0, 1) := by decide +kernel
theorem dX11_isSpared_17 : decode cX11_isSpared 17 = .ok (.getfield 50, 3) := by decide +kernel
theorem dX11_isSpared_20 : decode cX11_isSpared 20 = .ok (.iload 4, 2) := by decide +kernel
theorem dX11_isSpared_22 : decode cX11_isSpared 22 = .ok (.iaload, 1) := by decide +kernel
theorem dX11_isSpared_23 : decode cX11_isSpared 23 = .ok (.istore 5, 2) := by decide +kernel
theorem dX11_isSpared_25 : decode cX11_isSpared 25 = .ok (.aload_n 0, 1) := by decide +kernel
theorem dX11_isSpared_26 : decode cX11_isSpared 26 = .ok (.getfield 16, 3) := by decide +kernel
theorem dX11_isSpared_29 : decode cX11_isSpared 29 = .ok (.sipush 150, 3) := by decide +kernel
theorem dX11_isSpared_32 : decode cX11_isSpared 32 = .ok (.iload_n 3, 1) := by decide +kernel
theorem dX11_isSpared_33 : decode cX11_isSpared 33 = .ok (.imul, 1) := by decide +kernel
theorem dX11_isSpared_34 : decode cX11_isSpared 34 = .ok (.iload 5, 2) := by decide +kernel
theorem dX11_isSpared_36 : decode cX11_isSpared 36 = .ok (.iadd, 1) := by decide +kernel
theorem dX11_isSpared_37 : decode cX11_isSpared 37 = .ok (.baload, 1) := by decide +kernel
theorem dX11_isSpared_38 : decode cX11_isSpared 38 = .ok (.ifCond .eq 26, 3) := by decide +kernel
theorem dX11_isSpared_41 : decode cX11_isSpared 41 = .ok (.aload_n 0, 1) := by decide +kernel
theorem dX11_isSpared_42 : decode cX11_isSpared 42 = .ok (.getfield 13, 3) := by decide +kernel
theorem dX11_isSpared_45 : decode cX11_isSpared 45 = .ok (.sipush 150, 3) := by decide +kernel
theorem dX11_isSpared_48 : decode cX11_isSpared 48 = .ok (.iload_n 3, 1) := by decide +kernel
theorem dX11_isSpared_49 : decode cX11_isSpared 49 = .ok (.imul, 1) := by decide +kernel
theorem dX11_isSpared_50 : decode cX11_isSpared 50 = .ok (.iload 5, 2) := by decide +kernel
theorem dX11_isSpared_52 : decode cX11_isSpared 52 = .ok (.iadd, 1) := by decide +kernel
theorem dX11_isSpared_53 : decode cX11_isSpared 53 = .ok (.iaload, 1) := by decide +kernel
theorem dX11_isSpared_54 : decode cX11_isSpared 54 = .ok (.aload_n 0, 1) := by decide +kernel
theorem dX11_isSpared_55 : decode cX11_isSpared 55 = .ok (.getfield 53, 3) := by decide +kernel
theorem dX11_isSpared_58 : decode cX11_isSpared 58 = .ok (.iload 4, 2) := by decide +kernel
theorem dX11_isSpared_60 : decode cX11_isSpared 60 = .ok (.iaload, 1) := by decide +kernel
theorem dX11_isSpared_61 : decode cX11_isSpared 61 = .ok (.if_icmp .eq 7, 3) := by decide +kernel
theorem dX11_isSpared_64 : decode cX11_isSpared 64 = .ok (.iconst 1, 1) := by decide +kernel
theorem dX11_isSpared_65 : decode cX11_isSpared 65 = .ok (.goto 4, 3) := by decide +kernel
theorem dX11_isSpared_68 : decode cX11_isSpared 68 = .ok (.iconst 0, 1) := by decide +kernel
theorem dX11_isSpared_69 : decode cX11_isSpared 69 = .ok (.istore 6, 2) := by decide +kernel
theorem dX11_isSpared_71 : decode cX11_isSpared 71 = .ok (.aload_n 0, 1) := by decide +kernel
theorem dX11_isSpared_72 : decode cX11_isSpared 72 = .ok (.getfield 56, 3) := by decide +kernel
theorem dX11_isSpared_75 : decode cX11_isSpared 75 = .ok (.iload 4, 2) := by decide +kernel
theorem dX11_isSpared_77 : decode cX11_isSpared 77 = .ok (.iaload, 1) := by decide +kernel
theorem dX11_isSpared_78 : decode cX11_isSpared 78 = .ok (.ifCond .ne 17, 3) := by decide +kernel
theorem dX11_isSpared_81 : decode cX11_isSpared 81 = .ok (.aload_n 0, 1) := by decide +kernel
theorem dX11_isSpared_82 : decode cX11_isSpared 82 = .ok (.iload_n 3, 1) := by decide +kernel
theorem dX11_isSpared_83 : decode cX11_isSpared 83 = .ok (.iload 5, 2) := by decide +kernel
theorem dX11_isSpared_85 : decode cX11_isSpared 85 = .ok (.invokevirtual 171, 3) := by decide +kernel
theorem dX11_isSpared_88 : decode cX11_isSpared 88 = .ok (.ifCond .eq 7, 3) := by decide +kernel
theorem dX11_isSpared_91 : decode cX11_isSpared 91 = .ok (.iconst 1, 1) := by decide +kernel
theorem dX11_isSpared_92 : decode cX11_isSpared 92 = .ok (.goto 4, 3) := by decide +kernel
theorem dX11_isSpared_95 : decode cX11_isSpared 95 = .ok (.iconst 0, 1) := by decide +kernel
theorem dX11_isSpared_96 : decode cX11_isSpared 96 = .ok (.istore 7, 2) := by decide +kernel
theorem dX11_isSpared_98 : decode cX11_isSpared 98 = .ok (.iload 6, 2) := by decide +kernel
theorem dX11_isSpared_100 : decode cX11_isSpared 100 = .ok (.ifCond .ne 44, 3) := by decide +kernel
theorem dX11_isSpared_103 : decode cX11_isSpared 103 = .ok (.iload 7, 2) := by decide +kernel
theorem dX11_isSpared_105 : decode cX11_isSpared 105 = .ok (.ifCond .ne 39, 3) := by decide +kernel
theorem dX11_isSpared_108 : decode cX11_isSpared 108 = .ok (.aload_n 0, 1) := by decide +kernel
theorem dX11_isSpared_109 : decode cX11_isSpared 109 = .ok (.iload_n 3, 1) := by decide +kernel
theorem dX11_isSpared_110 : decode cX11_isSpared 110 = .ok (.iload 5, 2) := by decide +kernel
theorem dX11_isSpared_112 : decode cX11_isSpared 112 = .ok (.iconst (-1), 1) := by decide +kernel
theorem dX11_isSpared_113 : decode cX11_isSpared 113 = .ok (.invokevirtual 167, 3) := by decide +kernel
theorem dX11_isSpared_116 : decode cX11_isSpared 116 = .ok (.aload_n 0, 1) := by decide +kernel
theorem dX11_isSpared_117 : decode cX11_isSpared 117 = .ok (.getfield 59, 3) := by decide +kernel
theorem dX11_isSpared_120 : decode cX11_isSpared 120 = .ok (.iload 4, 2) := by decide +kernel
theorem dX11_isSpared_122 : decode cX11_isSpared 122 = .ok (.iaload, 1) := by decide +kernel
theorem dX11_isSpared_123 : decode cX11_isSpared 123 = .ok (.if_icmp .ne 21, 3) := by decide +kernel
theorem dX11_isSpared_126 : decode cX11_isSpared 126 = .ok (.aload_n 0, 1) := by decide +kernel
theorem dX11_isSpared_127 : decode cX11_isSpared 127 = .ok (.iload_n 3, 1) := by decide +kernel
theorem dX11_isSpared_128 : decode cX11_isSpared 128 = .ok (.iload 5, 2) := by decide +kernel
theorem dX11_isSpared_130 : decode cX11_isSpared 130 = .ok (.iconst 1, 1) := by decide +kernel
theorem dX11_isSpared_131 : decode cX11_isSpared 131 = .ok (.invokevirtual 167, 3) := by decide +kernel
theorem dX11_isSpared_134 : decode cX11_isSpared 134 = .ok (.aload_n 0, 1) := by decide +kernel
theorem dX11_isSpared_135 : decode cX11_isSpared 135 = .ok (.getfield 62, 3) := by decide +kernel
theorem dX11_isSpared_138 : decode cX11_isSpared 138 = .ok (.iload 4, 2) := by decide +kernel
theorem dX11_isSpared_140 : decode cX11_isSpared 140 = .ok (.iaload, 1) := by decide +kernel
theorem dX11_isSpared_141 : decode cX11_isSpared 141 = .ok (.if_icmp .eq 7, 3) := by decide +kernel
theorem dX11_isSpared_144 : decode cX11_isSpared 144 = .ok (.iconst 1, 1) := by decide +kernel
theorem dX11_isSpared_145 : decode cX11_isSpared 145 = .ok (.goto 4, 3) := by decide +kernel
theorem dX11_isSpared_148 : decode cX11_isSpared 148 = .ok (.iconst 0, 1) := by decide +kernel
theorem dX11_isSpared_149 : decode cX11_isSpared 149 = .ok (.ireturn, 1) := by decide +kernel
theorem dX11_sparedNow_0 : decode cX11_sparedNow 0 = .ok (.aload_n 0, 1) := by decide +kernel
theorem dX11_sparedNow_1 : decode cX11_sparedNow 1 = .ok (.iload_n 1, 1) := by decide +kernel
theorem dX11_sparedNow_2 : decode cX11_sparedNow 2 = .ok (.invokevirtual 164, 3) := by decide +kernel
theorem dX11_sparedNow_5 : decode cX11_sparedNow 5 = .ok (.iconst 0, 1) := by decide +kernel
theorem dX11_sparedNow_6 : decode cX11_sparedNow 6 = .ok (.istore_n 2, 1) := by decide +kernel
theorem dX11_sparedNow_7 : decode cX11_sparedNow 7 = .ok (.iconst 0, 1) := by decide +kernel
theorem dX11_sparedNow_8 : decode cX11_sparedNow 8 = .ok (.istore_n 3, 1) := by decide +kernel
theorem dX11_sparedNow_9 : decode cX11_sparedNow 9 = .ok (.iload_n 3, 1) := by decide +kernel
theorem dX11_sparedNow_10 : decode cX11_sparedNow 10 = .ok (.aload_n 0, 1) := by decide +kernel
theorem dX11_sparedNow_11 : decode cX11_sparedNow 11 = .ok (.getfield 44, 3) := by decide +kernel
theorem dX11_sparedNow_14 : decode cX11_sparedNow 14 = .ok (.iload_n 1, 1) := by decide +kernel
theorem dX11_sparedNow_15 : decode cX11_sparedNow 15 = .ok (.iaload, 1) := by decide +kernel
theorem dX11_sparedNow_16 : decode cX11_sparedNow 16 = .ok (.if_icmp .ge 26, 3) := by decide +kernel
theorem dX11_sparedNow_19 : decode cX11_sparedNow 19 = .ok (.iload_n 2, 1) := by decide +kernel
theorem dX11_sparedNow_20 : decode cX11_sparedNow 20 = .ok (.aload_n 0, 1) := by decide +kernel
theorem dX11_sparedNow_21 : decode cX11_sparedNow 21 = .ok (.iload_n 1, 1) := by decide +kernel
theorem dX11_sparedNow_22 : decode cX11_sparedNow 22 = .ok (.iload_n 3, 1) := by decide +kernel
theorem dX11_sparedNow_23 : decode cX11_sparedNow 23 = .ok (.invokevirtual 174, 3) := by decide +kernel
theorem dX11_sparedNow_26 : decode cX11_sparedNow 26 = .ok (.ifCond .eq 7, 3) := by decide +kernel
theorem dX11_sparedNow_29 : decode cX11_sparedNow 29 = .ok (.iconst 1, 1) := by decide +kernel
theorem dX11_sparedNow_30 : decode cX11_sparedNow 30 = .ok (.goto 4, 3) := by decide +kernel
theorem dX11_sparedNow_33 : decode cX11_sparedNow 33 = .ok (.iconst 0, 1) := by decide +kernel
theorem dX11_sparedNow_34 : decode cX11_sparedNow 34 = .ok (.iadd, 1) := by decide +kernel
theorem dX11_sparedNow_35 : decode cX11_sparedNow 35 = .ok (.istore_n 2, 1) := by decide +kernel
theorem dX11_sparedNow_36 : decode cX11_sparedNow 36 = .ok (.iinc 3 1, 3) := by decide +kernel
theorem dX11_sparedNow_39 : decode cX11_sparedNow 39 = .ok (.goto (-30), 3) := by decide +kernel
theorem dX11_sparedNow_42 : decode cX11_sparedNow 42 = .ok (.iload_n 2, 1) := by decide +kernel
theorem dX11_sparedNow_43 : decode cX11_sparedNow 43 = .ok (.ireturn, 1) := by decide +kernel
theorem dX11_come_0 : decode cX11_come 0 = .ok (.aload_n 0, 1) := by decide +kernel
theorem dX11_come_1 : decode cX11_come 1 = .ok (.iload_n 1, 1) := by decide +kernel
theorem dX11_come_2 : decode cX11_come 2 = .ok (.invokevirtual 177, 3) := by decide +kernel
theorem dX11_come_5 : decode cX11_come 5 = .ok (.istore_n 2, 1) := by decide +kernel
theorem dX11_come_6 : decode cX11_come 6 = .ok (.aload_n 0, 1) := by decide +kernel
theorem dX11_come_7 : decode cX11_come 7 = .ok (.iload_n 2, 1) := by decide +kernel
theorem dX11_come_8 : decode cX11_come 8 = .ok (.iload_n 2, 1) := by decide +kernel
theorem dX11_come_9 : decode cX11_come 9 = .ok (.ifCond .eq 16, 3) := by decide +kernel
theorem dX11_come_12 : decode cX11_come 12 = .ok (.aload_n 0, 1) := by decide +kernel
theorem dX11_come_13 : decode cX11_come 13 = .ok (.getfield 41, 3) := by decide +kernel
theorem dX11_come_16 : decode cX11_come 16 = .ok (.iload_n 1, 1) := by decide +kernel
theorem dX11_come_17 : decode cX11_come 17 = .ok (.iaload, 1) := by decide +kernel
theorem dX11_come_18 : decode cX11_come 18 = .ok (.ifCond .ne 7, 3) := by decide +kernel
theorem dX11_come_21 : decode cX11_come 21 = .ok (.iconst 1, 1) := by decide +kernel
theorem dX11_come_22 : decode cX11_come 22 = .ok (.goto 4, 3) := by decide +kernel
theorem dX11_come_25 : decode cX11_come 25 = .ok (.iconst 0, 1) := by decide +kernel
theorem dX11_come_26 : decode cX11_come 26 = .ok (.iconst 1, 1) := by decide +kernel
theorem dX11_come_27 : decode cX11_come 27 = .ok (.invokevirtual 117, 3) := by decide +kernel
theorem dX11_come_30 : decode cX11_come 30 = .ok (.ifCond .ne 5, 3) := by decide +kernel
theorem dX11_come_33 : decode cX11_come 33 = .ok (.iconst 0, 1) := by decide +kernel
theorem dX11_come_34 : decode cX11_come 34 = .ok (.ireturn, 1) := by decide +kernel
theorem dX11_come_35 : decode cX11_come 35 = .ok (.aload_n 0, 1) := by decide +kernel
theorem dX11_come_36 : decode cX11_come 36 = .ok (.getfield 47, 3) := by decide +kernel
theorem dX11_come_39 : decode cX11_come 39 = .ok (.iload_n 1, 1) := by decide +kernel
theorem dX11_come_40 : decode cX11_come 40 = .ok (.aload_n 0, 1) := by decide +kernel
theorem dX11_come_41 : decode cX11_come 41 = .ok (.iload_n 1, 1) := by decide +kernel
theorem dX11_come_42 : decode cX11_come 42 = .ok (.invokevirtual 180, 3) := by decide +kernel
theorem dX11_come_45 : decode cX11_come 45 = .ok (.iastore, 1) := by decide +kernel
theorem dX11_come_46 : decode cX11_come 46 = .ok (.aload_n 0, 1) := by decide +kernel
theorem dX11_come_47 : decode cX11_come 47 = .ok (.getfield 38, 3) := by decide +kernel
theorem dX11_come_50 : decode cX11_come 50 = .ok (.iload_n 1, 1) := by decide +kernel
theorem dX11_come_51 : decode cX11_come 51 = .ok (.iaload, 1) := by decide +kernel
theorem dX11_come_52 : decode cX11_come 52 = .ok (.istore_n 3, 1) := by decide +kernel
theorem dX11_come_53 : decode cX11_come 53 = .ok (.iconst 0, 1) := by decide +kernel
theorem dX11_come_54 : decode cX11_come 54 = .ok (.istore 4, 2) := by decide +kernel
theorem dX11_come_56 : decode cX11_come 56 = .ok (.iload 4, 2) := by decide +kernel
theorem dX11_come_58 : decode cX11_come 58 = .ok (.aload_n 0, 1) := by decide +kernel
theorem dX11_come_59 : decode cX11_come 59 = .ok (.getfield 44, 3) := by decide +kernel
theorem dX11_come_62 : decode cX11_come 62 = .ok (.iload_n 1, 1) := by decide +kernel
theorem dX11_come_63 : decode cX11_come 63 = .ok (.iaload, 1) := by decide +kernel
theorem dX11_come_64 : decode cX11_come 64 = .ok (.if_icmp .ge 47, 3) := by decide +kernel
theorem dX11_come_67 : decode cX11_come 67 = .ok (.sipush 150, 3) := by decide +kernel
theorem dX11_come_70 : decode cX11_come 70 = .ok (.iload_n 1, 1) := by decide +kernel
theorem dX11_come_71 : decode cX11_come 71 = .ok (.imul, 1) := by decide +kernel
theorem dX11_come_72 : decode cX11_come 72 = .ok (.iload 4, 2) := by decide +kernel
theorem dX11_come_74 : decode cX11_come 74 = .ok (.iadd, 1) := by decide +kernel
theorem dX11_come_75 : decode cX11_come 75 = .ok (.istore 5, 2) := by decide +kernel
theorem dX11_come_77 : decode cX11_come 77 = .ok (.aload_n 0, 1) := by decide +kernel
theorem dX11_come_78 : decode cX11_come 78 = .ok (.getfield 53, 3) := by decide +kernel
theorem dX11_come_81 : decode cX11_come 81 = .ok (.iload 5, 2) := by decide +kernel
theorem dX11_come_83 : decode cX11_come 83 = .ok (.aload_n 0, 1) := by decide +kernel
theorem dX11_come_84 : decode cX11_come 84 = .ok (.iload_n 1, 1) := by decide +kernel
theorem dX11_come_85 : decode cX11_come 85 = .ok (.iload 4, 2) := by decide +kernel
theorem dX11_come_87 : decode cX11_come 87 = .ok (.invokevirtual 174, 3) := by decide +kernel
theorem dX11_come_90 : decode cX11_come 90 = .ok (.ifCond .eq 7, 3) := by decide +kernel
theorem dX11_come_93 : decode cX11_come 93 = .ok (.iconst (-1), 1) := by decide +kernel
theorem dX11_come_94 : decode cX11_come 94 = .ok (.goto 10, 3) := by decide +kernel
theorem dX11_come_97 : decode cX11_come 97 = .ok (.aload_n 0, 1) := by decide +kernel
theorem dX11_come_98 : decode cX11_come 98 = .ok (.getfield 53, 3) := by decide +kernel
theorem dX11_come_101 : decode cX11_come 101 = .ok (.iload 5, 2) := by decide +kernel
theorem dX11_come_103 : decode cX11_come 103 = .ok (.iaload, 1) := by decide +kernel
theorem dX11_come_104 : decode cX11_come 104 = .ok (.iastore, 1) := by decide +kernel
theorem dX11_come_105 : decode cX11_come 105 = .ok (.iinc 4 1, 3) := by decide +kernel
theorem dX11_come_108 : decode cX11_come 108 = .ok (.goto (-52), 3) := by decide +kernel
theorem dX11_come_111 : decode cX11_come 111 = .ok (.iconst 0, 1) := by decide +kernel
theorem dX11_come_112 : decode cX11_come 112 = .ok (.istore 4, 2) := by decide +kernel
theorem dX11_come_114 : decode cX11_come 114 = .ok (.iload 4, 2) := by decide +kernel
theorem dX11_come_116 : decode cX11_come 116 = .ok (.aload_n 0, 1) := by decide +kernel
theorem dX11_come_117 : decode cX11_come 117 = .ok (.getfield 44, 3) := by decide +kernel
theorem dX11_come_120 : decode cX11_come 120 = .ok (.iload_n 1, 1) := by decide +kernel
theorem dX11_come_121 : decode cX11_come 121 = .ok (.iaload, 1) := by decide +kernel
theorem dX11_come_122 : decode cX11_come 122 = .ok (.if_icmp .ge 91, 3) := by decide +kernel
theorem dX11_come_125 : decode cX11_come 125 = .ok (.sipush 150, 3) := by decide +kernel
theorem dX11_come_128 : decode cX11_come 128 = .ok (.iload_n 1, 1) := by decide +kernel
theorem dX11_come_129 : decode cX11_come 129 = .ok (.imul, 1) := by decide +kernel
theorem dX11_come_130 : decode cX11_come 130 = .ok (.iload 4, 2) := by decide +kernel
theorem dX11_come_132 : decode cX11_come 132 = .ok (.iadd, 1) := by decide +kernel
theorem dX11_come_133 : decode cX11_come 133 = .ok (.istore 5, 2) := by decide +kernel
theorem dX11_come_135 : decode cX11_come 135 = .ok (.aload_n 0, 1) := by decide +kernel
theorem dX11_come_136 : decode cX11_come 136 = .ok (.getfield 53, 3) := by decide +kernel
theorem dX11_come_139 : decode cX11_come 139 = .ok (.iload 5, 2) := by decide +kernel
theorem dX11_come_141 : decode cX11_come 141 = .ok (.iaload, 1) := by decide +kernel
theorem dX11_come_142 : decode cX11_come 142 = .ok (.iconst (-1), 1) := by decide +kernel
theorem dX11_come_143 : decode cX11_come 143 = .ok (.if_icmp .eq 28, 3) := by decide +kernel
theorem dX11_come_146 : decode cX11_come 146 = .ok (.aload_n 0, 1) := by decide +kernel
theorem dX11_come_147 : decode cX11_come 147 = .ok (.getfield 56, 3) := by decide +kernel
theorem dX11_come_150 : decode cX11_come 150 = .ok (.iload 5, 2) := by decide +kernel
theorem dX11_come_152 : decode cX11_come 152 = .ok (.iaload, 1) := by decide +kernel
theorem dX11_come_153 : decode cX11_come 153 = .ok (.ifCond .ne 18, 3) := by decide +kernel
theorem dX11_come_156 : decode cX11_come 156 = .ok (.aload_n 0, 1) := by decide +kernel
theorem dX11_come_157 : decode cX11_come 157 = .ok (.iload_n 3, 1) := by decide +kernel
theorem dX11_come_158 : decode cX11_come 158 = .ok (.aload_n 0, 1) := by decide +kernel
theorem dX11_come_159 : decode cX11_come 159 = .ok (.getfield 50, 3) := by decide +kernel
theorem dX11_come_162 : decode cX11_come 162 = .ok (.iload 5, 2) := by decide +kernel
theorem dX11_come_164 : decode cX11_come 164 = .ok (.iaload, 1) := by decide +kernel
theorem dX11_come_165 : decode cX11_come 165 = .ok (.invokevirtual 132, 3) := by decide +kernel
theorem dX11_come_168 : decode cX11_come 168 = .ok (.goto 39, 3) := by decide +kernel
theorem dX11_come_171 : decode cX11_come 171 = .ok (.aload_n 0, 1) := by decide +kernel
theorem dX11_come_172 : decode cX11_come 172 = .ok (.getfield 53, 3) := by decide +kernel
theorem dX11_come_175 : decode cX11_come 175 = .ok (.iload 5, 2) := by decide +kernel
theorem dX11_come_177 : decode cX11_come 177 = .ok (.iaload, 1) := by decide +kernel
theorem dX11_come_178 : decode cX11_come 178 = .ok (.iconst (-1), 1) := by decide +kernel
theorem dX11_come_179 : decode cX11_come 179 = .ok (.if_icmp .eq 28, 3) := by decide +kernel
theorem dX11_come_182 : decode cX11_come 182 = .ok (.aload_n 0, 1) := by decide +kernel
theorem dX11_come_183 : decode cX11_come 183 = .ok (.getfield 13, 3) := by decide +kernel
theorem dX11_come_186 : decode cX11_come 186 = .ok (.sipush 150, 3) := by decide +kernel
theorem dX11_come_189 : decode cX11_come 189 = .ok (.iload_n 3, 1) := by decide +kernel
theorem dX11_come_190 : decode cX11_come 190 = .ok (.imul, 1) := by decide +kernel
theorem dX11_come_191 : decode cX11_come 191 = .ok (.aload_n 0, 1) := by decide +kernel
theorem dX11_come_192 : decode cX11_come 192 = .ok (.getfield 50, 3) := by decide +kernel
theorem dX11_come_195 : decode cX11_come 195 = .ok (.iload 5, 2) := by decide +kernel
theorem dX11_come_197 : decode cX11_come 197 = .ok (.iaload, 1) := by decide +kernel
theorem dX11_come_198 : decode cX11_come 198 = .ok (.iadd, 1) := by decide +kernel
theorem dX11_come_199 : decode cX11_come 199 = .ok (.aload_n 0, 1) := by decide +kernel
theorem dX11_come_200 : decode cX11_come 200 = .ok (.getfield 56, 3) := by decide +kernel
theorem dX11_come_203 : decode cX11_come 203 = .ok (.iload 5, 2) := by decide +kernel
theorem dX11_come_205 : decode cX11_come 205 = .ok (.iaload, 1) := by decide +kernel
theorem dX11_come_206 : decode cX11_come 206 = .ok (.iastore, 1) := by decide +kernel
theorem dX11_come_207 : decode cX11_come 207 = .ok (.iinc 4 1, 3) := by decide +kernel
theorem dX11_come_210 : decode cX11_come 210 = .ok (.goto (-96), 3) := by decide +kernel
theorem dX11_come_213 : decode cX11_come 213 = .ok (.aload_n 0, 1) := by decide +kernel
theorem dX11_come_214 : decode cX11_come 214 = .ok (.getfield 44, 3) := by decide +kernel
theorem dX11_come_217 : decode cX11_come 217 = .ok (.iload_n 1, 1) := by decide +kernel
theorem dX11_come_218 : decode cX11_come 218 = .ok (.iaload, 1) := by decide +kernel
theorem dX11_come_219 : decode cX11_come 219 = .ok (.aload_n 0, 1) := by decide +kernel
theorem dX11_come_220 : decode cX11_come 220 = .ok (.getfield 47, 3) := by decide +kernel
theorem dX11_come_223 : decode cX11_come 223 = .ok (.iload_n 1, 1) := by decide +kernel
theorem dX11_come_224 : decode cX11_come 224 = .ok (.iaload, 1) := by decide +kernel
theorem dX11_come_225 : decode cX11_come 225 = .ok (.isub, 1) := by decide +kernel
theorem dX11_come_226 : decode cX11_come 226 = .ok (.istore 4, 2) := by decide +kernel
theorem dX11_come_228 : decode cX11_come 228 = .ok (.aload_n 0, 1) := by decide +kernel
theorem dX11_come_229 : decode cX11_come 229 = .ok (.getfield 23, 3) := by decide +kernel
theorem dX11_come_232 : decode cX11_come 232 = .ok (.iload_n 3, 1) := by decide +kernel
theorem dX11_come_233 : decode cX11_come 233 = .ok (.dup2, 1) := by decide +kernel
theorem dX11_come_234 : decode cX11_come 234 = .ok (.iaload, 1) := by decide +kernel
theorem dX11_come_235 : decode cX11_come 235 = .ok (.iload 4, 2) := by decide +kernel
theorem dX11_come_237 : decode cX11_come 237 = .ok (.ifCond .le 7, 3) := by decide +kernel
theorem dX11_come_240 : decode cX11_come 240 = .ok (.iconst 1, 1) := by decide +kernel
theorem dX11_come_241 : decode cX11_come 241 = .ok (.goto 4, 3) := by decide +kernel
theorem dX11_come_244 : decode cX11_come 244 = .ok (.iconst 0, 1) := by decide +kernel
theorem dX11_come_245 : decode cX11_come 245 = .ok (.iadd, 1) := by decide +kernel
theorem dX11_come_246 : decode cX11_come 246 = .ok (.iastore, 1) := by decide +kernel
theorem dX11_come_247 : decode cX11_come 247 = .ok (.aload_n 0, 1) := by decide +kernel
theorem dX11_come_248 : decode cX11_come 248 = .ok (.getfield 41, 3) := by decide +kernel
theorem dX11_come_251 : decode cX11_come 251 = .ok (.iload_n 1, 1) := by decide +kernel
theorem dX11_come_252 : decode cX11_come 252 = .ok (.iconst 1, 1) := by decide +kernel
theorem dX11_come_253 : decode cX11_come 253 = .ok (.iastore, 1) := by decide +kernel
theorem dX11_come_254 : decode cX11_come 254 = .ok (.iload 4, 2) := by decide +kernel
theorem dX11_come_256 : decode cX11_come 256 = .ok (.ireturn, 1) := by decide +kernel
theorem dX11_drop_0 : decode cX11_drop 0 = .ok (.aload_n 0, 1) := by decide +kernel
theorem dX11_drop_1 : decode cX11_drop 1 = .ok (.iload_n 1, 1) := by decide +kernel
theorem dX11_drop_2 : decode cX11_drop 2 = .ok (.invokevirtual 177, 3) := by decide +kernel
theorem dX11_drop_5 : decode cX11_drop 5 = .ok (.istore_n 2, 1) := by decide +kernel
theorem dX11_drop_6 : decode cX11_drop 6 = .ok (.aload_n 0, 1) := by decide +kernel
theorem dX11_drop_7 : decode cX11_drop 7 = .ok (.iload_n 2, 1) := by decide +kernel
theorem dX11_drop_8 : decode cX11_drop 8 = .ok (.iload_n 2, 1) := by decide +kernel
theorem dX11_drop_9 : decode cX11_drop 9 = .ok (.ifCond .eq 16, 3) := by decide +kernel
theorem dX11_drop_12 : decode cX11_drop 12 = .ok (.aload_n 0, 1) := by decide +kernel
theorem dX11_drop_13 : decode cX11_drop 13 = .ok (.getfield 41, 3) := by decide +kernel
theorem dX11_drop_16 : decode cX11_drop 16 = .ok (.iload_n 1, 1) := by decide +kernel
theorem dX11_drop_17 : decode cX11_drop 17 = .ok (.iaload, 1) := by decide +kernel
theorem dX11_drop_18 : decode cX11_drop 18 = .ok (.ifCond .ne 7, 3) := by decide +kernel
theorem dX11_drop_21 : decode cX11_drop 21 = .ok (.iconst 1, 1) := by decide +kernel
theorem dX11_drop_22 : decode cX11_drop 22 = .ok (.goto 4, 3) := by decide +kernel
theorem dX11_drop_25 : decode cX11_drop 25 = .ok (.iconst 0, 1) := by decide +kernel
theorem dX11_drop_26 : decode cX11_drop 26 = .ok (.iconst 1, 1) := by decide +kernel
theorem dX11_drop_27 : decode cX11_drop 27 = .ok (.invokevirtual 117, 3) := by decide +kernel
theorem dX11_drop_30 : decode cX11_drop 30 = .ok (.ifCond .ne 5, 3) := by decide +kernel
theorem dX11_drop_33 : decode cX11_drop 33 = .ok (.iconst 0, 1) := by decide +kernel
theorem dX11_drop_34 : decode cX11_drop 34 = .ok (.ireturn, 1) := by decide +kernel
theorem dX11_drop_35 : decode cX11_drop 35 = .ok (.aload_n 0, 1) := by decide +kernel
theorem dX11_drop_36 : decode cX11_drop 36 = .ok (.getfield 41, 3) := by decide +kernel
theorem dX11_drop_39 : decode cX11_drop 39 = .ok (.iload_n 1, 1) := by decide +kernel
theorem dX11_drop_40 : decode cX11_drop 40 = .ok (.iconst 2, 1) := by decide +kernel
theorem dX11_drop_41 : decode cX11_drop 41 = .ok (.iastore, 1) := by decide +kernel
theorem dX11_drop_42 : decode cX11_drop 42 = .ok (.aload_n 0, 1) := by decide +kernel
theorem dX11_drop_43 : decode cX11_drop 43 = .ok (.getfield 44, 3) := by decide +kernel
theorem dX11_drop_46 : decode cX11_drop 46 = .ok (.iload_n 1, 1) := by decide +kernel
theorem dX11_drop_47 : decode cX11_drop 47 = .ok (.iaload, 1) := by decide +kernel
theorem dX11_drop_48 : decode cX11_drop 48 = .ok (.ireturn, 1) := by decide +kernel
theorem dX11_state_0 : decode cX11_state 0 = .ok (.aload_n 0, 1) := by decide +kernel
theorem dX11_state_1 : decode cX11_state 1 = .ok (.aload_n 0, 1) := by decide +kernel
theorem dX11_state_2 : decode cX11_state 2 = .ok (.iload_n 1, 1) := by decide +kernel
theorem dX11_state_3 : decode cX11_state 3 = .ok (.invokevirtual 177, 3) := by decide +kernel
theorem dX11_state_6 : decode cX11_state 6 = .ok (.iconst 1, 1) := by decide +kernel
theorem dX11_state_7 : decode cX11_state 7 = .ok (.iconst 1, 1) := by decide +kernel
theorem dX11_state_8 : decode cX11_state 8 = .ok (.invokevirtual 117, 3) := by decide +kernel
theorem dX11_state_11 : decode cX11_state 11 = .ok (.ifCond .eq 12, 3) := by decide +kernel
theorem dX11_state_14 : decode cX11_state 14 = .ok (.aload_n 0, 1) := by decide +kernel
theorem dX11_state_15 : decode cX11_state 15 = .ok (.getfield 41, 3) := by decide +kernel
theorem dX11_state_18 : decode cX11_state 18 = .ok (.iload_n 1, 1) := by decide +kernel
theorem dX11_state_19 : decode cX11_state 19 = .ok (.iaload, 1) := by decide +kernel
theorem dX11_state_20 : decode cX11_state 20 = .ok (.goto 4, 3) := by decide +kernel
theorem dX11_state_23 : decode cX11_state 23 = .ok (.iconst 0, 1) := by decide +kernel
theorem dX11_state_24 : decode cX11_state 24 = .ok (.ireturn, 1) := by decide +kernel
theorem dX11_spared_0 : decode cX11_spared 0 = .ok (.aload_n 0, 1) := by decide +kernel
theorem dX11_spared_1 : decode cX11_spared 1 = .ok (.aload_n 0, 1) := by decide +kernel
theorem dX11_spared_2 : decode cX11_spared 2 = .ok (.iload_n 1, 1) := by decide +kernel
theorem dX11_spared_3 : decode cX11_spared 3 = .ok (.invokevirtual 177, 3) := by decide +kernel
theorem dX11_spared_6 : decode cX11_spared 6 = .ok (.iconst 1, 1) := by decide +kernel
theorem dX11_spared_7 : decode cX11_spared 7 = .ok (.iconst 1, 1) := by decide +kernel
theorem dX11_spared_8 : decode cX11_spared 8 = .ok (.invokevirtual 117, 3) := by decide +kernel
theorem dX11_spared_11 : decode cX11_spared 11 = .ok (.ifCond .ne 5, 3) := by decide +kernel
theorem dX11_spared_14 : decode cX11_spared 14 = .ok (.iconst 0, 1) := by decide +kernel
theorem dX11_spared_15 : decode cX11_spared 15 = .ok (.ireturn, 1) := by decide +kernel
theorem dX11_spared_16 : decode cX11_spared 16 = .ok (.aload_n 0, 1) := by decide +kernel
theorem dX11_spared_17 : decode cX11_spared 17 = .ok (.getfield 41, 3) := by decide +kernel
theorem dX11_spared_20 : decode cX11_spared 20 = .ok (.iload_n 1, 1) := by decide +kernel
theorem dX11_spared_21 : decode cX11_spared 21 = .ok (.iaload, 1) := by decide +kernel
theorem dX11_spared_22 : decode cX11_spared 22 = .ok (.ifCond .ne 11, 3) := by decide +kernel
theorem dX11_spared_25 : decode cX11_spared 25 = .ok (.aload_n 0, 1) := by decide +kernel
theorem dX11_spared_26 : decode cX11_spared 26 = .ok (.iload_n 1, 1) := by decide +kernel
theorem dX11_spared_27 : decode cX11_spared 27 = .ok (.invokevirtual 180, 3) := by decide +kernel
theorem dX11_spared_30 : decode cX11_spared 30 = .ok (.goto 28, 3) := by decide +kernel
theorem dX11_spared_33 : decode cX11_spared 33 = .ok (.aload_n 0, 1) := by decide +kernel
theorem dX11_spared_34 : decode cX11_spared 34 = .ok (.getfield 41, 3) := by decide +kernel
theorem dX11_spared_37 : decode cX11_spared 37 = .ok (.iload_n 1, 1) := by decide +kernel
theorem dX11_spared_38 : decode cX11_spared 38 = .ok (.iaload, 1) := by decide +kernel
theorem dX11_spared_39 : decode cX11_spared 39 = .ok (.iconst 1, 1) := by decide +kernel
theorem dX11_spared_40 : decode cX11_spared 40 = .ok (.if_icmp .ne 12, 3) := by decide +kernel
theorem dX11_spared_43 : decode cX11_spared 43 = .ok (.aload_n 0, 1) := by decide +kernel
theorem dX11_spared_44 : decode cX11_spared 44 = .ok (.getfield 47, 3) := by decide +kernel
theorem dX11_spared_47 : decode cX11_spared 47 = .ok (.iload_n 1, 1) := by decide +kernel
theorem dX11_spared_48 : decode cX11_spared 48 = .ok (.iaload, 1) := by decide +kernel
theorem dX11_spared_49 : decode cX11_spared 49 = .ok (.goto 9, 3) := by decide +kernel
theorem dX11_spared_52 : decode cX11_spared 52 = .ok (.aload_n 0, 1) := by decide +kernel
theorem dX11_spared_53 : decode cX11_spared 53 = .ok (.getfield 44, 3) := by decide +kernel
theorem dX11_spared_56 : decode cX11_spared 56 = .ok (.iload_n 1, 1) := by decide +kernel
theorem dX11_spared_57 : decode cX11_spared 57 = .ok (.iaload, 1) := by decide +kernel
theorem dX11_spared_58 : decode cX11_spared 58 = .ok (.ireturn, 1) := by decide +kernel
theorem dX11_lock_0 : decode cX11_lock 0 = .ok (.iload_n 1, 1) := by decide +kernel
theorem dX11_lock_1 : decode cX11_lock 1 = .ok (.iload_n 2, 1) := by decide +kernel
theorem dX11_lock_2 : decode cX11_lock 2 = .ok (.invokestatic 110, 3) := by decide +kernel
theorem dX11_lock_5 : decode cX11_lock 5 = .ok (.istore_n 3, 1) := by decide +kernel
theorem dX11_lock_6 : decode cX11_lock 6 = .ok (.aload_n 0, 1) := by decide +kernel
theorem dX11_lock_7 : decode cX11_lock 7 = .ok (.iload_n 3, 1) := by decide +kernel
theorem dX11_lock_8 : decode cX11_lock 8 = .ok (.iload_n 3, 1) := by decide +kernel
theorem dX11_lock_9 : decode cX11_lock 9 = .ok (.ifCond .eq 27, 3) := by decide +kernel
theorem dX11_lock_12 : decode cX11_lock 12 = .ok (.aload_n 0, 1) := by decide +kernel
theorem dX11_lock_13 : decode cX11_lock 13 = .ok (.getfield 77, 3) := by decide +kernel
theorem dX11_lock_16 : decode cX11_lock 16 = .ok (.iload_n 2, 1) := by decide +kernel
theorem dX11_lock_17 : decode cX11_lock 17 = .ok (.iaload, 1) := by decide +kernel
theorem dX11_lock_18 : decode cX11_lock 18 = .ok (.iconst (-1), 1) := by decide +kernel
theorem dX11_lock_19 : decode cX11_lock 19 = .ok (.if_icmp .eq 13, 3) := by decide +kernel
theorem dX11_lock_22 : decode cX11_lock 22 = .ok (.aload_n 0, 1) := by decide +kernel
theorem dX11_lock_23 : decode cX11_lock 23 = .ok (.getfield 77, 3) := by decide +kernel
theorem dX11_lock_26 : decode cX11_lock 26 = .ok (.iload_n 2, 1) := by decide +kernel
theorem dX11_lock_27 : decode cX11_lock 27 = .ok (.iaload, 1) := by decide +kernel
theorem dX11_lock_28 : decode cX11_lock 28 = .ok (.iload_n 1, 1) := by decide +kernel
theorem dX11_lock_29 : decode cX11_lock 29 = .ok (.if_icmp .ne 7, 3) := by decide +kernel
theorem dX11_lock_32 : decode cX11_lock 32 = .ok (.iconst 1, 1) := by decide +kernel
theorem dX11_lock_33 : decode cX11_lock 33 = .ok (.goto 4, 3) := by decide +kernel
theorem dX11_lock_36 : decode cX11_lock 36 = .ok (.iconst 0, 1) := by decide +kernel
theorem dX11_lock_37 : decode cX11_lock 37 = .ok (.iconst 1, 1) := by decide +kernel
theorem dX11_lock_38 : decode cX11_lock 38 = .ok (.invokevirtual 117, 3) := by decide +kernel
theorem dX11_lock_41 : decode cX11_lock 41 = .ok (.ifCond .ne 5, 3) := by decide +kernel
theorem dX11_lock_44 : decode cX11_lock 44 = .ok (.iconst 0, 1) := by decide +kernel
theorem dX11_lock_45 : decode cX11_lock 45 = .ok (.ireturn, 1) := by decide +kernel
theorem dX11_lock_46 : decode cX11_lock 46 = .ok (.aload_n 0, 1) := by decide +kernel
theorem dX11_lock_47 : decode cX11_lock 47 = .ok (.getfield 77, 3) := by decide +kernel
theorem dX11_lock_50 : decode cX11_lock 50 = .ok (.iload_n 2, 1) := by decide +kernel
theorem dX11_lock_51 : decode cX11_lock 51 = .ok (.aload_n 0, 1) := by decide +kernel
theorem dX11_lock_52 : decode cX11_lock 52 = .ok (.getfield 77, 3) := by decide +kernel
theorem dX11_lock_55 : decode cX11_lock 55 = .ok (.iload_n 2, 1) := by decide +kernel
theorem dX11_lock_56 : decode cX11_lock 56 = .ok (.iaload, 1) := by decide +kernel
theorem dX11_lock_57 : decode cX11_lock 57 = .ok (.iconst (-1), 1) := by decide +kernel
theorem dX11_lock_58 : decode cX11_lock 58 = .ok (.if_icmp .ne 7, 3) := by decide +kernel
theorem dX11_lock_61 : decode cX11_lock 61 = .ok (.iload_n 1, 1) := by decide +kernel
theorem dX11_lock_62 : decode cX11_lock 62 = .ok (.goto 4, 3) := by decide +kernel
theorem dX11_lock_65 : decode cX11_lock 65 = .ok (.iconst (-1), 1) := by decide +kernel
theorem dX11_lock_66 : decode cX11_lock 66 = .ok (.iastore, 1) := by decide +kernel
theorem dX11_lock_67 : decode cX11_lock 67 = .ok (.aload_n 0, 1) := by decide +kernel
theorem dX11_lock_68 : decode cX11_lock 68 = .ok (.getfield 77, 3) := by decide +kernel
theorem dX11_lock_71 : decode cX11_lock 71 = .ok (.iload_n 2, 1) := by decide +kernel
theorem dX11_lock_72 : decode cX11_lock 72 = .ok (.iaload, 1) := by decide +kernel
theorem dX11_lock_73 : decode cX11_lock 73 = .ok (.iconst (-1), 1) := by decide +kernel
theorem dX11_lock_74 : decode cX11_lock 74 = .ok (.if_icmp .eq 7, 3) := by decide +kernel
theorem dX11_lock_77 : decode cX11_lock 77 = .ok (.iconst 1, 1) := by decide +kernel
theorem dX11_lock_78 : decode cX11_lock 78 = .ok (.goto 4, 3) := by decide +kernel
theorem dX11_lock_81 : decode cX11_lock 81 = .ok (.iconst 0, 1) := by decide +kernel
theorem dX11_lock_82 : decode cX11_lock 82 = .ok (.ireturn, 1) := by decide +kernel
theorem dX11_save_0 : decode cX11_save 0 = .ok (.iload_n 1, 1) := by decide +kernel
theorem dX11_save_1 : decode cX11_save 1 = .ok (.iload_n 2, 1) := by decide +kernel
theorem dX11_save_2 : decode cX11_save 2 = .ok (.invokestatic 110, 3) := by decide +kernel
theorem dX11_save_5 : decode cX11_save 5 = .ok (.ifCond .eq 20, 3) := by decide +kernel
theorem dX11_save_8 : decode cX11_save 8 = .ok (.iload_n 3, 1) := by decide +kernel
theorem dX11_save_9 : decode cX11_save 9 = .ok (.iconst (-1), 1) := by decide +kernel
theorem dX11_save_10 : decode cX11_save 10 = .ok (.if_icmp .eq 11, 3) := by decide +kernel
theorem dX11_save_13 : decode cX11_save 13 = .ok (.aload_n 0, 1) := by decide +kernel
theorem dX11_save_14 : decode cX11_save 14 = .ok (.iload_n 3, 1) := by decide +kernel
theorem dX11_save_15 : decode cX11_save 15 = .ok (.invokevirtual 177, 3) := by decide +kernel
theorem dX11_save_18 : decode cX11_save 18 = .ok (.ifCond .eq 7, 3) := by decide +kernel
theorem dX11_save_21 : decode cX11_save 21 = .ok (.iconst 1, 1) := by decide +kernel
theorem dX11_save_22 : decode cX11_save 22 = .ok (.goto 4, 3) := by decide +kernel
theorem dX11_save_25 : decode cX11_save 25 = .ok (.iconst 0, 1) := by decide +kernel
theorem dX11_save_26 : decode cX11_save 26 = .ok (.istore 4, 2) := by decide +kernel
theorem dX11_save_28 : decode cX11_save 28 = .ok (.aload_n 0, 1) := by decide +kernel
theorem dX11_save_29 : decode cX11_save 29 = .ok (.iload 4, 2) := by decide +kernel
theorem dX11_save_31 : decode cX11_save 31 = .ok (.iload 4, 2) := by decide +kernel
theorem dX11_save_33 : decode cX11_save 33 = .ok (.ifCond .eq 22, 3) := by decide +kernel
theorem dX11_save_36 : decode cX11_save 36 = .ok (.iload_n 3, 1) := by decide +kernel
theorem dX11_save_37 : decode cX11_save 37 = .ok (.iconst (-1), 1) := by decide +kernel
theorem dX11_save_38 : decode cX11_save 38 = .ok (.if_icmp .eq 13, 3) := by decide +kernel
theorem dX11_save_41 : decode cX11_save 41 = .ok (.aload_n 0, 1) := by decide +kernel
theorem dX11_save_42 : decode cX11_save 42 = .ok (.getfield 38, 3) := by decide +kernel
theorem dX11_save_45 : decode cX11_save 45 = .ok (.iload_n 3, 1) := by decide +kernel
theorem dX11_save_46 : decode cX11_save 46 = .ok (.iaload, 1) := by decide +kernel
theorem dX11_save_47 : decode cX11_save 47 = .ok (.iload_n 2, 1) := by decide +kernel
theorem dX11_save_48 : decode cX11_save 48 = .ok (.if_icmp .ne 7, 3) := by decide +kernel
theorem dX11_save_51 : decode cX11_save 51 = .ok (.iconst 1, 1) := by decide +kernel
theorem dX11_save_52 : decode cX11_save 52 = .ok (.goto 4, 3) := by decide +kernel
theorem dX11_save_55 : decode cX11_save 55 = .ok (.iconst 0, 1) := by decide +kernel
theorem dX11_save_56 : decode cX11_save 56 = .ok (.aload_n 0, 1) := by decide +kernel
theorem dX11_save_57 : decode cX11_save 57 = .ok (.getfield 184, 3) := by decide +kernel
theorem dX11_save_60 : decode cX11_save 60 = .ok (.bipush 60, 2) := by decide +kernel
theorem dX11_save_62 : decode cX11_save 62 = .ok (.if_icmp .ge 7, 3) := by decide +kernel
theorem dX11_save_65 : decode cX11_save 65 = .ok (.iconst 1, 1) := by decide +kernel
theorem dX11_save_66 : decode cX11_save 66 = .ok (.goto 4, 3) := by decide +kernel
theorem dX11_save_69 : decode cX11_save 69 = .ok (.iconst 0, 1) := by decide +kernel
theorem dX11_save_70 : decode cX11_save 70 = .ok (.invokevirtual 117, 3) := by decide +kernel
theorem dX11_save_73 : decode cX11_save 73 = .ok (.ifCond .ne 5, 3) := by decide +kernel
theorem dX11_save_76 : decode cX11_save 76 = .ok (.iconst 0, 1) := by decide +kernel
theorem dX11_save_77 : decode cX11_save 77 = .ok (.ireturn, 1) := by decide +kernel
theorem dX11_save_78 : decode cX11_save 78 = .ok (.aload_n 0, 1) := by decide +kernel
theorem dX11_save_79 : decode cX11_save 79 = .ok (.getfield 65, 3) := by decide +kernel
theorem dX11_save_82 : decode cX11_save 82 = .ok (.aload_n 0, 1) := by decide +kernel
theorem dX11_save_83 : decode cX11_save 83 = .ok (.getfield 184, 3) := by decide +kernel
theorem dX11_save_86 : decode cX11_save 86 = .ok (.iload_n 1, 1) := by decide +kernel
theorem dX11_save_87 : decode cX11_save 87 = .ok (.iastore, 1) := by decide +kernel
theorem dX11_save_88 : decode cX11_save 88 = .ok (.aload_n 0, 1) := by decide +kernel
theorem dX11_save_89 : decode cX11_save 89 = .ok (.getfield 68, 3) := by decide +kernel
theorem dX11_save_92 : decode cX11_save 92 = .ok (.aload_n 0, 1) := by decide +kernel
theorem dX11_save_93 : decode cX11_save 93 = .ok (.getfield 184, 3) := by decide +kernel
theorem dX11_save_96 : decode cX11_save 96 = .ok (.iload_n 2, 1) := by decide +kernel
theorem dX11_save_97 : decode cX11_save 97 = .ok (.iastore, 1) := by decide +kernel
theorem dX11_save_98 : decode cX11_save 98 = .ok (.aload_n 0, 1) := by decide +kernel
theorem dX11_save_99 : decode cX11_save 99 = .ok (.getfield 71, 3) := by decide +kernel
theorem dX11_save_102 : decode cX11_save 102 = .ok (.aload_n 0, 1) := by decide +kernel
theorem dX11_save_103 : decode cX11_save 103 = .ok (.getfield 184, 3) := by decide +kernel
theorem dX11_save_106 : decode cX11_save 106 = .ok (.iload_n 3, 1) := by decide +kernel
theorem dX11_save_107 : decode cX11_save 107 = .ok (.iastore, 1) := by decide +kernel
theorem dX11_save_108 : decode cX11_save 108 = .ok (.aload_n 0, 1) := by decide +kernel
theorem dX11_save_109 : decode cX11_save 109 = .ok (.dup, 1) := by decide +kernel
theorem dX11_save_110 : decode cX11_save 110 = .ok (.getfield 184, 3) := by decide +kernel
theorem dX11_save_113 : decode cX11_save 113 = .ok (.iconst 1, 1) := by decide +kernel
theorem dX11_save_114 : decode cX11_save 114 = .ok (.iadd, 1) := by decide +kernel
theorem dX11_save_115 : decode cX11_save 115 = .ok (.putfield 184, 3) := by decide +kernel
theorem dX11_save_118 : decode cX11_save 118 = .ok (.aload_n 0, 1) := by decide +kernel
theorem dX11_save_119 : decode cX11_save 119 = .ok (.getfield 184, 3) := by decide +kernel
theorem dX11_save_122 : decode cX11_save 122 = .ok (.iconst 1, 1) := by decide +kernel
theorem dX11_save_123 : decode cX11_save 123 = .ok (.isub, 1) := by decide +kernel
theorem dX11_save_124 : decode cX11_save 124 = .ok (.ireturn, 1) := by decide +kernel
theorem dX11_canWrite_0 : decode cX11_canWrite 0 = .ok (.aload_n 0, 1) := by decide +kernel
theorem dX11_canWrite_1 : decode cX11_canWrite 1 = .ok (.getfield 68, 3) := by decide +kernel
theorem dX11_canWrite_4 : decode cX11_canWrite 4 = .ok (.iload_n 1, 1) := by decide +kernel
theorem dX11_canWrite_5 : decode cX11_canWrite 5 = .ok (.iaload, 1) := by decide +kernel
theorem dX11_canWrite_6 : decode cX11_canWrite 6 = .ok (.istore_n 2, 1) := by decide +kernel
theorem dX11_canWrite_7 : decode cX11_canWrite 7 = .ok (.aload_n 0, 1) := by decide +kernel
theorem dX11_canWrite_8 : decode cX11_canWrite 8 = .ok (.getfield 74, 3) := by decide +kernel
theorem dX11_canWrite_11 : decode cX11_canWrite 11 = .ok (.iload_n 1, 1) := by decide +kernel
theorem dX11_canWrite_12 : decode cX11_canWrite 12 = .ok (.baload, 1) := by decide +kernel
theorem dX11_canWrite_13 : decode cX11_canWrite 13 = .ok (.ifCond .ne 56, 3) := by decide +kernel
theorem dX11_canWrite_16 : decode cX11_canWrite 16 = .ok (.aload_n 0, 1) := by decide +kernel
theorem dX11_canWrite_17 : decode cX11_canWrite 17 = .ok (.getfield 71, 3) := by decide +kernel
theorem dX11_canWrite_20 : decode cX11_canWrite 20 = .ok (.iload_n 1, 1) := by decide +kernel
theorem dX11_canWrite_21 : decode cX11_canWrite 21 = .ok (.iaload, 1) := by decide +kernel
theorem dX11_canWrite_22 : decode cX11_canWrite 22 = .ok (.iconst (-1), 1) := by decide +kernel
theorem dX11_canWrite_23 : decode cX11_canWrite 23 = .ok (.if_icmp .eq 17, 3) := by decide +kernel
theorem dX11_canWrite_26 : decode cX11_canWrite 26 = .ok (.aload_n 0, 1) := by decide +kernel
theorem dX11_canWrite_27 : decode cX11_canWrite 27 = .ok (.getfield 41, 3) := by decide +kernel
theorem dX11_canWrite_30 : decode cX11_canWrite 30 = .ok (.aload_n 0, 1) := by decide +kernel
theorem dX11_canWrite_31 : decode cX11_canWrite 31 = .ok (.getfield 71, 3) := by decide +kernel
theorem dX11_canWrite_34 : decode cX11_canWrite 34 = .ok (.iload_n 1, 1) := by decide +kernel
theorem dX11_canWrite_35 : decode cX11_canWrite 35 = .ok (.iaload, 1) := by decide +kernel
theorem dX11_canWrite_36 : decode cX11_canWrite 36 = .ok (.iaload, 1) := by decide +kernel
theorem dX11_canWrite_37 : decode cX11_canWrite 37 = .ok (.ifCond .eq 32, 3) := by decide +kernel
theorem dX11_canWrite_40 : decode cX11_canWrite 40 = .ok (.aload_n 0, 1) := by decide +kernel
theorem dX11_canWrite_41 : decode cX11_canWrite 41 = .ok (.getfield 77, 3) := by decide +kernel
theorem dX11_canWrite_44 : decode cX11_canWrite 44 = .ok (.iload_n 2, 1) := by decide +kernel
theorem dX11_canWrite_45 : decode cX11_canWrite 45 = .ok (.iaload, 1) := by decide +kernel
theorem dX11_canWrite_46 : decode cX11_canWrite 46 = .ok (.iconst (-1), 1) := by decide +kernel
theorem dX11_canWrite_47 : decode cX11_canWrite 47 = .ok (.if_icmp .eq 18, 3) := by decide +kernel
theorem dX11_canWrite_50 : decode cX11_canWrite 50 = .ok (.aload_n 0, 1) := by decide +kernel
theorem dX11_canWrite_51 : decode cX11_canWrite 51 = .ok (.getfield 77, 3) := by decide +kernel
theorem dX11_canWrite_54 : decode cX11_canWrite 54 = .ok (.iload_n 2, 1) := by decide +kernel
theorem dX11_canWrite_55 : decode cX11_canWrite 55 = .ok (.iaload, 1) := by decide +kernel
theorem dX11_canWrite_56 : decode cX11_canWrite 56 = .ok (.aload_n 0, 1) := by decide +kernel
theorem dX11_canWrite_57 : decode cX11_canWrite 57 = .ok (.getfield 65, 3) := by decide +kernel
theorem dX11_canWrite_60 : decode cX11_canWrite 60 = .ok (.iload_n 1, 1) := by decide +kernel
theorem dX11_canWrite_61 : decode cX11_canWrite 61 = .ok (.iaload, 1) := by decide +kernel
theorem dX11_canWrite_62 : decode cX11_canWrite 62 = .ok (.if_icmp .ne 7, 3) := by decide +kernel
theorem dX11_canWrite_65 : decode cX11_canWrite 65 = .ok (.iconst 1, 1) := by decide +kernel
theorem dX11_canWrite_66 : decode cX11_canWrite 66 = .ok (.goto 4, 3) := by decide +kernel
theorem dX11_canWrite_69 : decode cX11_canWrite 69 = .ok (.iconst 0, 1) := by decide +kernel
theorem dX11_canWrite_70 : decode cX11_canWrite 70 = .ok (.istore_n 3, 1) := by decide +kernel
theorem dX11_canWrite_71 : decode cX11_canWrite 71 = .ok (.iconst 0, 1) := by decide +kernel
theorem dX11_canWrite_72 : decode cX11_canWrite 72 = .ok (.istore 4, 2) := by decide +kernel
theorem dX11_canWrite_74 : decode cX11_canWrite 74 = .ok (.iload 4, 2) := by decide +kernel
theorem dX11_canWrite_76 : decode cX11_canWrite 76 = .ok (.iload_n 1, 1) := by decide +kernel
theorem dX11_canWrite_77 : decode cX11_canWrite 77 = .ok (.if_icmp .ge 40, 3) := by decide +kernel
theorem dX11_canWrite_80 : decode cX11_canWrite 80 = .ok (.iload_n 3, 1) := by decide +kernel
theorem dX11_canWrite_81 : decode cX11_canWrite 81 = .ok (.ifCond .eq 28, 3) := by decide +kernel
theorem dX11_canWrite_84 : decode cX11_canWrite 84 = .ok (.aload_n 0, 1) := by decide +kernel
theorem dX11_canWrite_85 : decode cX11_canWrite 85 = .ok (.getfield 74, 3) := by decide +kernel
theorem dX11_canWrite_88 : decode cX11_canWrite 88 = .ok (.iload 4, 2) := by decide +kernel
theorem dX11_canWrite_90 : decode cX11_canWrite 90 = .ok (.baload, 1) := by decide +kernel
theorem dX11_canWrite_91 : decode cX11_canWrite 91 = .ok (.ifCond .ne 14, 3) := by decide +kernel
theorem dX11_canWrite_94 : decode cX11_canWrite 94 = .ok (.aload_n 0, 1) := by decide +kernel
theorem dX11_canWrite_95 : decode cX11_canWrite 95 = .ok (.getfield 68, 3) := by decide +kernel
theorem dX11_canWrite_98 : decode cX11_canWrite 98 = .ok (.iload 4, 2) := by decide +kernel
theorem dX11_canWrite_100 : decode cX11_canWrite 100 = .ok (.iaload, 1) := by decide +kernel
theorem dX11_canWrite_101 : decode cX11_canWrite 101 = .ok (.iload_n 2, 1) := by decide +kernel
theorem dX11_canWrite_102 : decode cX11_canWrite 102 = .ok (.if_icmp .eq 7, 3) := by decide +kernel
theorem dX11_canWrite_105 : decode cX11_canWrite 105 = .ok (.iconst 1, 1) := by decide +kernel
theorem dX11_canWrite_106 : decode cX11_canWrite 106 = .ok (.goto 4, 3) := by decide +kernel
theorem dX11_canWrite_109 : decode cX11_canWrite 109 = .ok (.iconst 0, 1) := by decide +kernel
theorem dX11_canWrite_110 : decode cX11_canWrite 110 = .ok (.istore_n 3, 1) := by decide +kernel
theorem dX11_canWrite_111 : decode cX11_canWrite 111 = .ok (.iinc 4 1, 3) := by decide +kernel
theorem dX11_canWrite_114 : decode cX11_canWrite 114 = .ok (.goto (-40), 3) := by decide +kernel
theorem dX11_canWrite_117 : decode cX11_canWrite 117 = .ok (.iload_n 3, 1) := by decide +kernel
theorem dX11_canWrite_118 : decode cX11_canWrite 118 = .ok (.ireturn, 1) := by decide +kernel
theorem dX11_write_0 : decode cX11_write 0 = .ok (.aload_n 0, 1) := by decide +kernel
theorem dX11_write_1 : decode cX11_write 1 = .ok (.iconst 0, 1) := by decide +kernel
theorem dX11_write_2 : decode cX11_write 2 = .ok (.putfield 95, 3) := by decide +kernel
theorem dX11_write_5 : decode cX11_write 5 = .ok (.iconst 0, 1) := by decide +kernel
theorem dX11_write_6 : decode cX11_write 6 = .ok (.istore_n 1, 1) := by decide +kernel
theorem dX11_write_7 : decode cX11_write 7 = .ok (.iload_n 1, 1) := by decide +kernel
theorem dX11_write_8 : decode cX11_write 8 = .ok (.aload_n 0, 1) := by decide +kernel
theorem dX11_write_9 : decode cX11_write 9 = .ok (.getfield 184, 3) := by decide +kernel
theorem dX11_write_12 : decode cX11_write 12 = .ok (.if_icmp .ge 17, 3) := by decide +kernel
theorem dX11_write_15 : decode cX11_write 15 = .ok (.aload_n 0, 1) := by decide +kernel
theorem dX11_write_16 : decode cX11_write 16 = .ok (.iload_n 1, 1) := by decide +kernel
theorem dX11_write_17 : decode cX11_write 17 = .ok (.invokevirtual 187, 3) := by decide +kernel
theorem dX11_write_20 : decode cX11_write 20 = .ok (.ifCond .ne 9, 3) := by decide +kernel
theorem dX11_write_23 : decode cX11_write 23 = .ok (.iinc 1 1, 3) := by decide +kernel
theorem dX11_write_26 : decode cX11_write 26 = .ok (.goto (-19), 3) := by decide +kernel
theorem dX11_write_29 : decode cX11_write 29 = .ok (.iload_n 1, 1) := by decide +kernel
theorem dX11_write_30 : decode cX11_write 30 = .ok (.aload_n 0, 1) := by decide +kernel
theorem dX11_write_31 : decode cX11_write 31 = .ok (.getfield 184, 3) := by decide +kernel
theorem dX11_write_34 : decode cX11_write 34 = .ok (.if_icmp .ne 5, 3) := by decide +kernel
theorem dX11_write_37 : decode cX11_write 37 = .ok (.iconst (-1), 1) := by decide +kernel
theorem dX11_write_38 : decode cX11_write 38 = .ok (.ireturn, 1) := by decide +kernel
theorem dX11_write_39 : decode cX11_write 39 = .ok (.aload_n 0, 1) := by decide +kernel
theorem dX11_write_40 : decode cX11_write 40 = .ok (.getfield 68, 3) := by decide +kernel
theorem dX11_write_43 : decode cX11_write 43 = .ok (.iload_n 1, 1) := by decide +kernel
theorem dX11_write_44 : decode cX11_write 44 = .ok (.iaload, 1) := by decide +kernel
theorem dX11_write_45 : decode cX11_write 45 = .ok (.istore_n 2, 1) := by decide +kernel
theorem dX11_write_46 : decode cX11_write 46 = .ok (.aload_n 0, 1) := by decide +kernel
theorem dX11_write_47 : decode cX11_write 47 = .ok (.getfield 74, 3) := by decide +kernel
theorem dX11_write_50 : decode cX11_write 50 = .ok (.iload_n 1, 1) := by decide +kernel
theorem dX11_write_51 : decode cX11_write 51 = .ok (.iconst 1, 1) := by decide +kernel
theorem dX11_write_52 : decode cX11_write 52 = .ok (.bastore, 1) := by decide +kernel
theorem dX11_write_53 : decode cX11_write 53 = .ok (.aload_n 0, 1) := by decide +kernel
theorem dX11_write_54 : decode cX11_write 54 = .ok (.iload_n 2, 1) := by decide +kernel
theorem dX11_write_55 : decode cX11_write 55 = .ok (.invokevirtual 128, 3) := by decide +kernel
theorem dX11_write_58 : decode cX11_write 58 = .ok (.aload_n 0, 1) := by decide +kernel
theorem dX11_write_59 : decode cX11_write 59 = .ok (.getfield 80, 3) := by decide +kernel
theorem dX11_write_62 : decode cX11_write 62 = .ok (.iload_n 2, 1) := by decide +kernel
theorem dX11_write_63 : decode cX11_write 63 = .ok (.aload_n 0, 1) := by decide +kernel
theorem dX11_write_64 : decode cX11_write 64 = .ok (.getfield 23, 3) := by decide +kernel
theorem dX11_write_67 : decode cX11_write 67 = .ok (.iload_n 2, 1) := by decide +kernel
theorem dX11_write_68 : decode cX11_write 68 = .ok (.iaload, 1) := by decide +kernel
theorem dX11_write_69 : decode cX11_write 69 = .ok (.iastore, 1) := by decide +kernel
theorem dX11_write_70 : decode cX11_write 70 = .ok (.aload_n 0, 1) := by decide +kernel
theorem dX11_write_71 : decode cX11_write 71 = .ok (.getfield 83, 3) := by decide +kernel
theorem dX11_write_74 : decode cX11_write 74 = .ok (.iload_n 2, 1) := by decide +kernel
theorem dX11_write_75 : decode cX11_write 75 = .ok (.aload_n 0, 1) := by decide +kernel
theorem dX11_write_76 : decode cX11_write 76 = .ok (.getfield 103, 3) := by decide +kernel
theorem dX11_write_79 : decode cX11_write 79 = .ok (.iastore, 1) := by decide +kernel
theorem dX11_write_80 : decode cX11_write 80 = .ok (.iconst 0, 1) := by decide +kernel
theorem dX11_write_81 : decode cX11_write 81 = .ok (.istore_n 3, 1) := by decide +kernel
theorem dX11_write_82 : decode cX11_write 82 = .ok (.iload_n 3, 1) := by decide +kernel
theorem dX11_write_83 : decode cX11_write 83 = .ok (.aload_n 0, 1) := by decide +kernel
theorem dX11_write_84 : decode cX11_write 84 = .ok (.getfield 103, 3) := by decide +kernel
theorem dX11_write_87 : decode cX11_write 87 = .ok (.if_icmp .ge 27, 3) := by decide +kernel
theorem dX11_write_90 : decode cX11_write 90 = .ok (.aload_n 0, 1) := by decide +kernel
theorem dX11_write_91 : decode cX11_write 91 = .ok (.getfield 86, 3) := by decide +kernel
theorem dX11_write_94 : decode cX11_write 94 = .ok (.sipush 150, 3) := by decide +kernel
theorem dX11_write_97 : decode cX11_write 97 = .ok (.iload_n 2, 1) := by decide +kernel
theorem dX11_write_98 : decode cX11_write 98 = .ok (.imul, 1) := by decide +kernel
theorem dX11_write_99 : decode cX11_write 99 = .ok (.iload_n 3, 1) := by decide +kernel
theorem dX11_write_100 : decode cX11_write 100 = .ok (.iadd, 1) := by decide +kernel
theorem dX11_write_101 : decode cX11_write 101 = .ok (.aload_n 0, 1) := by decide +kernel
theorem dX11_write_102 : decode cX11_write 102 = .ok (.iload_n 2, 1) := by decide +kernel
theorem dX11_write_103 : decode cX11_write 103 = .ok (.iload_n 3, 1) := by decide +kernel
theorem dX11_write_104 : decode cX11_write 104 = .ok (.invokevirtual 148, 3) := by decide +kernel
theorem dX11_write_107 : decode cX11_write 107 = .ok (.iastore, 1) := by decide +kernel
theorem dX11_write_108 : decode cX11_write 108 = .ok (.iinc 3 1, 3) := by decide +kernel
theorem dX11_write_111 : decode cX11_write 111 = .ok (.goto (-29), 3) := by decide +kernel
theorem dX11_write_114 : decode cX11_write 114 = .ok (.iload_n 1, 1) := by decide +kernel
theorem dX11_write_115 : decode cX11_write 115 = .ok (.ireturn, 1) := by decide +kernel
theorem dX11_queued_0 : decode cX11_queued 0 = .ok (.aload_n 0, 1) := by decide +kernel
theorem dX11_queued_1 : decode cX11_queued 1 = .ok (.iconst 0, 1) := by decide +kernel
theorem dX11_queued_2 : decode cX11_queued 2 = .ok (.putfield 95, 3) := by decide +kernel
theorem dX11_queued_5 : decode cX11_queued 5 = .ok (.iconst 0, 1) := by decide +kernel
theorem dX11_queued_6 : decode cX11_queued 6 = .ok (.istore_n 1, 1) := by decide +kernel
theorem dX11_queued_7 : decode cX11_queued 7 = .ok (.iconst 0, 1) := by decide +kernel
theorem dX11_queued_8 : decode cX11_queued 8 = .ok (.istore_n 2, 1) := by decide +kernel
theorem dX11_queued_9 : decode cX11_queued 9 = .ok (.iload_n 2, 1) := by decide +kernel
theorem dX11_queued_10 : decode cX11_queued 10 = .ok (.aload_n 0, 1) := by decide +kernel
theorem dX11_queued_11 : decode cX11_queued 11 = .ok (.getfield 184, 3) := by decide +kernel
theorem dX11_queued_14 : decode cX11_queued 14 = .ok (.if_icmp .ge 26, 3) := by decide +kernel
theorem dX11_queued_17 : decode cX11_queued 17 = .ok (.iload_n 1, 1) := by decide +kernel
theorem dX11_queued_18 : decode cX11_queued 18 = .ok (.aload_n 0, 1) := by decide +kernel
theorem dX11_queued_19 : decode cX11_queued 19 = .ok (.getfield 74, 3) := by decide +kernel
theorem dX11_queued_22 : decode cX11_queued 22 = .ok (.iload_n 2, 1) := by decide +kernel
theorem dX11_queued_23 : decode cX11_queued 23 = .ok (.baload, 1) := by decide +kernel
theorem dX11_queued_24 : decode cX11_queued 24 = .ok (.ifCond .eq 7, 3) := by decide +kernel
theorem dX11_queued_27 : decode cX11_queued 27 = .ok (.iconst 0, 1) := by decide +kernel
theorem dX11_queued_28 : decode cX11_queued 28 = .ok (.goto 4, 3) := by decide +kernel
theorem dX11_queued_31 : decode cX11_queued 31 = .ok (.iconst 1, 1) := by decide +kernel
theorem dX11_queued_32 : decode cX11_queued 32 = .ok (.iadd, 1) := by decide +kernel
theorem dX11_queued_33 : decode cX11_queued 33 = .ok (.istore_n 1, 1) := by decide +kernel
theorem dX11_queued_34 : decode cX11_queued 34 = .ok (.iinc 2 1, 3) := by decide +kernel
theorem dX11_queued_37 : decode cX11_queued 37 = .ok (.goto (-28), 3) := by decide +kernel
theorem dX11_queued_40 : decode cX11_queued 40 = .ok (.iload_n 1, 1) := by decide +kernel
theorem dX11_queued_41 : decode cX11_queued 41 = .ok (.ireturn, 1) := by decide +kernel
theorem dX11_savedVersion_0 : decode cX11_savedVersion 0 = .ok (.aload_n 0, 1) := by decide +kernel
theorem dX11_savedVersion_1 : decode cX11_savedVersion 1 = .ok (.iload_n 1, 1) := by decide +kernel
theorem dX11_savedVersion_2 : decode cX11_savedVersion 2 = .ok (.invokestatic 139, 3) := by decide +kernel
theorem dX11_savedVersion_5 : decode cX11_savedVersion 5 = .ok (.iconst 1, 1) := by decide +kernel
theorem dX11_savedVersion_6 : decode cX11_savedVersion 6 = .ok (.iconst 1, 1) := by decide +kernel
theorem dX11_savedVersion_7 : decode cX11_savedVersion 7 = .ok (.invokevirtual 117, 3) := by decide +kernel
theorem dX11_savedVersion_10 : decode cX11_savedVersion 10 = .ok (.ifCond .eq 12, 3) := by decide +kernel
theorem dX11_savedVersion_13 : decode cX11_savedVersion 13 = .ok (.aload_n 0, 1) := by decide +kernel
theorem dX11_savedVersion_14 : decode cX11_savedVersion 14 = .ok (.getfield 80, 3) := by decide +kernel
theorem dX11_savedVersion_17 : decode cX11_savedVersion 17 = .ok (.iload_n 1, 1) := by decide +kernel
theorem dX11_savedVersion_18 : decode cX11_savedVersion 18 = .ok (.iaload, 1) := by decide +kernel
theorem dX11_savedVersion_19 : decode cX11_savedVersion 19 = .ok (.goto 4, 3) := by decide +kernel
theorem dX11_savedVersion_22 : decode cX11_savedVersion 22 = .ok (.iconst 0, 1) := by decide +kernel
theorem dX11_savedVersion_23 : decode cX11_savedVersion 23 = .ok (.ireturn, 1) := by decide +kernel
theorem dX11_savedLength_0 : decode cX11_savedLength 0 = .ok (.aload_n 0, 1) := by decide +kernel
theorem dX11_savedLength_1 : decode cX11_savedLength 1 = .ok (.iload_n 1, 1) := by decide +kernel
theorem dX11_savedLength_2 : decode cX11_savedLength 2 = .ok (.invokestatic 139, 3) := by decide +kernel
theorem dX11_savedLength_5 : decode cX11_savedLength 5 = .ok (.iconst 1, 1) := by decide +kernel
theorem dX11_savedLength_6 : decode cX11_savedLength 6 = .ok (.iconst 1, 1) := by decide +kernel
theorem dX11_savedLength_7 : decode cX11_savedLength 7 = .ok (.invokevirtual 117, 3) := by decide +kernel
theorem dX11_savedLength_10 : decode cX11_savedLength 10 = .ok (.ifCond .eq 12, 3) := by decide +kernel
theorem dX11_savedLength_13 : decode cX11_savedLength 13 = .ok (.aload_n 0, 1) := by decide +kernel
theorem dX11_savedLength_14 : decode cX11_savedLength 14 = .ok (.getfield 83, 3) := by decide +kernel
theorem dX11_savedLength_17 : decode cX11_savedLength 17 = .ok (.iload_n 1, 1) := by decide +kernel
theorem dX11_savedLength_18 : decode cX11_savedLength 18 = .ok (.iaload, 1) := by decide +kernel
theorem dX11_savedLength_19 : decode cX11_savedLength 19 = .ok (.goto 4, 3) := by decide +kernel
theorem dX11_savedLength_22 : decode cX11_savedLength 22 = .ok (.iconst 0, 1) := by decide +kernel
theorem dX11_savedLength_23 : decode cX11_savedLength 23 = .ok (.ireturn, 1) := by decide +kernel
theorem dX11_savedLetter_0 : decode cX11_savedLetter 0 = .ok (.iload_n 1, 1) := by decide +kernel
theorem dX11_savedLetter_1 : decode cX11_savedLetter 1 = .ok (.invokestatic 139, 3) := by decide +kernel
theorem dX11_savedLetter_4 : decode cX11_savedLetter 4 = .ok (.istore_n 3, 1) := by decide +kernel
theorem dX11_savedLetter_5 : decode cX11_savedLetter 5 = .ok (.aload_n 0, 1) := by decide +kernel
theorem dX11_savedLetter_6 : decode cX11_savedLetter 6 = .ok (.iload_n 3, 1) := by decide +kernel
theorem dX11_savedLetter_7 : decode cX11_savedLetter 7 = .ok (.ifCond .eq 28, 3) := by decide +kernel
theorem dX11_savedLetter_10 : decode cX11_savedLetter 10 = .ok (.iload_n 2, 1) := by decide +kernel
theorem dX11_savedLetter_11 : decode cX11_savedLetter 11 = .ok (.aload_n 0, 1) := by decide +kernel
theorem dX11_savedLetter_12 : decode cX11_savedLetter 12 = .ok (.getfield 83, 3) := by decide +kernel
theorem dX11_savedLetter_15 : decode cX11_savedLetter 15 = .ok (.iload_n 3, 1) := by decide +kernel
theorem dX11_savedLetter_16 : decode cX11_savedLetter 16 = .ok (.ifCond .eq 7, 3) := by decide +kernel
theorem dX11_savedLetter_19 : decode cX11_savedLetter 19 = .ok (.iload_n 1, 1) := by decide +kernel
theorem dX11_savedLetter_20 : decode cX11_savedLetter 20 = .ok (.goto 4, 3) := by decide +kernel
theorem dX11_savedLetter_23 : decode cX11_savedLetter 23 = .ok (.iconst 0, 1) := by decide +kernel
theorem dX11_savedLetter_24 : decode cX11_savedLetter 24 = .ok (.iaload, 1) := by decide +kernel
theorem dX11_savedLetter_25 : decode cX11_savedLetter 25 = .ok (.invokestatic 99, 3) := by decide +kernel
theorem dX11_savedLetter_28 : decode cX11_savedLetter 28 = .ok (.ifCond .eq 7, 3) := by decide +kernel
theorem dX11_savedLetter_31 : decode cX11_savedLetter 31 = .ok (.iconst 1, 1) := by decide +kernel
theorem dX11_savedLetter_32 : decode cX11_savedLetter 32 = .ok (.goto 4, 3) := by decide +kernel
theorem dX11_savedLetter_35 : decode cX11_savedLetter 35 = .ok (.iconst 0, 1) := by decide +kernel
theorem dX11_savedLetter_36 : decode cX11_savedLetter 36 = .ok (.iconst 1, 1) := by decide +kernel
theorem dX11_savedLetter_37 : decode cX11_savedLetter 37 = .ok (.iconst 1, 1) := by decide +kernel
theorem dX11_savedLetter_38 : decode cX11_savedLetter 38 = .ok (.invokevirtual 117, 3) := by decide +kernel
theorem dX11_savedLetter_41 : decode cX11_savedLetter 41 = .ok (.ifCond .eq 19, 3) := by decide +kernel
theorem dX11_savedLetter_44 : decode cX11_savedLetter 44 = .ok (.aload_n 0, 1) := by decide +kernel
theorem dX11_savedLetter_45 : decode cX11_savedLetter 45 = .ok (.getfield 86, 3) := by decide +kernel
theorem dX11_savedLetter_48 : decode cX11_savedLetter 48 = .ok (.sipush 150, 3) := by decide +kernel
theorem dX11_savedLetter_51 : decode cX11_savedLetter 51 = .ok (.iload_n 1, 1) := by decide +kernel
theorem dX11_savedLetter_52 : decode cX11_savedLetter 52 = .ok (.imul, 1) := by decide +kernel
theorem dX11_savedLetter_53 : decode cX11_savedLetter 53 = .ok (.iload_n 2, 1) := by decide +kernel
theorem dX11_savedLetter_54 : decode cX11_savedLetter 54 = .ok (.iadd, 1) := by decide +kernel
theorem dX11_savedLetter_55 : decode cX11_savedLetter 55 = .ok (.iaload, 1) := by decide +kernel
theorem dX11_savedLetter_56 : decode cX11_savedLetter 56 = .ok (.i2c, 1) := by decide +kernel
theorem dX11_savedLetter_57 : decode cX11_savedLetter 57 = .ok (.goto 4, 3) := by decide +kernel
theorem dX11_savedLetter_60 : decode cX11_savedLetter 60 = .ok (.iconst 0, 1) := by decide +kernel
theorem dX11_savedLetter_61 : decode cX11_savedLetter 61 = .ok (.ireturn, 1) := by decide +kernel
theorem dJ9_max_7cf53_0 : decode cJ9_max_7cf53 0 = .ok (.iload_n 0, 1) := by decide +kernel
theorem dJ9_max_7cf53_1 : decode cJ9_max_7cf53 1 = .ok (.iload_n 1, 1) := by decide +kernel
theorem dJ9_max_7cf53_2 : decode cJ9_max_7cf53 2 = .ok (.if_icmp .lt 7, 3) := by decide +kernel
theorem dJ9_max_7cf53_5 : decode cJ9_max_7cf53 5 = .ok (.iload_n 0, 1) := by decide +kernel
theorem dJ9_max_7cf53_6 : decode cJ9_max_7cf53 6 = .ok (.goto 4, 3) := by decide +kernel
theorem dJ9_max_7cf53_9 : decode cJ9_max_7cf53 9 = .ok (.iload_n 1, 1) := by decide +kernel
theorem dJ9_max_7cf53_10 : decode cJ9_max_7cf53 10 = .ok (.ireturn, 1) := by decide +kernel
theorem dJ9_min_7cf53_0 : decode cJ9_min_7cf53 0 = .ok (.iload_n 0, 1) := by decide +kernel
theorem dJ9_min_7cf53_1 : decode cJ9_min_7cf53 1 = .ok (.iload_n 1, 1) := by decide +kernel
theorem dJ9_min_7cf53_2 : decode cJ9_min_7cf53 2 = .ok (.if_icmp .gt 7, 3) := by decide +kernel
theorem dJ9_min_7cf53_5 : decode cJ9_min_7cf53 5 = .ok (.iload_n 0, 1) := by decide +kernel
theorem dJ9_min_7cf53_6 : decode cJ9_min_7cf53 6 = .ok (.goto 4, 3) := by decide +kernel
theorem dJ9_min_7cf53_9 : decode cJ9_min_7cf53 9 = .ok (.iload_n 1, 1) := by decide +kernel
theorem dJ9_min_7cf53_10 : decode cJ9_min_7cf53 10 = .ok (.ireturn, 1) := by decide +kernel
theorem dJxa1e45_init_da8c8_0 : decode cJxa1e45_init_da8c8 0 = .ok (.aload_n 0, 1) := by decide +kernel
theorem dJxa1e45_init_da8c8_1 : decode cJxa1e45_init_da8c8 1 = .ok (.invokespecial 1, 3) := by decide +kernel
theorem dJxa1e45_init_da8c8_4 : decode cJxa1e45_init_da8c8 4 = .ok (.return_, 1) := by decide +kernel
theorem dJxc12de_init_da8c8_0 : decode cJxc12de_init_da8c8 0 = .ok (.aload_n 0, 1) := by decide +kernel
theorem dJxc12de_init_da8c8_1 : decode cJxc12de_init_da8c8 1 = .ok (.invokespecial 1, 3) := by decide +kernel
theorem dJxc12de_init_da8c8_4 : decode cJxc12de_init_da8c8 4 = .ok (.aload_n 0, 1) := by decide +kernel
theorem dJxc12de_init_da8c8_5 : decode cJxc12de_init_da8c8 5 = .ok (.iconst 0, 1) := by decide +kernel
theorem dJxc12de_init_da8c8_6 : decode cJxc12de_init_da8c8 6 = .ok (.putfield 7, 3) := by decide +kernel
theorem dJxc12de_init_da8c8_9 : decode cJxc12de_init_da8c8 9 = .ok (.return_, 1) := by decide +kernel
theorem dJx4a65c_init_da8c8_0 : decode cJx4a65c_init_da8c8 0 = .ok (.aload_n 0, 1) := by decide +kernel
theorem dJx4a65c_init_da8c8_1 : decode cJx4a65c_init_da8c8 1 = .ok (.invokespecial 1, 3) := by decide +kernel
theorem dJx4a65c_init_da8c8_4 : decode cJx4a65c_init_da8c8 4 = .ok (.aload_n 0, 1) := by decide +kernel
theorem dJx4a65c_init_da8c8_5 : decode cJx4a65c_init_da8c8 5 = .ok (.getstatic 39, 3) := by decide +kernel
theorem dJx4a65c_init_da8c8_8 : decode cJx4a65c_init_da8c8 8 = .ok (.putfield 9, 3) := by decide +kernel
theorem dJx4a65c_init_da8c8_11 : decode cJx4a65c_init_da8c8 11 = .ok (.return_, 1) := by decide +kernel
theorem dJx4a65c_grow_92f84_0 : decode cJx4a65c_grow_92f84 0 = .ok (.aload_n 0, 1) := by decide +kernel
theorem dJx4a65c_grow_92f84_1 : decode cJx4a65c_grow_92f84 1 = .ok (.getfield 9, 3) := by decide +kernel
theorem dJx4a65c_grow_92f84_4 : decode cJx4a65c_grow_92f84 4 = .ok (.arraylength, 1) := by decide +kernel
theorem dJx4a65c_grow_92f84_5 : decode cJx4a65c_grow_92f84 5 = .ok (.istore_n 2, 1) := by decide +kernel
theorem dJx4a65c_grow_92f84_6 : decode cJx4a65c_grow_92f84 6 = .ok (.iload_n 2, 1) := by decide +kernel
theorem dJx4a65c_grow_92f84_7 : decode cJx4a65c_grow_92f84 7 = .ok (.ifCond .gt 13, 3) := by decide +kernel
theorem dJx4a65c_grow_92f84_10 : decode cJx4a65c_grow_92f84 10 = .ok (.aload_n 0, 1) := by decide +kernel
theorem dJx4a65c_grow_92f84_11 : decode cJx4a65c_grow_92f84 11 = .ok (.getfield 9, 3) := by decide +kernel
theorem dJx4a65c_grow_92f84_14 : decode cJx4a65c_grow_92f84 14 = .ok (.getstatic 39, 3) := by decide +kernel
theorem dJx4a65c_grow_92f84_17 : decode cJx4a65c_grow_92f84 17 = .ok (.if_acmp .eq 28, 3) := by decide +kernel
theorem dJx4a65c_grow_92f84_20 : decode cJx4a65c_grow_92f84 20 = .ok (.iload_n 2, 1) := by decide +kernel
theorem dJx4a65c_grow_92f84_21 : decode cJx4a65c_grow_92f84 21 = .ok (.iload_n 1, 1) := by decide +kernel
theorem dJx4a65c_grow_92f84_22 : decode cJx4a65c_grow_92f84 22 = .ok (.iload_n 2, 1) := by decide +kernel
theorem dJx4a65c_grow_92f84_23 : decode cJx4a65c_grow_92f84 23 = .ok (.isub, 1) := by decide +kernel
theorem dJx4a65c_grow_92f84_24 : decode cJx4a65c_grow_92f84 24 = .ok (.iload_n 2, 1) := by decide +kernel
theorem dJx4a65c_grow_92f84_25 : decode cJx4a65c_grow_92f84 25 = .ok (.iconst 1, 1) := by decide +kernel
theorem dJx4a65c_grow_92f84_26 : decode cJx4a65c_grow_92f84 26 = .ok (.ishr, 1) := by decide +kernel
theorem dJx4a65c_grow_92f84_27 : decode cJx4a65c_grow_92f84 27 = .ok (.invokestatic 73, 3) := by decide +kernel
theorem dJx4a65c_grow_92f84_30 : decode cJx4a65c_grow_92f84 30 = .ok (.istore_n 3, 1) := by decide +kernel
theorem dJx4a65c_grow_92f84_31 : decode cJx4a65c_grow_92f84 31 = .ok (.aload_n 0, 1) := by decide +kernel
theorem dJx4a65c_grow_92f84_32 : decode cJx4a65c_grow_92f84 32 = .ok (.aload_n 0, 1) := by decide +kernel
theorem dJx4a65c_grow_92f84_33 : decode cJx4a65c_grow_92f84 33 = .ok (.getfield 9, 3) := by decide +kernel
theorem dJx4a65c_grow_92f84_36 : decode cJx4a65c_grow_92f84 36 = .ok (.iload_n 3, 1) := by decide +kernel
theorem dJx4a65c_grow_92f84_37 : decode cJx4a65c_grow_92f84 37 = .ok (.invokestatic 66, 3) := by decide +kernel
theorem dJx4a65c_grow_92f84_40 : decode cJx4a65c_grow_92f84 40 = .ok (.dup_x1, 1) := by decide +kernel
theorem dJx4a65c_grow_92f84_41 : decode cJx4a65c_grow_92f84 41 = .ok (.putfield 9, 3) := by decide +kernel
theorem dJx4a65c_grow_92f84_44 : decode cJx4a65c_grow_92f84 44 = .ok (.areturn, 1) := by decide +kernel
theorem dJx4a65c_grow_92f84_45 : decode cJx4a65c_grow_92f84 45 = .ok (.aload_n 0, 1) := by decide +kernel
theorem dJx4a65c_grow_92f84_46 : decode cJx4a65c_grow_92f84 46 = .ok (.bipush 10, 2) := by decide +kernel
theorem dJx4a65c_grow_92f84_48 : decode cJx4a65c_grow_92f84 48 = .ok (.iload_n 1, 1) := by decide +kernel
theorem dJx4a65c_grow_92f84_49 : decode cJx4a65c_grow_92f84 49 = .ok (.invokestatic 79, 3) := by decide +kernel
theorem dJx4a65c_grow_92f84_52 : decode cJx4a65c_grow_92f84 52 = .ok (.anewarray 7, 3) := by decide +kernel
theorem dJx4a65c_grow_92f84_55 : decode cJx4a65c_grow_92f84 55 = .ok (.dup_x1, 1) := by decide +kernel
theorem dJx4a65c_grow_92f84_56 : decode cJx4a65c_grow_92f84 56 = .ok (.putfield 9, 3) := by decide +kernel
theorem dJx4a65c_grow_92f84_59 : decode cJx4a65c_grow_92f84 59 = .ok (.areturn, 1) := by decide +kernel
theorem dJx4a65c_grow_d5877_0 : decode cJx4a65c_grow_d5877 0 = .ok (.aload_n 0, 1) := by decide +kernel
theorem dJx4a65c_grow_d5877_1 : decode cJx4a65c_grow_d5877 1 = .ok (.aload_n 0, 1) := by decide +kernel
theorem dJx4a65c_grow_d5877_2 : decode cJx4a65c_grow_d5877 2 = .ok (.getfield 48, 3) := by decide +kernel
theorem dJx4a65c_grow_d5877_5 : decode cJx4a65c_grow_d5877 5 = .ok (.iconst 1, 1) := by decide +kernel
theorem dJx4a65c_grow_d5877_6 : decode cJx4a65c_grow_d5877 6 = .ok (.iadd, 1) := by decide +kernel
theorem dJx4a65c_grow_d5877_7 : decode cJx4a65c_grow_d5877 7 = .ok (.invokevirtual 69, 3) := by decide +kernel
theorem dJx4a65c_grow_d5877_10 : decode cJx4a65c_grow_d5877 10 = .ok (.areturn, 1) := by decide +kernel
theorem dJx4a65c_size_8abf5_0 : decode cJx4a65c_size_8abf5 0 = .ok (.aload_n 0, 1) := by decide +kernel
theorem dJx4a65c_size_8abf5_1 : decode cJx4a65c_size_8abf5 1 = .ok (.getfield 48, 3) := by decide +kernel
theorem dJx4a65c_size_8abf5_4 : decode cJx4a65c_size_8abf5 4 = .ok (.ireturn, 1) := by decide +kernel
theorem dJx4a65c_elementData_915e3_0 : decode cJx4a65c_elementData_915e3 0 = .ok (.aload_n 0, 1) := by decide +kernel
theorem dJx4a65c_elementData_915e3_1 : decode cJx4a65c_elementData_915e3 1 = .ok (.getfield 9, 3) := by decide +kernel
theorem dJx4a65c_elementData_915e3_4 : decode cJx4a65c_elementData_915e3 4 = .ok (.iload_n 1, 1) := by decide +kernel
theorem dJx4a65c_elementData_915e3_5 : decode cJx4a65c_elementData_915e3 5 = .ok (.aaload, 1) := by decide +kernel
theorem dJx4a65c_elementData_915e3_6 : decode cJx4a65c_elementData_915e3 6 = .ok (.areturn, 1) := by decide +kernel
theorem dJx4a65c_get_915e3_0 : decode cJx4a65c_get_915e3 0 = .ok (.iload_n 1, 1) := by decide +kernel
theorem dJx4a65c_get_915e3_1 : decode cJx4a65c_get_915e3 1 = .ok (.aload_n 0, 1) := by decide +kernel
theorem dJx4a65c_get_915e3_2 : decode cJx4a65c_get_915e3 2 = .ok (.getfield 48, 3) := by decide +kernel
theorem dJx4a65c_get_915e3_5 : decode cJx4a65c_get_915e3 5 = .ok (.invokestatic 118, 3) := by decide +kernel
theorem dJx4a65c_get_915e3_8 : decode cJx4a65c_get_915e3 8 = .ok (.pop, 1) := by decide +kernel
theorem dJx4a65c_get_915e3_9 : decode cJx4a65c_get_915e3 9 = .ok (.aload_n 0, 1) := by decide +kernel
theorem dJx4a65c_get_915e3_10 : decode cJx4a65c_get_915e3 10 = .ok (.iload_n 1, 1) := by decide +kernel
theorem dJx4a65c_get_915e3_11 : decode cJx4a65c_get_915e3 11 = .ok (.invokevirtual 123, 3) := by decide +kernel
theorem dJx4a65c_get_915e3_14 : decode cJx4a65c_get_915e3 14 = .ok (.areturn, 1) := by decide +kernel
theorem dJx4a65c_add_72be8_0 : decode cJx4a65c_add_72be8 0 = .ok (.iload_n 3, 1) := by decide +kernel
theorem dJx4a65c_add_72be8_1 : decode cJx4a65c_add_72be8 1 = .ok (.aload_n 2, 1) := by decide +kernel
theorem dJx4a65c_add_72be8_2 : decode cJx4a65c_add_72be8 2 = .ok (.arraylength, 1) := by decide +kernel
theorem dJx4a65c_add_72be8_3 : decode cJx4a65c_add_72be8 3 = .ok (.if_icmp .ne 8, 3) := by decide +kernel
theorem dJx4a65c_add_72be8_6 : decode cJx4a65c_add_72be8 6 = .ok (.aload_n 0, 1) := by decide +kernel
theorem dJx4a65c_add_72be8_7 : decode cJx4a65c_add_72be8 7 = .ok (.invokevirtual 129, 3) := by decide +kernel
theorem dJx4a65c_add_72be8_10 : decode cJx4a65c_add_72be8 10 = .ok (.astore_n 2, 1) := by decide +kernel
theorem dJx4a65c_add_72be8_11 : decode cJx4a65c_add_72be8 11 = .ok (.aload_n 2, 1) := by decide +kernel
theorem dJx4a65c_add_72be8_12 : decode cJx4a65c_add_72be8 12 = .ok (.iload_n 3, 1) := by decide +kernel
theorem dJx4a65c_add_72be8_13 : decode cJx4a65c_add_72be8 13 = .ok (.aload_n 1, 1) := by decide +kernel
theorem dJx4a65c_add_72be8_14 : decode cJx4a65c_add_72be8 14 = .ok (.aastore, 1) := by decide +kernel
theorem dJx4a65c_add_72be8_15 : decode cJx4a65c_add_72be8 15 = .ok (.aload_n 0, 1) := by decide +kernel
theorem dJx4a65c_add_72be8_16 : decode cJx4a65c_add_72be8 16 = .ok (.iload_n 3, 1) := by decide +kernel
theorem dJx4a65c_add_72be8_17 : decode cJx4a65c_add_72be8 17 = .ok (.iconst 1, 1) := by decide +kernel
theorem dJx4a65c_add_72be8_18 : decode cJx4a65c_add_72be8 18 = .ok (.iadd, 1) := by decide +kernel
theorem dJx4a65c_add_72be8_19 : decode cJx4a65c_add_72be8 19 = .ok (.putfield 48, 3) := by decide +kernel
theorem dJx4a65c_add_72be8_22 : decode cJx4a65c_add_72be8 22 = .ok (.return_, 1) := by decide +kernel
theorem dJx4a65c_add_9ea2d_0 : decode cJx4a65c_add_9ea2d 0 = .ok (.aload_n 0, 1) := by decide +kernel
theorem dJx4a65c_add_9ea2d_1 : decode cJx4a65c_add_9ea2d 1 = .ok (.dup, 1) := by decide +kernel
theorem dJx4a65c_add_9ea2d_2 : decode cJx4a65c_add_9ea2d 2 = .ok (.getfield 63, 3) := by decide +kernel
theorem dJx4a65c_add_9ea2d_5 : decode cJx4a65c_add_9ea2d 5 = .ok (.iconst 1, 1) := by decide +kernel
theorem dJx4a65c_add_9ea2d_6 : decode cJx4a65c_add_9ea2d 6 = .ok (.iadd, 1) := by decide +kernel
theorem dJx4a65c_add_9ea2d_7 : decode cJx4a65c_add_9ea2d 7 = .ok (.putfield 63, 3) := by decide +kernel
theorem dJx4a65c_add_9ea2d_10 : decode cJx4a65c_add_9ea2d 10 = .ok (.aload_n 0, 1) := by decide +kernel
theorem dJx4a65c_add_9ea2d_11 : decode cJx4a65c_add_9ea2d 11 = .ok (.aload_n 1, 1) := by decide +kernel
theorem dJx4a65c_add_9ea2d_12 : decode cJx4a65c_add_9ea2d 12 = .ok (.aload_n 0, 1) := by decide +kernel
theorem dJx4a65c_add_9ea2d_13 : decode cJx4a65c_add_9ea2d 13 = .ok (.getfield 9, 3) := by decide +kernel
theorem dJx4a65c_add_9ea2d_16 : decode cJx4a65c_add_9ea2d 16 = .ok (.aload_n 0, 1) := by decide +kernel
theorem dJx4a65c_add_9ea2d_17 : decode cJx4a65c_add_9ea2d 17 = .ok (.getfield 48, 3) := by decide +kernel
theorem dJx4a65c_add_9ea2d_20 : decode cJx4a65c_add_9ea2d 20 = .ok (.invokevirtual 131, 3) := by decide +kernel
theorem dJx4a65c_add_9ea2d_23 : decode cJx4a65c_add_9ea2d 23 = .ok (.iconst 1, 1) := by decide +kernel
theorem dJx4a65c_add_9ea2d_24 : decode cJx4a65c_add_9ea2d 24 = .ok (.ireturn, 1) := by decide +kernel
theorem dJx4a65c_remove_915e3_0 : decode cJx4a65c_remove_915e3 0 = .ok (.iload_n 1, 1) := by decide +kernel
theorem dJx4a65c_remove_915e3_1 : decode cJx4a65c_remove_915e3 1 = .ok (.aload_n 0, 1) := by decide +kernel
theorem dJx4a65c_remove_915e3_2 : decode cJx4a65c_remove_915e3 2 = .ok (.getfield 48, 3) := by decide +kernel
theorem dJx4a65c_remove_915e3_5 : decode cJx4a65c_remove_915e3 5 = .ok (.invokestatic 118, 3) := by decide +kernel
theorem dJx4a65c_remove_915e3_8 : decode cJx4a65c_remove_915e3 8 = .ok (.pop, 1) := by decide +kernel
theorem dJx4a65c_remove_915e3_9 : decode cJx4a65c_remove_915e3 9 = .ok (.aload_n 0, 1) := by decide +kernel
theorem dJx4a65c_remove_915e3_10 : decode cJx4a65c_remove_915e3 10 = .ok (.getfield 9, 3) := by decide +kernel
theorem dJx4a65c_remove_915e3_13 : decode cJx4a65c_remove_915e3 13 = .ok (.astore_n 2, 1) := by decide +kernel
theorem dJx4a65c_remove_915e3_14 : decode cJx4a65c_remove_915e3 14 = .ok (.aload_n 2, 1) := by decide +kernel
theorem dJx4a65c_remove_915e3_15 : decode cJx4a65c_remove_915e3 15 = .ok (.iload_n 1, 1) := by decide +kernel
theorem dJx4a65c_remove_915e3_16 : decode cJx4a65c_remove_915e3 16 = .ok (.aaload, 1) := by decide +kernel
theorem dJx4a65c_remove_915e3_17 : decode cJx4a65c_remove_915e3 17 = .ok (.astore_n 3, 1) := by decide +kernel
theorem dJx4a65c_remove_915e3_18 : decode cJx4a65c_remove_915e3 18 = .ok (.aload_n 0, 1) := by decide +kernel
theorem dJx4a65c_remove_915e3_19 : decode cJx4a65c_remove_915e3 19 = .ok (.aload_n 2, 1) := by decide +kernel
theorem dJx4a65c_remove_915e3_20 : decode cJx4a65c_remove_915e3 20 = .ok (.iload_n 1, 1) := by decide +kernel
theorem dJx4a65c_remove_915e3_21 : decode cJx4a65c_remove_915e3 21 = .ok (.invokevirtual 144, 3) := by decide +kernel
theorem dJx4a65c_remove_915e3_24 : decode cJx4a65c_remove_915e3 24 = .ok (.aload_n 3, 1) := by decide +kernel
theorem dJx4a65c_remove_915e3_25 : decode cJx4a65c_remove_915e3 25 = .ok (.areturn, 1) := by decide +kernel
theorem dJx4a65c_fastRemove_b59b0_0 : decode cJx4a65c_fastRemove_b59b0 0 = .ok (.aload_n 0, 1) := by decide +kernel
theorem dJx4a65c_fastRemove_b59b0_1 : decode cJx4a65c_fastRemove_b59b0 1 = .ok (.dup, 1) := by decide +kernel
theorem dJx4a65c_fastRemove_b59b0_2 : decode cJx4a65c_fastRemove_b59b0 2 = .ok (.getfield 63, 3) := by decide +kernel
theorem dJx4a65c_fastRemove_b59b0_5 : decode cJx4a65c_fastRemove_b59b0 5 = .ok (.iconst 1, 1) := by decide +kernel
theorem dJx4a65c_fastRemove_b59b0_6 : decode cJx4a65c_fastRemove_b59b0 6 = .ok (.iadd, 1) := by decide +kernel
theorem dJx4a65c_fastRemove_b59b0_7 : decode cJx4a65c_fastRemove_b59b0 7 = .ok (.putfield 63, 3) := by decide +kernel
theorem dJx4a65c_fastRemove_b59b0_10 : decode cJx4a65c_fastRemove_b59b0 10 = .ok (.aload_n 0, 1) := by decide +kernel
theorem dJx4a65c_fastRemove_b59b0_11 : decode cJx4a65c_fastRemove_b59b0 11 = .ok (.getfield 48, 3) := by decide +kernel
theorem dJx4a65c_fastRemove_b59b0_14 : decode cJx4a65c_fastRemove_b59b0 14 = .ok (.iconst 1, 1) := by decide +kernel
theorem dJx4a65c_fastRemove_b59b0_15 : decode cJx4a65c_fastRemove_b59b0 15 = .ok (.isub, 1) := by decide +kernel
theorem dJx4a65c_fastRemove_b59b0_16 : decode cJx4a65c_fastRemove_b59b0 16 = .ok (.dup, 1) := by decide +kernel
theorem dJx4a65c_fastRemove_b59b0_17 : decode cJx4a65c_fastRemove_b59b0 17 = .ok (.istore_n 3, 1) := by decide +kernel
theorem dJx4a65c_fastRemove_b59b0_18 : decode cJx4a65c_fastRemove_b59b0 18 = .ok (.iload_n 2, 1) := by decide +kernel
theorem dJx4a65c_fastRemove_b59b0_19 : decode cJx4a65c_fastRemove_b59b0 19 = .ok (.if_icmp .le 15, 3) := by decide +kernel
theorem dJx4a65c_fastRemove_b59b0_22 : decode cJx4a65c_fastRemove_b59b0 22 = .ok (.aload_n 1, 1) := by decide +kernel
theorem dJx4a65c_fastRemove_b59b0_23 : decode cJx4a65c_fastRemove_b59b0 23 = .ok (.iload_n 2, 1) := by decide +kernel
theorem dJx4a65c_fastRemove_b59b0_24 : decode cJx4a65c_fastRemove_b59b0 24 = .ok (.iconst 1, 1) := by decide +kernel
theorem dJx4a65c_fastRemove_b59b0_25 : decode cJx4a65c_fastRemove_b59b0 25 = .ok (.iadd, 1) := by decide +kernel
theorem dJx4a65c_fastRemove_b59b0_26 : decode cJx4a65c_fastRemove_b59b0 26 = .ok (.aload_n 1, 1) := by decide +kernel
theorem dJx4a65c_fastRemove_b59b0_27 : decode cJx4a65c_fastRemove_b59b0 27 = .ok (.iload_n 2, 1) := by decide +kernel
theorem dJx4a65c_fastRemove_b59b0_28 : decode cJx4a65c_fastRemove_b59b0 28 = .ok (.iload_n 3, 1) := by decide +kernel
theorem dJx4a65c_fastRemove_b59b0_29 : decode cJx4a65c_fastRemove_b59b0 29 = .ok (.iload_n 2, 1) := by decide +kernel
theorem dJx4a65c_fastRemove_b59b0_30 : decode cJx4a65c_fastRemove_b59b0 30 = .ok (.isub, 1) := by decide +kernel
theorem dJx4a65c_fastRemove_b59b0_31 : decode cJx4a65c_fastRemove_b59b0 31 = .ok (.invokestatic 112, 3) := by decide +kernel
theorem dJx4a65c_fastRemove_b59b0_34 : decode cJx4a65c_fastRemove_b59b0 34 = .ok (.aload_n 1, 1) := by decide +kernel
theorem dJx4a65c_fastRemove_b59b0_35 : decode cJx4a65c_fastRemove_b59b0 35 = .ok (.aload_n 0, 1) := by decide +kernel
theorem dJx4a65c_fastRemove_b59b0_36 : decode cJx4a65c_fastRemove_b59b0 36 = .ok (.iload_n 3, 1) := by decide +kernel
theorem dJx4a65c_fastRemove_b59b0_37 : decode cJx4a65c_fastRemove_b59b0 37 = .ok (.dup_x1, 1) := by decide +kernel
theorem dJx4a65c_fastRemove_b59b0_38 : decode cJx4a65c_fastRemove_b59b0 38 = .ok (.putfield 48, 3) := by decide +kernel
theorem dJx4a65c_fastRemove_b59b0_41 : decode cJx4a65c_fastRemove_b59b0 41 = .ok (.aconst_null, 1) := by decide +kernel
theorem dJx4a65c_fastRemove_b59b0_42 : decode cJx4a65c_fastRemove_b59b0 42 = .ok (.aastore, 1) := by decide +kernel
theorem dJx4a65c_fastRemove_b59b0_43 : decode cJx4a65c_fastRemove_b59b0 43 = .ok (.return_, 1) := by decide +kernel
theorem dJ7_copyOf_1904c_0 : decode cJ7_copyOf_1904c 0 = .ok (.aload_n 0, 1) := by decide +kernel
theorem dJ7_copyOf_1904c_1 : decode cJ7_copyOf_1904c 1 = .ok (.iload_n 1, 1) := by decide +kernel
theorem dJ7_copyOf_1904c_2 : decode cJ7_copyOf_1904c 2 = .ok (.aload_n 0, 1) := by decide +kernel
theorem dJ7_copyOf_1904c_3 : decode cJ7_copyOf_1904c 3 = .ok (.invokevirtual 86, 3) := by decide +kernel
theorem dJ7_copyOf_1904c_6 : decode cJ7_copyOf_1904c 6 = .ok (.invokestatic 300, 3) := by decide +kernel
theorem dJ7_copyOf_1904c_9 : decode cJ7_copyOf_1904c 9 = .ok (.areturn, 1) := by decide +kernel
theorem dJ7_copyOf_6403c_0 : decode cJ7_copyOf_6403c 0 = .ok (.aload_n 2, 1) := by decide +kernel
theorem dJ7_copyOf_6403c_1 : decode cJ7_copyOf_6403c 1 = .ok (.ldc 110, 2) := by decide +kernel
theorem dJ7_copyOf_6403c_3 : decode cJ7_copyOf_6403c 3 = .ok (.if_acmp .ne 10, 3) := by decide +kernel
theorem dJ7_copyOf_6403c_6 : decode cJ7_copyOf_6403c 6 = .ok (.iload_n 1, 1) := by decide +kernel
theorem dJ7_copyOf_6403c_7 : decode cJ7_copyOf_6403c 7 = .ok (.anewarray 2, 3) := by decide +kernel
theorem dJ7_copyOf_6403c_10 : decode cJ7_copyOf_6403c 10 = .ok (.goto 14, 3) := by decide +kernel
theorem dJ7_copyOf_6403c_13 : decode cJ7_copyOf_6403c 13 = .ok (.aload_n 2, 1) := by decide +kernel
theorem dJ7_copyOf_6403c_14 : decode cJ7_copyOf_6403c 14 = .ok (.invokevirtual 90, 3) := by decide +kernel
theorem dJ7_copyOf_6403c_17 : decode cJ7_copyOf_6403c 17 = .ok (.iload_n 1, 1) := by decide +kernel
theorem dJ7_copyOf_6403c_18 : decode cJ7_copyOf_6403c 18 = .ok (.invokestatic 95, 3) := by decide +kernel
theorem dJ7_copyOf_6403c_21 : decode cJ7_copyOf_6403c 21 = .ok (.checkcast 110, 3) := by decide +kernel
theorem dJ7_copyOf_6403c_24 : decode cJ7_copyOf_6403c 24 = .ok (.astore_n 3, 1) := by decide +kernel
theorem dJ7_copyOf_6403c_25 : decode cJ7_copyOf_6403c 25 = .ok (.aload_n 0, 1) := by decide +kernel
theorem dJ7_copyOf_6403c_26 : decode cJ7_copyOf_6403c 26 = .ok (.iconst 0, 1) := by decide +kernel
theorem dJ7_copyOf_6403c_27 : decode cJ7_copyOf_6403c 27 = .ok (.aload_n 3, 1) := by decide +kernel
theorem dJ7_copyOf_6403c_28 : decode cJ7_copyOf_6403c 28 = .ok (.iconst 0, 1) := by decide +kernel
theorem dJ7_copyOf_6403c_29 : decode cJ7_copyOf_6403c 29 = .ok (.aload_n 0, 1) := by decide +kernel
theorem dJ7_copyOf_6403c_30 : decode cJ7_copyOf_6403c 30 = .ok (.arraylength, 1) := by decide +kernel
theorem dJ7_copyOf_6403c_31 : decode cJ7_copyOf_6403c 31 = .ok (.iload_n 1, 1) := by decide +kernel
theorem dJ7_copyOf_6403c_32 : decode cJ7_copyOf_6403c 32 = .ok (.invokestatic 304, 3) := by decide +kernel
theorem dJ7_copyOf_6403c_35 : decode cJ7_copyOf_6403c 35 = .ok (.invokestatic 150, 3) := by decide +kernel
theorem dJ7_copyOf_6403c_38 : decode cJ7_copyOf_6403c 38 = .ok (.aload_n 3, 1) := by decide +kernel
theorem dJ7_copyOf_6403c_39 : decode cJ7_copyOf_6403c 39 = .ok (.areturn, 1) := by decide +kernel
theorem dJ15_checkIndex_7cf53_0 : decode cJ15_checkIndex_7cf53 0 = .ok (.iload_n 0, 1) := by decide +kernel
theorem dJ15_checkIndex_7cf53_1 : decode cJ15_checkIndex_7cf53 1 = .ok (.iload_n 1, 1) := by decide +kernel
theorem dJ15_checkIndex_7cf53_2 : decode cJ15_checkIndex_7cf53 2 = .ok (.aconst_null, 1) := by decide +kernel
theorem dJ15_checkIndex_7cf53_3 : decode cJ15_checkIndex_7cf53 3 = .ok (.invokestatic 105, 3) := by decide +kernel
theorem dJ15_checkIndex_7cf53_6 : decode cJ15_checkIndex_7cf53 6 = .ok (.ireturn, 1) := by decide +kernel
theorem dJ8_newLength_cabcc_0 : decode cJ8_newLength_cabcc 0 = .ok (.iload_n 0, 1) := by decide +kernel
theorem dJ8_newLength_cabcc_1 : decode cJ8_newLength_cabcc 1 = .ok (.iload_n 1, 1) := by decide +kernel
theorem dJ8_newLength_cabcc_2 : decode cJ8_newLength_cabcc 2 = .ok (.iload_n 2, 1) := by decide +kernel
theorem dJ8_newLength_cabcc_3 : decode cJ8_newLength_cabcc 3 = .ok (.invokestatic 194, 3) := by decide +kernel
theorem dJ8_newLength_cabcc_6 : decode cJ8_newLength_cabcc 6 = .ok (.iadd, 1) := by decide +kernel
theorem dJ8_newLength_cabcc_7 : decode cJ8_newLength_cabcc 7 = .ok (.istore_n 3, 1) := by decide +kernel
theorem dJ8_newLength_cabcc_8 : decode cJ8_newLength_cabcc 8 = .ok (.iconst 0, 1) := by decide +kernel
theorem dJ8_newLength_cabcc_9 : decode cJ8_newLength_cabcc 9 = .ok (.iload_n 3, 1) := by decide +kernel
theorem dJ8_newLength_cabcc_10 : decode cJ8_newLength_cabcc 10 = .ok (.if_icmp .ge 11, 3) := by decide +kernel
theorem dJ8_newLength_cabcc_13 : decode cJ8_newLength_cabcc 13 = .ok (.iload_n 3, 1) := by decide +kernel
theorem dJ8_newLength_cabcc_14 : decode cJ8_newLength_cabcc 14 = .ok (.ldc 200, 2) := by decide +kernel
theorem dJ8_newLength_cabcc_16 : decode cJ8_newLength_cabcc 16 = .ok (.if_icmp .gt 5, 3) := by decide +kernel
theorem dJ8_newLength_cabcc_19 : decode cJ8_newLength_cabcc 19 = .ok (.iload_n 3, 1) := by decide +kernel
theorem dJ8_newLength_cabcc_20 : decode cJ8_newLength_cabcc 20 = .ok (.ireturn, 1) := by decide +kernel
theorem dJ8_newLength_cabcc_21 : decode cJ8_newLength_cabcc 21 = .ok (.iload_n 0, 1) := by decide +kernel
theorem dJ8_newLength_cabcc_22 : decode cJ8_newLength_cabcc 22 = .ok (.iload_n 1, 1) := by decide +kernel
theorem dJ8_newLength_cabcc_23 : decode cJ8_newLength_cabcc 23 = .ok (.invokestatic 201, 3) := by decide +kernel
theorem dJ8_newLength_cabcc_26 : decode cJ8_newLength_cabcc 26 = .ok (.ireturn, 1) := by decide +kernel
theorem dJ8_hugeLength_7cf53_0 : decode cJ8_hugeLength_7cf53 0 = .ok (.iload_n 0, 1) := by decide +kernel
theorem dJ8_hugeLength_7cf53_1 : decode cJ8_hugeLength_7cf53 1 = .ok (.iload_n 1, 1) := by decide +kernel
theorem dJ8_hugeLength_7cf53_2 : decode cJ8_hugeLength_7cf53 2 = .ok (.iadd, 1) := by decide +kernel
theorem dJ8_hugeLength_7cf53_3 : decode cJ8_hugeLength_7cf53 3 = .ok (.istore_n 2, 1) := by decide +kernel
theorem dJ8_hugeLength_7cf53_4 : decode cJ8_hugeLength_7cf53 4 = .ok (.iload_n 2, 1) := by decide +kernel
theorem dJ8_hugeLength_7cf53_5 : decode cJ8_hugeLength_7cf53 5 = .ok (.ifCond .ge 44, 3) := by decide +kernel
theorem dJ8_hugeLength_7cf53_8 : decode cJ8_hugeLength_7cf53 8 = .ok (.new 204, 3) := by decide +kernel
theorem dJ8_hugeLength_7cf53_11 : decode cJ8_hugeLength_7cf53 11 = .ok (.dup, 1) := by decide +kernel
theorem dJ8_hugeLength_7cf53_12 : decode cJ8_hugeLength_7cf53 12 = .ok (.new 89, 3) := by decide +kernel
theorem dJ8_hugeLength_7cf53_15 : decode cJ8_hugeLength_7cf53 15 = .ok (.dup, 1) := by decide +kernel
theorem dJ8_hugeLength_7cf53_16 : decode cJ8_hugeLength_7cf53 16 = .ok (.invokespecial 91, 3) := by decide +kernel
theorem dJ8_hugeLength_7cf53_19 : decode cJ8_hugeLength_7cf53 19 = .ok (.ldc 206, 2) := by decide +kernel
theorem dJ8_hugeLength_7cf53_21 : decode cJ8_hugeLength_7cf53 21 = .ok (.invokevirtual 94, 3) := by decide +kernel
theorem dJ8_hugeLength_7cf53_24 : decode cJ8_hugeLength_7cf53 24 = .ok (.iload_n 0, 1) := by decide +kernel
theorem dJ8_hugeLength_7cf53_25 : decode cJ8_hugeLength_7cf53 25 = .ok (.invokevirtual 98, 3) := by decide +kernel
theorem dJ8_hugeLength_7cf53_28 : decode cJ8_hugeLength_7cf53 28 = .ok (.ldc 208, 2) := by decide +kernel
theorem dJ8_hugeLength_7cf53_30 : decode cJ8_hugeLength_7cf53 30 = .ok (.invokevirtual 94, 3) := by decide +kernel
theorem dJ8_hugeLength_7cf53_33 : decode cJ8_hugeLength_7cf53 33 = .ok (.iload_n 1, 1) := by decide +kernel
theorem dJ8_hugeLength_7cf53_34 : decode cJ8_hugeLength_7cf53 34 = .ok (.invokevirtual 98, 3) := by decide +kernel
theorem dJ8_hugeLength_7cf53_37 : decode cJ8_hugeLength_7cf53 37 = .ok (.ldc 210, 2) := by decide +kernel
theorem dJ8_hugeLength_7cf53_39 : decode cJ8_hugeLength_7cf53 39 = .ok (.invokevirtual 94, 3) := by decide +kernel
theorem dJ8_hugeLength_7cf53_42 : decode cJ8_hugeLength_7cf53 42 = .ok (.invokevirtual 101, 3) := by decide +kernel
theorem dJ8_hugeLength_7cf53_45 : decode cJ8_hugeLength_7cf53 45 = .ok (.invokespecial 212, 3) := by decide +kernel
theorem dJ8_hugeLength_7cf53_48 : decode cJ8_hugeLength_7cf53 48 = .ok (.athrow, 1) := by decide +kernel
theorem dJ8_hugeLength_7cf53_49 : decode cJ8_hugeLength_7cf53 49 = .ok (.iload_n 2, 1) := by decide +kernel
theorem dJ8_hugeLength_7cf53_50 : decode cJ8_hugeLength_7cf53 50 = .ok (.ldc 200, 2) := by decide +kernel
theorem dJ8_hugeLength_7cf53_52 : decode cJ8_hugeLength_7cf53 52 = .ok (.if_icmp .gt 6, 3) := by decide +kernel
theorem dJ8_hugeLength_7cf53_55 : decode cJ8_hugeLength_7cf53 55 = .ok (.ldc 200, 2) := by decide +kernel
theorem dJ8_hugeLength_7cf53_57 : decode cJ8_hugeLength_7cf53 57 = .ok (.ireturn, 1) := by decide +kernel
theorem dJ8_hugeLength_7cf53_58 : decode cJ8_hugeLength_7cf53 58 = .ok (.iload_n 2, 1) := by decide +kernel
theorem dJ8_hugeLength_7cf53_59 : decode cJ8_hugeLength_7cf53 59 = .ok (.ireturn, 1) := by decide +kernel
theorem dJ3_checkIndex_8e157_0 : decode cJ3_checkIndex_8e157 0 = .ok (.iload_n 0, 1) := by decide +kernel
theorem dJ3_checkIndex_8e157_1 : decode cJ3_checkIndex_8e157 1 = .ok (.ifCond .lt 8, 3) := by decide +kernel
theorem dJ3_checkIndex_8e157_4 : decode cJ3_checkIndex_8e157 4 = .ok (.iload_n 0, 1) := by decide +kernel
theorem dJ3_checkIndex_8e157_5 : decode cJ3_checkIndex_8e157 5 = .ok (.iload_n 1, 1) := by decide +kernel
theorem dJ3_checkIndex_8e157_6 : decode cJ3_checkIndex_8e157 6 = .ok (.if_icmp .lt 10, 3) := by decide +kernel
theorem dJ3_checkIndex_8e157_9 : decode cJ3_checkIndex_8e157 9 = .ok (.aload_n 2, 1) := by decide +kernel
theorem dJ3_checkIndex_8e157_10 : decode cJ3_checkIndex_8e157 10 = .ok (.iload_n 0, 1) := by decide +kernel
theorem dJ3_checkIndex_8e157_11 : decode cJ3_checkIndex_8e157 11 = .ok (.iload_n 1, 1) := by decide +kernel
theorem dJ3_checkIndex_8e157_12 : decode cJ3_checkIndex_8e157 12 = .ok (.invokestatic 95, 3) := by decide +kernel
theorem dJ3_checkIndex_8e157_15 : decode cJ3_checkIndex_8e157 15 = .ok (.athrow, 1) := by decide +kernel
theorem dJ3_checkIndex_8e157_16 : decode cJ3_checkIndex_8e157 16 = .ok (.iload_n 0, 1) := by decide +kernel
theorem dJ3_checkIndex_8e157_17 : decode cJ3_checkIndex_8e157 17 = .ok (.ireturn, 1) := by decide +kernel
theorem dL_type_0 : decode cL_type 0 = .ok (.aload 4, 2) := by decide +kernel
theorem dL_type_2 : decode cL_type 2 = .ok (.iconst 0, 1) := by decide +kernel
theorem dL_type_3 : decode cL_type 3 = .ok (.aload_n 0, 1) := by decide +kernel
theorem dL_type_4 : decode cL_type 4 = .ok (.iload_n 1, 1) := by decide +kernel
theorem dL_type_5 : decode cL_type 5 = .ok (.iload_n 2, 1) := by decide +kernel
theorem dL_type_6 : decode cL_type 6 = .ok (.iload_n 3, 1) := by decide +kernel
theorem dL_type_7 : decode cL_type 7 = .ok (.invokevirtual 7, 3) := by decide +kernel
theorem dL_type_10 : decode cL_type 10 = .ok (.i2l, 1) := by decide +kernel
theorem dL_type_11 : decode cL_type 11 = .ok (.lastore, 1) := by decide +kernel
theorem dL_type_12 : decode cL_type 12 = .ok (.goto 15, 3) := by decide +kernel
theorem dL_type_15 : decode cL_type 15 = .ok (.astore 5, 2) := by decide +kernel
theorem dL_type_17 : decode cL_type 17 = .ok (.iconst 1, 1) := by decide +kernel
theorem dL_type_18 : decode cL_type 18 = .ok (.ireturn, 1) := by decide +kernel
theorem dL_type_19 : decode cL_type 19 = .ok (.astore 5, 2) := by decide +kernel
theorem dL_type_21 : decode cL_type 21 = .ok (.iconst 2, 1) := by decide +kernel
theorem dL_type_22 : decode cL_type 22 = .ok (.ireturn, 1) := by decide +kernel
theorem dL_type_23 : decode cL_type 23 = .ok (.astore 5, 2) := by decide +kernel
theorem dL_type_25 : decode cL_type 25 = .ok (.iconst 3, 1) := by decide +kernel
theorem dL_type_26 : decode cL_type 26 = .ok (.ireturn, 1) := by decide +kernel
theorem dL_type_27 : decode cL_type 27 = .ok (.iconst 0, 1) := by decide +kernel
theorem dL_type_28 : decode cL_type 28 = .ok (.ireturn, 1) := by decide +kernel
theorem dL_erase_0 : decode cL_erase 0 = .ok (.aload_n 3, 1) := by decide +kernel
theorem dL_erase_1 : decode cL_erase 1 = .ok (.iconst 0, 1) := by decide +kernel
theorem dL_erase_2 : decode cL_erase 2 = .ok (.aload_n 0, 1) := by decide +kernel
theorem dL_erase_3 : decode cL_erase 3 = .ok (.iload_n 1, 1) := by decide +kernel
theorem dL_erase_4 : decode cL_erase 4 = .ok (.iload_n 2, 1) := by decide +kernel
theorem dL_erase_5 : decode cL_erase 5 = .ok (.invokevirtual 19, 3) := by decide +kernel
theorem dL_erase_8 : decode cL_erase 8 = .ok (.i2l, 1) := by decide +kernel
theorem dL_erase_9 : decode cL_erase 9 = .ok (.lastore, 1) := by decide +kernel
theorem dL_erase_10 : decode cL_erase 10 = .ok (.goto 11, 3) := by decide +kernel
theorem dL_erase_13 : decode cL_erase 13 = .ok (.astore 4, 2) := by decide +kernel
theorem dL_erase_15 : decode cL_erase 15 = .ok (.iconst 1, 1) := by decide +kernel
theorem dL_erase_16 : decode cL_erase 16 = .ok (.ireturn, 1) := by decide +kernel
theorem dL_erase_17 : decode cL_erase 17 = .ok (.astore 4, 2) := by decide +kernel
theorem dL_erase_19 : decode cL_erase 19 = .ok (.iconst 2, 1) := by decide +kernel
theorem dL_erase_20 : decode cL_erase 20 = .ok (.ireturn, 1) := by decide +kernel
theorem dL_erase_21 : decode cL_erase 21 = .ok (.iconst 0, 1) := by decide +kernel
theorem dL_erase_22 : decode cL_erase 22 = .ok (.ireturn, 1) := by decide +kernel
theorem dL_moveTo_0 : decode cL_moveTo 0 = .ok (.aload 4, 2) := by decide +kernel
theorem dL_moveTo_2 : decode cL_moveTo 2 = .ok (.iconst 0, 1) := by decide +kernel
theorem dL_moveTo_3 : decode cL_moveTo 3 = .ok (.aload_n 0, 1) := by decide +kernel
theorem dL_moveTo_4 : decode cL_moveTo 4 = .ok (.iload_n 1, 1) := by decide +kernel
theorem dL_moveTo_5 : decode cL_moveTo 5 = .ok (.iload_n 2, 1) := by decide +kernel
theorem dL_moveTo_6 : decode cL_moveTo 6 = .ok (.iload_n 3, 1) := by decide +kernel
theorem dL_moveTo_7 : decode cL_moveTo 7 = .ok (.invokevirtual 23, 3) := by decide +kernel
theorem dL_moveTo_10 : decode cL_moveTo 10 = .ok (.i2l, 1) := by decide +kernel
theorem dL_moveTo_11 : decode cL_moveTo 11 = .ok (.lastore, 1) := by decide +kernel
theorem dL_moveTo_12 : decode cL_moveTo 12 = .ok (.goto 7, 3) := by decide +kernel
theorem dL_moveTo_15 : decode cL_moveTo 15 = .ok (.astore 5, 2) := by decide +kernel
theorem dL_moveTo_17 : decode cL_moveTo 17 = .ok (.iconst 1, 1) := by decide +kernel
theorem dL_moveTo_18 : decode cL_moveTo 18 = .ok (.ireturn, 1) := by decide +kernel
theorem dL_moveTo_19 : decode cL_moveTo 19 = .ok (.iconst 0, 1) := by decide +kernel
theorem dL_moveTo_20 : decode cL_moveTo 20 = .ok (.ireturn, 1) := by decide +kernel
theorem dL_undo_0 : decode cL_undo 0 = .ok (.aload_n 2, 1) := by decide +kernel
theorem dL_undo_1 : decode cL_undo 1 = .ok (.iconst 0, 1) := by decide +kernel
theorem dL_undo_2 : decode cL_undo 2 = .ok (.aload_n 0, 1) := by decide +kernel
theorem dL_undo_3 : decode cL_undo 3 = .ok (.iload_n 1, 1) := by decide +kernel
theorem dL_undo_4 : decode cL_undo 4 = .ok (.invokevirtual 27, 3) := by decide +kernel
theorem dL_undo_7 : decode cL_undo 7 = .ok (.i2l, 1) := by decide +kernel
theorem dL_undo_8 : decode cL_undo 8 = .ok (.lastore, 1) := by decide +kernel
theorem dL_undo_9 : decode cL_undo 9 = .ok (.goto 9, 3) := by decide +kernel
theorem dL_undo_12 : decode cL_undo 12 = .ok (.astore_n 3, 1) := by decide +kernel
theorem dL_undo_13 : decode cL_undo 13 = .ok (.iconst 1, 1) := by decide +kernel
theorem dL_undo_14 : decode cL_undo 14 = .ok (.ireturn, 1) := by decide +kernel
theorem dL_undo_15 : decode cL_undo 15 = .ok (.astore_n 3, 1) := by decide +kernel
theorem dL_undo_16 : decode cL_undo 16 = .ok (.iconst 2, 1) := by decide +kernel
theorem dL_undo_17 : decode cL_undo 17 = .ok (.ireturn, 1) := by decide +kernel
theorem dL_undo_18 : decode cL_undo 18 = .ok (.iconst 0, 1) := by decide +kernel
theorem dL_undo_19 : decode cL_undo 19 = .ok (.ireturn, 1) := by decide +kernel
theorem dL_redo_0 : decode cL_redo 0 = .ok (.aload_n 2, 1) := by decide +kernel
theorem dL_redo_1 : decode cL_redo 1 = .ok (.iconst 0, 1) := by decide +kernel
theorem dL_redo_2 : decode cL_redo 2 = .ok (.aload_n 0, 1) := by decide +kernel
theorem dL_redo_3 : decode cL_redo 3 = .ok (.iload_n 1, 1) := by decide +kernel
theorem dL_redo_4 : decode cL_redo 4 = .ok (.invokevirtual 31, 3) := by decide +kernel
theorem dL_redo_7 : decode cL_redo 7 = .ok (.i2l, 1) := by decide +kernel
theorem dL_redo_8 : decode cL_redo 8 = .ok (.lastore, 1) := by decide +kernel
theorem dL_redo_9 : decode cL_redo 9 = .ok (.goto 9, 3) := by decide +kernel
theorem dL_redo_12 : decode cL_redo 12 = .ok (.astore_n 3, 1) := by decide +kernel
theorem dL_redo_13 : decode cL_redo 13 = .ok (.iconst 1, 1) := by decide +kernel
theorem dL_redo_14 : decode cL_redo 14 = .ok (.ireturn, 1) := by decide +kernel
theorem dL_redo_15 : decode cL_redo 15 = .ok (.astore_n 3, 1) := by decide +kernel
theorem dL_redo_16 : decode cL_redo 16 = .ok (.iconst 2, 1) := by decide +kernel
theorem dL_redo_17 : decode cL_redo 17 = .ok (.ireturn, 1) := by decide +kernel
theorem dL_redo_18 : decode cL_redo 18 = .ok (.iconst 0, 1) := by decide +kernel
theorem dL_redo_19 : decode cL_redo 19 = .ok (.ireturn, 1) := by decide +kernel
theorem dL_place_0 : decode cL_place 0 = .ok (.aload_n 3, 1) := by decide +kernel
theorem dL_place_1 : decode cL_place 1 = .ok (.iconst 0, 1) := by decide +kernel
theorem dL_place_2 : decode cL_place 2 = .ok (.aload_n 0, 1) := by decide +kernel
theorem dL_place_3 : decode cL_place 3 = .ok (.iload_n 1, 1) := by decide +kernel
theorem dL_place_4 : decode cL_place 4 = .ok (.iload_n 2, 1) := by decide +kernel
theorem dL_place_5 : decode cL_place 5 = .ok (.invokevirtual 34, 3) := by decide +kernel
theorem dL_place_8 : decode cL_place 8 = .ok (.i2l, 1) := by decide +kernel
theorem dL_place_9 : decode cL_place 9 = .ok (.lastore, 1) := by decide +kernel
theorem dL_place_10 : decode cL_place 10 = .ok (.goto 7, 3) := by decide +kernel
theorem dL_place_13 : decode cL_place 13 = .ok (.astore 4, 2) := by decide +kernel
theorem dL_place_15 : decode cL_place 15 = .ok (.iconst 1, 1) := by decide +kernel
theorem dL_place_16 : decode cL_place 16 = .ok (.ireturn, 1) := by decide +kernel
theorem dL_place_17 : decode cL_place 17 = .ok (.iconst 0, 1) := by decide +kernel
theorem dL_place_18 : decode cL_place 18 = .ok (.ireturn, 1) := by decide +kernel
theorem dL_length_0 : decode cL_length 0 = .ok (.aload_n 2, 1) := by decide +kernel
theorem dL_length_1 : decode cL_length 1 = .ok (.iconst 0, 1) := by decide +kernel
theorem dL_length_2 : decode cL_length 2 = .ok (.aload_n 0, 1) := by decide +kernel
theorem dL_length_3 : decode cL_length 3 = .ok (.iload_n 1, 1) := by decide +kernel
theorem dL_length_4 : decode cL_length 4 = .ok (.invokevirtual 37, 3) := by decide +kernel
theorem dL_length_7 : decode cL_length 7 = .ok (.i2l, 1) := by decide +kernel
theorem dL_length_8 : decode cL_length 8 = .ok (.lastore, 1) := by decide +kernel
theorem dL_length_9 : decode cL_length 9 = .ok (.goto 6, 3) := by decide +kernel
theorem dL_length_12 : decode cL_length 12 = .ok (.astore_n 3, 1) := by decide +kernel
theorem dL_length_13 : decode cL_length 13 = .ok (.iconst 1, 1) := by decide +kernel
theorem dL_length_14 : decode cL_length 14 = .ok (.ireturn, 1) := by decide +kernel
theorem dL_length_15 : decode cL_length 15 = .ok (.iconst 0, 1) := by decide +kernel
theorem dL_length_16 : decode cL_length 16 = .ok (.ireturn, 1) := by decide +kernel
theorem dL_letter_0 : decode cL_letter 0 = .ok (.aload_n 3, 1) := by decide +kernel
theorem dL_letter_1 : decode cL_letter 1 = .ok (.iconst 0, 1) := by decide +kernel
theorem dL_letter_2 : decode cL_letter 2 = .ok (.aload_n 0, 1) := by decide +kernel
theorem dL_letter_3 : decode cL_letter 3 = .ok (.iload_n 1, 1) := by decide +kernel
theorem dL_letter_4 : decode cL_letter 4 = .ok (.iload_n 2, 1) := by decide +kernel
theorem dL_letter_5 : decode cL_letter 5 = .ok (.invokevirtual 40, 3) := by decide +kernel
theorem dL_letter_8 : decode cL_letter 8 = .ok (.i2l, 1) := by decide +kernel
theorem dL_letter_9 : decode cL_letter 9 = .ok (.lastore, 1) := by decide +kernel
theorem dL_letter_10 : decode cL_letter 10 = .ok (.goto 7, 3) := by decide +kernel
theorem dL_letter_13 : decode cL_letter 13 = .ok (.astore 4, 2) := by decide +kernel
theorem dL_letter_15 : decode cL_letter 15 = .ok (.iconst 1, 1) := by decide +kernel
theorem dL_letter_16 : decode cL_letter 16 = .ok (.ireturn, 1) := by decide +kernel
theorem dL_letter_17 : decode cL_letter 17 = .ok (.iconst 0, 1) := by decide +kernel
theorem dL_letter_18 : decode cL_letter 18 = .ok (.ireturn, 1) := by decide +kernel
theorem dL_letterAnew_0 : decode cL_letterAnew 0 = .ok (.aload_n 3, 1) := by decide +kernel
theorem dL_letterAnew_1 : decode cL_letterAnew 1 = .ok (.iconst 0, 1) := by decide +kernel
theorem dL_letterAnew_2 : decode cL_letterAnew 2 = .ok (.aload_n 0, 1) := by decide +kernel
theorem dL_letterAnew_3 : decode cL_letterAnew 3 = .ok (.iload_n 1, 1) := by decide +kernel
theorem dL_letterAnew_4 : decode cL_letterAnew 4 = .ok (.iload_n 2, 1) := by decide +kernel
theorem dL_letterAnew_5 : decode cL_letterAnew 5 = .ok (.invokevirtual 44, 3) := by decide +kernel
theorem dL_letterAnew_8 : decode cL_letterAnew 8 = .ok (.i2l, 1) := by decide +kernel
theorem dL_letterAnew_9 : decode cL_letterAnew 9 = .ok (.lastore, 1) := by decide +kernel
theorem dL_letterAnew_10 : decode cL_letterAnew 10 = .ok (.goto 7, 3) := by decide +kernel
theorem dL_letterAnew_13 : decode cL_letterAnew 13 = .ok (.astore 4, 2) := by decide +kernel
theorem dL_letterAnew_15 : decode cL_letterAnew 15 = .ok (.iconst 1, 1) := by decide +kernel
theorem dL_letterAnew_16 : decode cL_letterAnew 16 = .ok (.ireturn, 1) := by decide +kernel
theorem dL_letterAnew_17 : decode cL_letterAnew 17 = .ok (.iconst 0, 1) := by decide +kernel
theorem dL_letterAnew_18 : decode cL_letterAnew 18 = .ok (.ireturn, 1) := by decide +kernel
theorem dL_version_0 : decode cL_version 0 = .ok (.aload_n 2, 1) := by decide +kernel
theorem dL_version_1 : decode cL_version 1 = .ok (.iconst 0, 1) := by decide +kernel
theorem dL_version_2 : decode cL_version 2 = .ok (.aload_n 0, 1) := by decide +kernel
theorem dL_version_3 : decode cL_version 3 = .ok (.iload_n 1, 1) := by decide +kernel
theorem dL_version_4 : decode cL_version 4 = .ok (.invokevirtual 47, 3) := by decide +kernel
theorem dL_version_7 : decode cL_version 7 = .ok (.i2l, 1) := by decide +kernel
theorem dL_version_8 : decode cL_version 8 = .ok (.lastore, 1) := by decide +kernel
theorem dL_version_9 : decode cL_version 9 = .ok (.goto 6, 3) := by decide +kernel
theorem dL_version_12 : decode cL_version 12 = .ok (.astore_n 3, 1) := by decide +kernel
theorem dL_version_13 : decode cL_version 13 = .ok (.iconst 1, 1) := by decide +kernel
theorem dL_version_14 : decode cL_version 14 = .ok (.ireturn, 1) := by decide +kernel
theorem dL_version_15 : decode cL_version 15 = .ok (.iconst 0, 1) := by decide +kernel
theorem dL_version_16 : decode cL_version 16 = .ok (.ireturn, 1) := by decide +kernel
theorem dL_ask_0 : decode cL_ask 0 = .ok (.aload 4, 2) := by decide +kernel
theorem dL_ask_2 : decode cL_ask 2 = .ok (.iconst 0, 1) := by decide +kernel
theorem dL_ask_3 : decode cL_ask 3 = .ok (.aload_n 0, 1) := by decide +kernel
theorem dL_ask_4 : decode cL_ask 4 = .ok (.iload_n 1, 1) := by decide +kernel
theorem dL_ask_5 : decode cL_ask 5 = .ok (.iload_n 2, 1) := by decide +kernel
theorem dL_ask_6 : decode cL_ask 6 = .ok (.iload_n 3, 1) := by decide +kernel
theorem dL_ask_7 : decode cL_ask 7 = .ok (.invokevirtual 50, 3) := by decide +kernel
theorem dL_ask_10 : decode cL_ask 10 = .ok (.i2l, 1) := by decide +kernel
theorem dL_ask_11 : decode cL_ask 11 = .ok (.lastore, 1) := by decide +kernel
theorem dL_ask_12 : decode cL_ask 12 = .ok (.goto 15, 3) := by decide +kernel
theorem dL_ask_15 : decode cL_ask 15 = .ok (.astore 5, 2) := by decide +kernel
theorem dL_ask_17 : decode cL_ask 17 = .ok (.iconst 1, 1) := by decide +kernel
theorem dL_ask_18 : decode cL_ask 18 = .ok (.ireturn, 1) := by decide +kernel
theorem dL_ask_19 : decode cL_ask 19 = .ok (.astore 5, 2) := by decide +kernel
theorem dL_ask_21 : decode cL_ask 21 = .ok (.iconst 2, 1) := by decide +kernel
theorem dL_ask_22 : decode cL_ask 22 = .ok (.ireturn, 1) := by decide +kernel
theorem dL_ask_23 : decode cL_ask 23 = .ok (.astore 5, 2) := by decide +kernel
theorem dL_ask_25 : decode cL_ask 25 = .ok (.iconst 3, 1) := by decide +kernel
theorem dL_ask_26 : decode cL_ask 26 = .ok (.ireturn, 1) := by decide +kernel
theorem dL_ask_27 : decode cL_ask 27 = .ok (.iconst 0, 1) := by decide +kernel
theorem dL_ask_28 : decode cL_ask 28 = .ok (.ireturn, 1) := by decide +kernel
theorem dL_come_0 : decode cL_come 0 = .ok (.aload_n 2, 1) := by decide +kernel
theorem dL_come_1 : decode cL_come 1 = .ok (.iconst 0, 1) := by decide +kernel
theorem dL_come_2 : decode cL_come 2 = .ok (.aload_n 0, 1) := by decide +kernel
theorem dL_come_3 : decode cL_come 3 = .ok (.iload_n 1, 1) := by decide +kernel
theorem dL_come_4 : decode cL_come 4 = .ok (.invokevirtual 53, 3) := by decide +kernel
theorem dL_come_7 : decode cL_come 7 = .ok (.i2l, 1) := by decide +kernel
theorem dL_come_8 : decode cL_come 8 = .ok (.lastore, 1) := by decide +kernel
theorem dL_come_9 : decode cL_come 9 = .ok (.goto 9, 3) := by decide +kernel
theorem dL_come_12 : decode cL_come 12 = .ok (.astore_n 3, 1) := by decide +kernel
theorem dL_come_13 : decode cL_come 13 = .ok (.iconst 1, 1) := by decide +kernel
theorem dL_come_14 : decode cL_come 14 = .ok (.ireturn, 1) := by decide +kernel
theorem dL_come_15 : decode cL_come 15 = .ok (.astore_n 3, 1) := by decide +kernel
theorem dL_come_16 : decode cL_come 16 = .ok (.iconst 2, 1) := by decide +kernel
theorem dL_come_17 : decode cL_come 17 = .ok (.ireturn, 1) := by decide +kernel
theorem dL_come_18 : decode cL_come 18 = .ok (.iconst 0, 1) := by decide +kernel
theorem dL_come_19 : decode cL_come 19 = .ok (.ireturn, 1) := by decide +kernel
theorem dL_drop_0 : decode cL_drop 0 = .ok (.aload_n 2, 1) := by decide +kernel
theorem dL_drop_1 : decode cL_drop 1 = .ok (.iconst 0, 1) := by decide +kernel
theorem dL_drop_2 : decode cL_drop 2 = .ok (.aload_n 0, 1) := by decide +kernel
theorem dL_drop_3 : decode cL_drop 3 = .ok (.iload_n 1, 1) := by decide +kernel
theorem dL_drop_4 : decode cL_drop 4 = .ok (.invokevirtual 56, 3) := by decide +kernel
theorem dL_drop_7 : decode cL_drop 7 = .ok (.i2l, 1) := by decide +kernel
theorem dL_drop_8 : decode cL_drop 8 = .ok (.lastore, 1) := by decide +kernel
theorem dL_drop_9 : decode cL_drop 9 = .ok (.goto 9, 3) := by decide +kernel
theorem dL_drop_12 : decode cL_drop 12 = .ok (.astore_n 3, 1) := by decide +kernel
theorem dL_drop_13 : decode cL_drop 13 = .ok (.iconst 1, 1) := by decide +kernel
theorem dL_drop_14 : decode cL_drop 14 = .ok (.ireturn, 1) := by decide +kernel
theorem dL_drop_15 : decode cL_drop 15 = .ok (.astore_n 3, 1) := by decide +kernel
theorem dL_drop_16 : decode cL_drop 16 = .ok (.iconst 2, 1) := by decide +kernel
theorem dL_drop_17 : decode cL_drop 17 = .ok (.ireturn, 1) := by decide +kernel
theorem dL_drop_18 : decode cL_drop 18 = .ok (.iconst 0, 1) := by decide +kernel
theorem dL_drop_19 : decode cL_drop 19 = .ok (.ireturn, 1) := by decide +kernel
theorem dL_state_0 : decode cL_state 0 = .ok (.aload_n 2, 1) := by decide +kernel
theorem dL_state_1 : decode cL_state 1 = .ok (.iconst 0, 1) := by decide +kernel
theorem dL_state_2 : decode cL_state 2 = .ok (.aload_n 0, 1) := by decide +kernel
theorem dL_state_3 : decode cL_state 3 = .ok (.iload_n 1, 1) := by decide +kernel
theorem dL_state_4 : decode cL_state 4 = .ok (.invokevirtual 59, 3) := by decide +kernel
theorem dL_state_7 : decode cL_state 7 = .ok (.i2l, 1) := by decide +kernel
theorem dL_state_8 : decode cL_state 8 = .ok (.lastore, 1) := by decide +kernel
theorem dL_state_9 : decode cL_state 9 = .ok (.goto 6, 3) := by decide +kernel
theorem dL_state_12 : decode cL_state 12 = .ok (.astore_n 3, 1) := by decide +kernel
theorem dL_state_13 : decode cL_state 13 = .ok (.iconst 1, 1) := by decide +kernel
theorem dL_state_14 : decode cL_state 14 = .ok (.ireturn, 1) := by decide +kernel
theorem dL_state_15 : decode cL_state 15 = .ok (.iconst 0, 1) := by decide +kernel
theorem dL_state_16 : decode cL_state 16 = .ok (.ireturn, 1) := by decide +kernel
theorem dL_spared_0 : decode cL_spared 0 = .ok (.aload_n 2, 1) := by decide +kernel
theorem dL_spared_1 : decode cL_spared 1 = .ok (.iconst 0, 1) := by decide +kernel
theorem dL_spared_2 : decode cL_spared 2 = .ok (.aload_n 0, 1) := by decide +kernel
theorem dL_spared_3 : decode cL_spared 3 = .ok (.iload_n 1, 1) := by decide +kernel
theorem dL_spared_4 : decode cL_spared 4 = .ok (.invokevirtual 62, 3) := by decide +kernel
theorem dL_spared_7 : decode cL_spared 7 = .ok (.i2l, 1) := by decide +kernel
theorem dL_spared_8 : decode cL_spared 8 = .ok (.lastore, 1) := by decide +kernel
theorem dL_spared_9 : decode cL_spared 9 = .ok (.goto 6, 3) := by decide +kernel
theorem dL_spared_12 : decode cL_spared 12 = .ok (.astore_n 3, 1) := by decide +kernel
theorem dL_spared_13 : decode cL_spared 13 = .ok (.iconst 1, 1) := by decide +kernel
theorem dL_spared_14 : decode cL_spared 14 = .ok (.ireturn, 1) := by decide +kernel
theorem dL_spared_15 : decode cL_spared 15 = .ok (.iconst 0, 1) := by decide +kernel
theorem dL_spared_16 : decode cL_spared 16 = .ok (.ireturn, 1) := by decide +kernel
theorem dL_lock_0 : decode cL_lock 0 = .ok (.aload_n 3, 1) := by decide +kernel
theorem dL_lock_1 : decode cL_lock 1 = .ok (.iconst 0, 1) := by decide +kernel
theorem dL_lock_2 : decode cL_lock 2 = .ok (.aload_n 0, 1) := by decide +kernel
theorem dL_lock_3 : decode cL_lock 3 = .ok (.iload_n 1, 1) := by decide +kernel
theorem dL_lock_4 : decode cL_lock 4 = .ok (.iload_n 2, 1) := by decide +kernel
theorem dL_lock_5 : decode cL_lock 5 = .ok (.invokevirtual 65, 3) := by decide +kernel
theorem dL_lock_8 : decode cL_lock 8 = .ok (.ifCond .eq 7, 3) := by decide +kernel
theorem dL_lock_11 : decode cL_lock 11 = .ok (.lconst 1, 1) := by decide +kernel
theorem dL_lock_12 : decode cL_lock 12 = .ok (.goto 4, 3) := by decide +kernel
theorem dL_lock_15 : decode cL_lock 15 = .ok (.lconst 0, 1) := by decide +kernel
theorem dL_lock_16 : decode cL_lock 16 = .ok (.lastore, 1) := by decide +kernel
theorem dL_lock_17 : decode cL_lock 17 = .ok (.goto 11, 3) := by decide +kernel
theorem dL_lock_20 : decode cL_lock 20 = .ok (.astore 4, 2) := by decide +kernel
theorem dL_lock_22 : decode cL_lock 22 = .ok (.iconst 1, 1) := by decide +kernel
theorem dL_lock_23 : decode cL_lock 23 = .ok (.ireturn, 1) := by decide +kernel
theorem dL_lock_24 : decode cL_lock 24 = .ok (.astore 4, 2) := by decide +kernel
theorem dL_lock_26 : decode cL_lock 26 = .ok (.iconst 2, 1) := by decide +kernel
theorem dL_lock_27 : decode cL_lock 27 = .ok (.ireturn, 1) := by decide +kernel
theorem dL_lock_28 : decode cL_lock 28 = .ok (.iconst 0, 1) := by decide +kernel
theorem dL_lock_29 : decode cL_lock 29 = .ok (.ireturn, 1) := by decide +kernel
theorem dL_save_0 : decode cL_save 0 = .ok (.aload 4, 2) := by decide +kernel
theorem dL_save_2 : decode cL_save 2 = .ok (.iconst 0, 1) := by decide +kernel
theorem dL_save_3 : decode cL_save 3 = .ok (.aload_n 0, 1) := by decide +kernel
theorem dL_save_4 : decode cL_save 4 = .ok (.iload_n 1, 1) := by decide +kernel
theorem dL_save_5 : decode cL_save 5 = .ok (.iload_n 2, 1) := by decide +kernel
theorem dL_save_6 : decode cL_save 6 = .ok (.iload_n 3, 1) := by decide +kernel
theorem dL_save_7 : decode cL_save 7 = .ok (.invokevirtual 69, 3) := by decide +kernel
theorem dL_save_10 : decode cL_save 10 = .ok (.i2l, 1) := by decide +kernel
theorem dL_save_11 : decode cL_save 11 = .ok (.lastore, 1) := by decide +kernel
theorem dL_save_12 : decode cL_save 12 = .ok (.goto 15, 3) := by decide +kernel
theorem dL_save_15 : decode cL_save 15 = .ok (.astore 5, 2) := by decide +kernel
theorem dL_save_17 : decode cL_save 17 = .ok (.iconst 1, 1) := by decide +kernel
theorem dL_save_18 : decode cL_save 18 = .ok (.ireturn, 1) := by decide +kernel
theorem dL_save_19 : decode cL_save 19 = .ok (.astore 5, 2) := by decide +kernel
theorem dL_save_21 : decode cL_save 21 = .ok (.iconst 2, 1) := by decide +kernel
theorem dL_save_22 : decode cL_save 22 = .ok (.ireturn, 1) := by decide +kernel
theorem dL_save_23 : decode cL_save 23 = .ok (.astore 5, 2) := by decide +kernel
theorem dL_save_25 : decode cL_save 25 = .ok (.iconst 3, 1) := by decide +kernel
theorem dL_save_26 : decode cL_save 26 = .ok (.ireturn, 1) := by decide +kernel
theorem dL_save_27 : decode cL_save 27 = .ok (.iconst 0, 1) := by decide +kernel
theorem dL_save_28 : decode cL_save 28 = .ok (.ireturn, 1) := by decide +kernel
theorem dL_savedVersion_0 : decode cL_savedVersion 0 = .ok (.aload_n 2, 1) := by decide +kernel
theorem dL_savedVersion_1 : decode cL_savedVersion 1 = .ok (.iconst 0, 1) := by decide +kernel
theorem dL_savedVersion_2 : decode cL_savedVersion 2 = .ok (.aload_n 0, 1) := by decide +kernel
theorem dL_savedVersion_3 : decode cL_savedVersion 3 = .ok (.iload_n 1, 1) := by decide +kernel
theorem dL_savedVersion_4 : decode cL_savedVersion 4 = .ok (.invokevirtual 72, 3) := by decide +kernel
theorem dL_savedVersion_7 : decode cL_savedVersion 7 = .ok (.i2l, 1) := by decide +kernel
theorem dL_savedVersion_8 : decode cL_savedVersion 8 = .ok (.lastore, 1) := by decide +kernel
theorem dL_savedVersion_9 : decode cL_savedVersion 9 = .ok (.goto 6, 3) := by decide +kernel
theorem dL_savedVersion_12 : decode cL_savedVersion 12 = .ok (.astore_n 3, 1) := by decide +kernel
theorem dL_savedVersion_13 : decode cL_savedVersion 13 = .ok (.iconst 1, 1) := by decide +kernel
theorem dL_savedVersion_14 : decode cL_savedVersion 14 = .ok (.ireturn, 1) := by decide +kernel
theorem dL_savedVersion_15 : decode cL_savedVersion 15 = .ok (.iconst 0, 1) := by decide +kernel
theorem dL_savedVersion_16 : decode cL_savedVersion 16 = .ok (.ireturn, 1) := by decide +kernel
theorem dL_savedLength_0 : decode cL_savedLength 0 = .ok (.aload_n 2, 1) := by decide +kernel
theorem dL_savedLength_1 : decode cL_savedLength 1 = .ok (.iconst 0, 1) := by decide +kernel
theorem dL_savedLength_2 : decode cL_savedLength 2 = .ok (.aload_n 0, 1) := by decide +kernel
theorem dL_savedLength_3 : decode cL_savedLength 3 = .ok (.iload_n 1, 1) := by decide +kernel
theorem dL_savedLength_4 : decode cL_savedLength 4 = .ok (.invokevirtual 75, 3) := by decide +kernel
theorem dL_savedLength_7 : decode cL_savedLength 7 = .ok (.i2l, 1) := by decide +kernel
theorem dL_savedLength_8 : decode cL_savedLength 8 = .ok (.lastore, 1) := by decide +kernel
theorem dL_savedLength_9 : decode cL_savedLength 9 = .ok (.goto 6, 3) := by decide +kernel
theorem dL_savedLength_12 : decode cL_savedLength 12 = .ok (.astore_n 3, 1) := by decide +kernel
theorem dL_savedLength_13 : decode cL_savedLength 13 = .ok (.iconst 1, 1) := by decide +kernel
theorem dL_savedLength_14 : decode cL_savedLength 14 = .ok (.ireturn, 1) := by decide +kernel
theorem dL_savedLength_15 : decode cL_savedLength 15 = .ok (.iconst 0, 1) := by decide +kernel
theorem dL_savedLength_16 : decode cL_savedLength 16 = .ok (.ireturn, 1) := by decide +kernel
theorem dL_savedLetter_0 : decode cL_savedLetter 0 = .ok (.aload_n 3, 1) := by decide +kernel
theorem dL_savedLetter_1 : decode cL_savedLetter 1 = .ok (.iconst 0, 1) := by decide +kernel
theorem dL_savedLetter_2 : decode cL_savedLetter 2 = .ok (.aload_n 0, 1) := by decide +kernel
theorem dL_savedLetter_3 : decode cL_savedLetter 3 = .ok (.iload_n 1, 1) := by decide +kernel
theorem dL_savedLetter_4 : decode cL_savedLetter 4 = .ok (.iload_n 2, 1) := by decide +kernel
theorem dL_savedLetter_5 : decode cL_savedLetter 5 = .ok (.invokevirtual 78, 3) := by decide +kernel
theorem dL_savedLetter_8 : decode cL_savedLetter 8 = .ok (.i2l, 1) := by decide +kernel
theorem dL_savedLetter_9 : decode cL_savedLetter 9 = .ok (.lastore, 1) := by decide +kernel
theorem dL_savedLetter_10 : decode cL_savedLetter 10 = .ok (.goto 7, 3) := by decide +kernel
theorem dL_savedLetter_13 : decode cL_savedLetter 13 = .ok (.astore 4, 2) := by decide +kernel
theorem dL_savedLetter_15 : decode cL_savedLetter 15 = .ok (.iconst 1, 1) := by decide +kernel
theorem dL_savedLetter_16 : decode cL_savedLetter 16 = .ok (.ireturn, 1) := by decide +kernel
theorem dL_savedLetter_17 : decode cL_savedLetter 17 = .ok (.iconst 0, 1) := by decide +kernel
theorem dL_savedLetter_18 : decode cL_savedLetter 18 = .ok (.ireturn, 1) := by decide +kernel
theorem dL_law_0 : decode cL_law 0 = .ok (.new 8, 3) := by decide +kernel
theorem dL_law_3 : decode cL_law 3 = .ok (.dup, 1) := by decide +kernel
theorem dL_law_4 : decode cL_law 4 = .ok (.invokespecial 81, 3) := by decide +kernel
theorem dL_law_7 : decode cL_law 7 = .ok (.astore_n 1, 1) := by decide +kernel
theorem dL_law_8 : decode cL_law 8 = .ok (.new 82, 3) := by decide +kernel
theorem dL_law_11 : decode cL_law 11 = .ok (.dup, 1) := by decide +kernel
theorem dL_law_12 : decode cL_law 12 = .ok (.invokespecial 84, 3) := by decide +kernel
theorem dL_law_15 : decode cL_law 15 = .ok (.astore_n 2, 1) := by decide +kernel
theorem dL_law_16 : decode cL_law 16 = .ok (.iconst 1, 1) := by decide +kernel
theorem dL_law_17 : decode cL_law 17 = .ok (.newarray .long, 2) := by decide +kernel
theorem dL_law_19 : decode cL_law 19 = .ok (.astore_n 3, 1) := by decide +kernel
theorem dL_law_20 : decode cL_law 20 = .ok (.iconst 0, 1) := by decide +kernel
theorem dL_law_21 : decode cL_law 21 = .ok (.istore 4, 2) := by decide +kernel
theorem dL_law_23 : decode cL_law 23 = .ok (.iload 4, 2) := by decide +kernel
theorem dL_law_25 : decode cL_law 25 = .ok (.aload_n 0, 1) := by decide +kernel
theorem dL_law_26 : decode cL_law 26 = .ok (.arraylength, 1) := by decide +kernel
theorem dL_law_27 : decode cL_law 27 = .ok (.iconst 4, 1) := by decide +kernel
theorem dL_law_28 : decode cL_law 28 = .ok (.isub, 1) := by decide +kernel
theorem dL_law_29 : decode cL_law 29 = .ok (.if_icmp .gt 1440, 3) := by decide +kernel
theorem dL_law_32 : decode cL_law 32 = .ok (.aload_n 0, 1) := by decide +kernel
theorem dL_law_33 : decode cL_law 33 = .ok (.iload 4, 2) := by decide +kernel
theorem dL_law_35 : decode cL_law 35 = .ok (.iaload, 1) := by decide +kernel
theorem dL_law_36 : decode cL_law 36 = .ok (.bipush 31, 2) := by decide +kernel
theorem dL_law_38 : decode cL_law 38 = .ok (.iand, 1) := by decide +kernel
theorem dL_law_39 : decode cL_law 39 = .ok (.tableswitch 1424 0 21 #[101, 183, 251, 331, 387, 443, 511, 567, 635, 703, 759, 839, 895, 951, 1007, 1063, 1138, 1218, 1231, 1244, 1300, 1356], 101) := by decide +kernel
theorem dL_law_140 : decode cL_law 140 = .ok (.aload_n 1, 1) := by decide +kernel
theorem dL_law_141 : decode cL_law 141 = .ok (.aload_n 0, 1) := by decide +kernel
theorem dL_law_142 : decode cL_law 142 = .ok (.iload 4, 2) := by decide +kernel
theorem dL_law_144 : decode cL_law 144 = .ok (.iconst 1, 1) := by decide +kernel
theorem dL_law_145 : decode cL_law 145 = .ok (.iadd, 1) := by decide +kernel
theorem dL_law_146 : decode cL_law 146 = .ok (.iaload, 1) := by decide +kernel
theorem dL_law_147 : decode cL_law 147 = .ok (.aload_n 0, 1) := by decide +kernel
theorem dL_law_148 : decode cL_law 148 = .ok (.iload 4, 2) := by decide +kernel
theorem dL_law_150 : decode cL_law 150 = .ok (.iconst 2, 1) := by decide +kernel
theorem dL_law_151 : decode cL_law 151 = .ok (.iadd, 1) := by decide +kernel
theorem dL_law_152 : decode cL_law 152 = .ok (.iaload, 1) := by decide +kernel
theorem dL_law_153 : decode cL_law 153 = .ok (.aload_n 0, 1) := by decide +kernel
theorem dL_law_154 : decode cL_law 154 = .ok (.iload 4, 2) := by decide +kernel
theorem dL_law_156 : decode cL_law 156 = .ok (.iconst 3, 1) := by decide +kernel
theorem dL_law_157 : decode cL_law 157 = .ok (.iadd, 1) := by decide +kernel
theorem dL_law_158 : decode cL_law 158 = .ok (.iaload, 1) := by decide +kernel
theorem dL_law_159 : decode cL_law 159 = .ok (.i2c, 1) := by decide +kernel
theorem dL_law_160 : decode cL_law 160 = .ok (.aload_n 3, 1) := by decide +kernel
theorem dL_law_161 : decode cL_law 161 = .ok (.invokestatic 85, 3) := by decide +kernel
theorem dL_law_164 : decode cL_law 164 = .ok (.istore 5, 2) := by decide +kernel
theorem dL_law_166 : decode cL_law 166 = .ok (.aload_n 2, 1) := by decide +kernel
theorem dL_law_167 : decode cL_law 167 = .ok (.aload_n 0, 1) := by decide +kernel
theorem dL_law_168 : decode cL_law 168 = .ok (.iload 4, 2) := by decide +kernel
theorem dL_law_170 : decode cL_law 170 = .ok (.iconst 1, 1) := by decide +kernel
theorem dL_law_171 : decode cL_law 171 = .ok (.iadd, 1) := by decide +kernel
theorem dL_law_172 : decode cL_law 172 = .ok (.iaload, 1) := by decide +kernel
theorem dL_law_173 : decode cL_law 173 = .ok (.aload_n 0, 1) := by decide +kernel
theorem dL_law_174 : decode cL_law 174 = .ok (.iload 4, 2) := by decide +kernel
theorem dL_law_176 : decode cL_law 176 = .ok (.iconst 2, 1) := by decide +kernel
theorem dL_law_177 : decode cL_law 177 = .ok (.iadd, 1) := by decide +kernel
theorem dL_law_178 : decode cL_law 178 = .ok (.iaload, 1) := by decide +kernel
theorem dL_law_179 : decode cL_law 179 = .ok (.aload_n 0, 1) := by decide +kernel
theorem dL_law_180 : decode cL_law 180 = .ok (.iload 4, 2) := by decide +kernel
theorem dL_law_182 : decode cL_law 182 = .ok (.iconst 3, 1) := by decide +kernel
theorem dL_law_183 : decode cL_law 183 = .ok (.iadd, 1) := by decide +kernel
theorem dL_law_184 : decode cL_law 184 = .ok (.iaload, 1) := by decide +kernel
theorem dL_law_185 : decode cL_law 185 = .ok (.i2c, 1) := by decide +kernel
theorem dL_law_186 : decode cL_law 186 = .ok (.invokevirtual 90, 3) := by decide +kernel
theorem dL_law_189 : decode cL_law 189 = .ok (.istore 6, 2) := by decide +kernel
theorem dL_law_191 : decode cL_law 191 = .ok (.aload_n 2, 1) := by decide +kernel
theorem dL_law_192 : decode cL_law 192 = .ok (.invokevirtual 91, 3) := by decide +kernel
theorem dL_law_195 : decode cL_law 195 = .ok (.iload 5, 2) := by decide +kernel
theorem dL_law_197 : decode cL_law 197 = .ok (.if_icmp .eq 5, 3) := by decide +kernel
theorem dL_law_200 : decode cL_law 200 = .ok (.iconst 0, 1) := by decide +kernel
theorem dL_law_201 : decode cL_law 201 = .ok (.ireturn, 1) := by decide +kernel
theorem dL_law_202 : decode cL_law 202 = .ok (.iload 5, 2) := by decide +kernel
theorem dL_law_204 : decode cL_law 204 = .ok (.ifCond .ne 15, 3) := by decide +kernel
theorem dL_law_207 : decode cL_law 207 = .ok (.aload_n 3, 1) := by decide +kernel
theorem dL_law_208 : decode cL_law 208 = .ok (.iconst 0, 1) := by decide +kernel
theorem dL_law_209 : decode cL_law 209 = .ok (.laload, 1) := by decide +kernel
theorem dL_law_210 : decode cL_law 210 = .ok (.iload 6, 2) := by decide +kernel
theorem dL_law_212 : decode cL_law 212 = .ok (.i2l, 1) := by decide +kernel
theorem dL_law_213 : decode cL_law 213 = .ok (.lcmp, 1) := by decide +kernel
theorem dL_law_214 : decode cL_law 214 = .ok (.ifCond .eq 5, 3) := by decide +kernel
theorem dL_law_217 : decode cL_law 217 = .ok (.iconst 0, 1) := by decide +kernel
theorem dL_law_218 : decode cL_law 218 = .ok (.ireturn, 1) := by decide +kernel
theorem dL_law_219 : decode cL_law 219 = .ok (.goto 1244, 3) := by decide +kernel
theorem dL_law_222 : decode cL_law 222 = .ok (.aload_n 1, 1) := by decide +kernel
theorem dL_law_223 : decode cL_law 223 = .ok (.aload_n 0, 1) := by decide +kernel
theorem dL_law_224 : decode cL_law 224 = .ok (.iload 4, 2) := by decide +kernel
theorem dL_law_226 : decode cL_law 226 = .ok (.iconst 1, 1) := by decide +kernel
theorem dL_law_227 : decode cL_law 227 = .ok (.iadd, 1) := by decide +kernel
theorem dL_law_228 : decode cL_law 228 = .ok (.iaload, 1) := by decide +kernel
theorem dL_law_229 : decode cL_law 229 = .ok (.aload_n 0, 1) := by decide +kernel
theorem dL_law_230 : decode cL_law 230 = .ok (.iload 4, 2) := by decide +kernel
theorem dL_law_232 : decode cL_law 232 = .ok (.iconst 2, 1) := by decide +kernel
theorem dL_law_233 : decode cL_law 233 = .ok (.iadd, 1) := by decide +kernel
theorem dL_law_234 : decode cL_law 234 = .ok (.iaload, 1) := by decide +kernel
theorem dL_law_235 : decode cL_law 235 = .ok (.aload_n 3, 1) := by decide +kernel
theorem dL_law_236 : decode cL_law 236 = .ok (.invokestatic 95, 3) := by decide +kernel
theorem dL_law_239 : decode cL_law 239 = .ok (.istore 5, 2) := by decide +kernel
theorem dL_law_241 : decode cL_law 241 = .ok (.aload_n 2, 1) := by decide +kernel
theorem dL_law_242 : decode cL_law 242 = .ok (.aload_n 0, 1) := by decide +kernel
theorem dL_law_243 : decode cL_law 243 = .ok (.iload 4, 2) := by decide +kernel
theorem dL_law_245 : decode cL_law 245 = .ok (.iconst 1, 1) := by decide +kernel
theorem dL_law_246 : decode cL_law 246 = .ok (.iadd, 1) := by decide +kernel
theorem dL_law_247 : decode cL_law 247 = .ok (.iaload, 1) := by decide +kernel
theorem dL_law_248 : decode cL_law 248 = .ok (.aload_n 0, 1) := by decide +kernel
theorem dL_law_249 : decode cL_law 249 = .ok (.iload 4, 2) := by decide +kernel
theorem dL_law_251 : decode cL_law 251 = .ok (.iconst 2, 1) := by decide +kernel
theorem dL_law_252 : decode cL_law 252 = .ok (.iadd, 1) := by decide +kernel
theorem dL_law_253 : decode cL_law 253 = .ok (.iaload, 1) := by decide +kernel
theorem dL_law_254 : decode cL_law 254 = .ok (.invokevirtual 98, 3) := by decide +kernel
theorem dL_law_257 : decode cL_law 257 = .ok (.istore 6, 2) := by decide +kernel
theorem dL_law_259 : decode cL_law 259 = .ok (.aload_n 2, 1) := by decide +kernel
theorem dL_law_260 : decode cL_law 260 = .ok (.invokevirtual 91, 3) := by decide +kernel
theorem dL_law_263 : decode cL_law 263 = .ok (.iload 5, 2) := by decide +kernel
theorem dL_law_265 : decode cL_law 265 = .ok (.if_icmp .eq 5, 3) := by decide +kernel
theorem dL_law_268 : decode cL_law 268 = .ok (.iconst 0, 1) := by decide +kernel
theorem dL_law_269 : decode cL_law 269 = .ok (.ireturn, 1) := by decide +kernel
theorem dL_law_270 : decode cL_law 270 = .ok (.iload 5, 2) := by decide +kernel
theorem dL_law_272 : decode cL_law 272 = .ok (.ifCond .ne 15, 3) := by decide +kernel
theorem dL_law_275 : decode cL_law 275 = .ok (.aload_n 3, 1) := by decide +kernel
theorem dL_law_276 : decode cL_law 276 = .ok (.iconst 0, 1) := by decide +kernel
theorem dL_law_277 : decode cL_law 277 = .ok (.laload, 1) := by decide +kernel
theorem dL_law_278 : decode cL_law 278 = .ok (.iload 6, 2) := by decide +kernel
theorem dL_law_280 : decode cL_law 280 = .ok (.i2l, 1) := by decide +kernel
theorem dL_law_281 : decode cL_law 281 = .ok (.lcmp, 1) := by decide +kernel
theorem dL_law_282 : decode cL_law 282 = .ok (.ifCond .eq 5, 3) := by decide +kernel
theorem dL_law_285 : decode cL_law 285 = .ok (.iconst 0, 1) := by decide +kernel
theorem dL_law_286 : decode cL_law 286 = .ok (.ireturn, 1) := by decide +kernel
theorem dL_law_287 : decode cL_law 287 = .ok (.goto 1176, 3) := by decide +kernel
theorem dL_law_290 : decode cL_law 290 = .ok (.aload_n 1, 1) := by decide +kernel
theorem dL_law_291 : decode cL_law 291 = .ok (.aload_n 0, 1) := by decide +kernel
theorem dL_law_292 : decode cL_law 292 = .ok (.iload 4, 2) := by decide +kernel
theorem dL_law_294 : decode cL_law 294 = .ok (.iconst 1, 1) := by decide +kernel
theorem dL_law_295 : decode cL_law 295 = .ok (.iadd, 1) := by decide +kernel
theorem dL_law_296 : decode cL_law 296 = .ok (.iaload, 1) := by decide +kernel
theorem dL_law_297 : decode cL_law 297 = .ok (.aload_n 0, 1) := by decide +kernel
theorem dL_law_298 : decode cL_law 298 = .ok (.iload 4, 2) := by decide +kernel
theorem dL_law_300 : decode cL_law 300 = .ok (.iconst 2, 1) := by decide +kernel
theorem dL_law_301 : decode cL_law 301 = .ok (.iadd, 1) := by decide +kernel
theorem dL_law_302 : decode cL_law 302 = .ok (.iaload, 1) := by decide +kernel
theorem dL_law_303 : decode cL_law 303 = .ok (.aload_n 0, 1) := by decide +kernel
theorem dL_law_304 : decode cL_law 304 = .ok (.iload 4, 2) := by decide +kernel
theorem dL_law_306 : decode cL_law 306 = .ok (.iconst 3, 1) := by decide +kernel
theorem dL_law_307 : decode cL_law 307 = .ok (.iadd, 1) := by decide +kernel
theorem dL_law_308 : decode cL_law 308 = .ok (.iaload, 1) := by decide +kernel
theorem dL_law_309 : decode cL_law 309 = .ok (.aload_n 3, 1) := by decide +kernel
theorem dL_law_310 : decode cL_law 310 = .ok (.invokestatic 99, 3) := by decide +kernel
theorem dL_law_313 : decode cL_law 313 = .ok (.istore 5, 2) := by decide +kernel
theorem dL_law_315 : decode cL_law 315 = .ok (.aload_n 2, 1) := by decide +kernel
theorem dL_law_316 : decode cL_law 316 = .ok (.aload_n 0, 1) := by decide +kernel
theorem dL_law_317 : decode cL_law 317 = .ok (.iload 4, 2) := by decide +kernel
theorem dL_law_319 : decode cL_law 319 = .ok (.iconst 1, 1) := by decide +kernel
theorem dL_law_320 : decode cL_law 320 = .ok (.iadd, 1) := by decide +kernel
theorem dL_law_321 : decode cL_law 321 = .ok (.iaload, 1) := by decide +kernel
theorem dL_law_322 : decode cL_law 322 = .ok (.aload_n 0, 1) := by decide +kernel
theorem dL_law_323 : decode cL_law 323 = .ok (.iload 4, 2) := by decide +kernel
theorem dL_law_325 : decode cL_law 325 = .ok (.iconst 2, 1) := by decide +kernel
theorem dL_law_326 : decode cL_law 326 = .ok (.iadd, 1) := by decide +kernel
theorem dL_law_327 : decode cL_law 327 = .ok (.iaload, 1) := by decide +kernel
theorem dL_law_328 : decode cL_law 328 = .ok (.aload_n 0, 1) := by decide +kernel
theorem dL_law_329 : decode cL_law 329 = .ok (.iload 4, 2) := by decide +kernel
theorem dL_law_331 : decode cL_law 331 = .ok (.iconst 3, 1) := by decide +kernel
theorem dL_law_332 : decode cL_law 332 = .ok (.iadd, 1) := by decide +kernel
theorem dL_law_333 : decode cL_law 333 = .ok (.iaload, 1) := by decide +kernel
theorem dL_law_334 : decode cL_law 334 = .ok (.invokevirtual 102, 3) := by decide +kernel
theorem dL_law_337 : decode cL_law 337 = .ok (.istore 6, 2) := by decide +kernel
theorem dL_law_339 : decode cL_law 339 = .ok (.aload_n 2, 1) := by decide +kernel
theorem dL_law_340 : decode cL_law 340 = .ok (.invokevirtual 91, 3) := by decide +kernel
theorem dL_law_343 : decode cL_law 343 = .ok (.iload 5, 2) := by decide +kernel
theorem dL_law_345 : decode cL_law 345 = .ok (.if_icmp .eq 5, 3) := by decide +kernel
theorem dL_law_348 : decode cL_law 348 = .ok (.iconst 0, 1) := by decide +kernel
theorem dL_law_349 : decode cL_law 349 = .ok (.ireturn, 1) := by decide +kernel
theorem dL_law_350 : decode cL_law 350 = .ok (.iload 5, 2) := by decide +kernel
theorem dL_law_352 : decode cL_law 352 = .ok (.ifCond .ne 15, 3) := by decide +kernel
theorem dL_law_355 : decode cL_law 355 = .ok (.aload_n 3, 1) := by decide +kernel
theorem dL_law_356 : decode cL_law 356 = .ok (.iconst 0, 1) := by decide +kernel
theorem dL_law_357 : decode cL_law 357 = .ok (.laload, 1) := by decide +kernel
theorem dL_law_358 : decode cL_law 358 = .ok (.iload 6, 2) := by decide +kernel
theorem dL_law_360 : decode cL_law 360 = .ok (.i2l, 1) := by decide +kernel
theorem dL_law_361 : decode cL_law 361 = .ok (.lcmp, 1) := by decide +kernel
theorem dL_law_362 : decode cL_law 362 = .ok (.ifCond .eq 5, 3) := by decide +kernel
theorem dL_law_365 : decode cL_law 365 = .ok (.iconst 0, 1) := by decide +kernel
theorem dL_law_366 : decode cL_law 366 = .ok (.ireturn, 1) := by decide +kernel
theorem dL_law_367 : decode cL_law 367 = .ok (.goto 1096, 3) := by decide +kernel
theorem dL_law_370 : decode cL_law 370 = .ok (.aload_n 1, 1) := by decide +kernel
theorem dL_law_371 : decode cL_law 371 = .ok (.aload_n 0, 1) := by decide +kernel
theorem dL_law_372 : decode cL_law 372 = .ok (.iload 4, 2) := by decide +kernel
theorem dL_law_374 : decode cL_law 374 = .ok (.iconst 1, 1) := by decide +kernel
theorem dL_law_375 : decode cL_law 375 = .ok (.iadd, 1) := by decide +kernel
theorem dL_law_376 : decode cL_law 376 = .ok (.iaload, 1) := by decide +kernel
theorem dL_law_377 : decode cL_law 377 = .ok (.aload_n 3, 1) := by decide +kernel
theorem dL_law_378 : decode cL_law 378 = .ok (.invokestatic 103, 3) := by decide +kernel
theorem dL_law_381 : decode cL_law 381 = .ok (.istore 5, 2) := by decide +kernel
theorem dL_law_383 : decode cL_law 383 = .ok (.aload_n 2, 1) := by decide +kernel
theorem dL_law_384 : decode cL_law 384 = .ok (.aload_n 0, 1) := by decide +kernel
theorem dL_law_385 : decode cL_law 385 = .ok (.iload 4, 2) := by decide +kernel
theorem dL_law_387 : decode cL_law 387 = .ok (.iconst 1, 1) := by decide +kernel
theorem dL_law_388 : decode cL_law 388 = .ok (.iadd, 1) := by decide +kernel
theorem dL_law_389 : decode cL_law 389 = .ok (.iaload, 1) := by decide +kernel
theorem dL_law_390 : decode cL_law 390 = .ok (.invokevirtual 106, 3) := by decide +kernel
theorem dL_law_393 : decode cL_law 393 = .ok (.istore 6, 2) := by decide +kernel
theorem dL_law_395 : decode cL_law 395 = .ok (.aload_n 2, 1) := by decide +kernel
theorem dL_law_396 : decode cL_law 396 = .ok (.invokevirtual 91, 3) := by decide +kernel
theorem dL_law_399 : decode cL_law 399 = .ok (.iload 5, 2) := by decide +kernel
theorem dL_law_401 : decode cL_law 401 = .ok (.if_icmp .eq 5, 3) := by decide +kernel
theorem dL_law_404 : decode cL_law 404 = .ok (.iconst 0, 1) := by decide +kernel
theorem dL_law_405 : decode cL_law 405 = .ok (.ireturn, 1) := by decide +kernel
theorem dL_law_406 : decode cL_law 406 = .ok (.iload 5, 2) := by decide +kernel
theorem dL_law_408 : decode cL_law 408 = .ok (.ifCond .ne 15, 3) := by decide +kernel
theorem dL_law_411 : decode cL_law 411 = .ok (.aload_n 3, 1) := by decide +kernel
theorem dL_law_412 : decode cL_law 412 = .ok (.iconst 0, 1) := by decide +kernel
theorem dL_law_413 : decode cL_law 413 = .ok (.laload, 1) := by decide +kernel
theorem dL_law_414 : decode cL_law 414 = .ok (.iload 6, 2) := by decide +kernel
theorem dL_law_416 : decode cL_law 416 = .ok (.i2l, 1) := by decide +kernel
theorem dL_law_417 : decode cL_law 417 = .ok (.lcmp, 1) := by decide +kernel
theorem dL_law_418 : decode cL_law 418 = .ok (.ifCond .eq 5, 3) := by decide +kernel
theorem dL_law_421 : decode cL_law 421 = .ok (.iconst 0, 1) := by decide +kernel
theorem dL_law_422 : decode cL_law 422 = .ok (.ireturn, 1) := by decide +kernel
theorem dL_law_423 : decode cL_law 423 = .ok (.goto 1040, 3) := by decide +kernel
theorem dL_law_426 : decode cL_law 426 = .ok (.aload_n 1, 1) := by decide +kernel
theorem dL_law_427 : decode cL_law 427 = .ok (.aload_n 0, 1) := by decide +kernel
theorem dL_law_428 : decode cL_law 428 = .ok (.iload 4, 2) := by decide +kernel
theorem dL_law_430 : decode cL_law 430 = .ok (.iconst 1, 1) := by decide +kernel
theorem dL_law_431 : decode cL_law 431 = .ok (.iadd, 1) := by decide +kernel
theorem dL_law_432 : decode cL_law 432 = .ok (.iaload, 1) := by decide +kernel
theorem dL_law_433 : decode cL_law 433 = .ok (.aload_n 3, 1) := by decide +kernel
theorem dL_law_434 : decode cL_law 434 = .ok (.invokestatic 107, 3) := by decide +kernel
theorem dL_law_437 : decode cL_law 437 = .ok (.istore 5, 2) := by decide +kernel
theorem dL_law_439 : decode cL_law 439 = .ok (.aload_n 2, 1) := by decide +kernel
theorem dL_law_440 : decode cL_law 440 = .ok (.aload_n 0, 1) := by decide +kernel
theorem dL_law_441 : decode cL_law 441 = .ok (.iload 4, 2) := by decide +kernel
theorem dL_law_443 : decode cL_law 443 = .ok (.iconst 1, 1) := by decide +kernel
theorem dL_law_444 : decode cL_law 444 = .ok (.iadd, 1) := by decide +kernel
theorem dL_law_445 : decode cL_law 445 = .ok (.iaload, 1) := by decide +kernel
theorem dL_law_446 : decode cL_law 446 = .ok (.invokevirtual 109, 3) := by decide +kernel
theorem dL_law_449 : decode cL_law 449 = .ok (.istore 6, 2) := by decide +kernel
theorem dL_law_451 : decode cL_law 451 = .ok (.aload_n 2, 1) := by decide +kernel
theorem dL_law_452 : decode cL_law 452 = .ok (.invokevirtual 91, 3) := by decide +kernel
theorem dL_law_455 : decode cL_law 455 = .ok (.iload 5, 2) := by decide +kernel
theorem dL_law_457 : decode cL_law 457 = .ok (.if_icmp .eq 5, 3) := by decide +kernel
theorem dL_law_460 : decode cL_law 460 = .ok (.iconst 0, 1) := by decide +kernel
theorem dL_law_461 : decode cL_law 461 = .ok (.ireturn, 1) := by decide +kernel
theorem dL_law_462 : decode cL_law 462 = .ok (.iload 5, 2) := by decide +kernel
theorem dL_law_464 : decode cL_law 464 = .ok (.ifCond .ne 15, 3) := by decide +kernel
theorem dL_law_467 : decode cL_law 467 = .ok (.aload_n 3, 1) := by decide +kernel
theorem dL_law_468 : decode cL_law 468 = .ok (.iconst 0, 1) := by decide +kernel
theorem dL_law_469 : decode cL_law 469 = .ok (.laload, 1) := by decide +kernel
theorem dL_law_470 : decode cL_law 470 = .ok (.iload 6, 2) := by decide +kernel
theorem dL_law_472 : decode cL_law 472 = .ok (.i2l, 1) := by decide +kernel
theorem dL_law_473 : decode cL_law 473 = .ok (.lcmp, 1) := by decide +kernel
theorem dL_law_474 : decode cL_law 474 = .ok (.ifCond .eq 5, 3) := by decide +kernel
theorem dL_law_477 : decode cL_law 477 = .ok (.iconst 0, 1) := by decide +kernel
theorem dL_law_478 : decode cL_law 478 = .ok (.ireturn, 1) := by decide +kernel
theorem dL_law_479 : decode cL_law 479 = .ok (.goto 984, 3) := by decide +kernel
theorem dL_law_482 : decode cL_law 482 = .ok (.aload_n 1, 1) := by decide +kernel
theorem dL_law_483 : decode cL_law 483 = .ok (.aload_n 0, 1) := by decide +kernel
theorem dL_law_484 : decode cL_law 484 = .ok (.iload 4, 2) := by decide +kernel
theorem dL_law_486 : decode cL_law 486 = .ok (.iconst 1, 1) := by decide +kernel
theorem dL_law_487 : decode cL_law 487 = .ok (.iadd, 1) := by decide +kernel
theorem dL_law_488 : decode cL_law 488 = .ok (.iaload, 1) := by decide +kernel
theorem dL_law_489 : decode cL_law 489 = .ok (.aload_n 0, 1) := by decide +kernel
theorem dL_law_490 : decode cL_law 490 = .ok (.iload 4, 2) := by decide +kernel
theorem dL_law_492 : decode cL_law 492 = .ok (.iconst 2, 1) := by decide +kernel
theorem dL_law_493 : decode cL_law 493 = .ok (.iadd, 1) := by decide +kernel
theorem dL_law_494 : decode cL_law 494 = .ok (.iaload, 1) := by decide +kernel
theorem dL_law_495 : decode cL_law 495 = .ok (.aload_n 3, 1) := by decide +kernel
theorem dL_law_496 : decode cL_law 496 = .ok (.invokestatic 110, 3) := by decide +kernel
theorem dL_law_499 : decode cL_law 499 = .ok (.istore 5, 2) := by decide +kernel
theorem dL_law_501 : decode cL_law 501 = .ok (.aload_n 2, 1) := by decide +kernel
theorem dL_law_502 : decode cL_law 502 = .ok (.aload_n 0, 1) := by decide +kernel
theorem dL_law_503 : decode cL_law 503 = .ok (.iload 4, 2) := by decide +kernel
theorem dL_law_505 : decode cL_law 505 = .ok (.iconst 1, 1) := by decide +kernel
theorem dL_law_506 : decode cL_law 506 = .ok (.iadd, 1) := by decide +kernel
theorem dL_law_507 : decode cL_law 507 = .ok (.iaload, 1) := by decide +kernel
theorem dL_law_508 : decode cL_law 508 = .ok (.aload_n 0, 1) := by decide +kernel
theorem dL_law_509 : decode cL_law 509 = .ok (.iload 4, 2) := by decide +kernel
theorem dL_law_511 : decode cL_law 511 = .ok (.iconst 2, 1) := by decide +kernel
theorem dL_law_512 : decode cL_law 512 = .ok (.iadd, 1) := by decide +kernel
theorem dL_law_513 : decode cL_law 513 = .ok (.iaload, 1) := by decide +kernel
theorem dL_law_514 : decode cL_law 514 = .ok (.invokevirtual 112, 3) := by decide +kernel
theorem dL_law_517 : decode cL_law 517 = .ok (.istore 6, 2) := by decide +kernel
theorem dL_law_519 : decode cL_law 519 = .ok (.aload_n 2, 1) := by decide +kernel
theorem dL_law_520 : decode cL_law 520 = .ok (.invokevirtual 91, 3) := by decide +kernel
theorem dL_law_523 : decode cL_law 523 = .ok (.iload 5, 2) := by decide +kernel
theorem dL_law_525 : decode cL_law 525 = .ok (.if_icmp .eq 5, 3) := by decide +kernel
theorem dL_law_528 : decode cL_law 528 = .ok (.iconst 0, 1) := by decide +kernel
theorem dL_law_529 : decode cL_law 529 = .ok (.ireturn, 1) := by decide +kernel
theorem dL_law_530 : decode cL_law 530 = .ok (.iload 5, 2) := by decide +kernel
theorem dL_law_532 : decode cL_law 532 = .ok (.ifCond .ne 15, 3) := by decide +kernel
theorem dL_law_535 : decode cL_law 535 = .ok (.aload_n 3, 1) := by decide +kernel
theorem dL_law_536 : decode cL_law 536 = .ok (.iconst 0, 1) := by decide +kernel
theorem dL_law_537 : decode cL_law 537 = .ok (.laload, 1) := by decide +kernel
theorem dL_law_538 : decode cL_law 538 = .ok (.iload 6, 2) := by decide +kernel
theorem dL_law_540 : decode cL_law 540 = .ok (.i2l, 1) := by decide +kernel
theorem dL_law_541 : decode cL_law 541 = .ok (.lcmp, 1) := by decide +kernel
theorem dL_law_542 : decode cL_law 542 = .ok (.ifCond .eq 5, 3) := by decide +kernel
theorem dL_law_545 : decode cL_law 545 = .ok (.iconst 0, 1) := by decide +kernel
theorem dL_law_546 : decode cL_law 546 = .ok (.ireturn, 1) := by decide +kernel
theorem dL_law_547 : decode cL_law 547 = .ok (.goto 916, 3) := by decide +kernel
theorem dL_law_550 : decode cL_law 550 = .ok (.aload_n 1, 1) := by decide +kernel
theorem dL_law_551 : decode cL_law 551 = .ok (.aload_n 0, 1) := by decide +kernel
theorem dL_law_552 : decode cL_law 552 = .ok (.iload 4, 2) := by decide +kernel
theorem dL_law_554 : decode cL_law 554 = .ok (.iconst 1, 1) := by decide +kernel
theorem dL_law_555 : decode cL_law 555 = .ok (.iadd, 1) := by decide +kernel
theorem dL_law_556 : decode cL_law 556 = .ok (.iaload, 1) := by decide +kernel
theorem dL_law_557 : decode cL_law 557 = .ok (.aload_n 3, 1) := by decide +kernel
theorem dL_law_558 : decode cL_law 558 = .ok (.invokestatic 113, 3) := by decide +kernel
theorem dL_law_561 : decode cL_law 561 = .ok (.istore 5, 2) := by decide +kernel
theorem dL_law_563 : decode cL_law 563 = .ok (.aload_n 2, 1) := by decide +kernel
theorem dL_law_564 : decode cL_law 564 = .ok (.aload_n 0, 1) := by decide +kernel
theorem dL_law_565 : decode cL_law 565 = .ok (.iload 4, 2) := by decide +kernel
theorem dL_law_567 : decode cL_law 567 = .ok (.iconst 1, 1) := by decide +kernel
theorem dL_law_568 : decode cL_law 568 = .ok (.iadd, 1) := by decide +kernel
theorem dL_law_569 : decode cL_law 569 = .ok (.iaload, 1) := by decide +kernel
theorem dL_law_570 : decode cL_law 570 = .ok (.invokevirtual 115, 3) := by decide +kernel
theorem dL_law_573 : decode cL_law 573 = .ok (.istore 6, 2) := by decide +kernel
theorem dL_law_575 : decode cL_law 575 = .ok (.aload_n 2, 1) := by decide +kernel
theorem dL_law_576 : decode cL_law 576 = .ok (.invokevirtual 91, 3) := by decide +kernel
theorem dL_law_579 : decode cL_law 579 = .ok (.iload 5, 2) := by decide +kernel
theorem dL_law_581 : decode cL_law 581 = .ok (.if_icmp .eq 5, 3) := by decide +kernel
theorem dL_law_584 : decode cL_law 584 = .ok (.iconst 0, 1) := by decide +kernel
theorem dL_law_585 : decode cL_law 585 = .ok (.ireturn, 1) := by decide +kernel
theorem dL_law_586 : decode cL_law 586 = .ok (.iload 5, 2) := by decide +kernel
theorem dL_law_588 : decode cL_law 588 = .ok (.ifCond .ne 15, 3) := by decide +kernel
theorem dL_law_591 : decode cL_law 591 = .ok (.aload_n 3, 1) := by decide +kernel
theorem dL_law_592 : decode cL_law 592 = .ok (.iconst 0, 1) := by decide +kernel
theorem dL_law_593 : decode cL_law 593 = .ok (.laload, 1) := by decide +kernel
theorem dL_law_594 : decode cL_law 594 = .ok (.iload 6, 2) := by decide +kernel
theorem dL_law_596 : decode cL_law 596 = .ok (.i2l, 1) := by decide +kernel
theorem dL_law_597 : decode cL_law 597 = .ok (.lcmp, 1) := by decide +kernel
theorem dL_law_598 : decode cL_law 598 = .ok (.ifCond .eq 5, 3) := by decide +kernel
theorem dL_law_601 : decode cL_law 601 = .ok (.iconst 0, 1) := by decide +kernel
theorem dL_law_602 : decode cL_law 602 = .ok (.ireturn, 1) := by decide +kernel
theorem dL_law_603 : decode cL_law 603 = .ok (.goto 860, 3) := by decide +kernel
theorem dL_law_606 : decode cL_law 606 = .ok (.aload_n 1, 1) := by decide +kernel
theorem dL_law_607 : decode cL_law 607 = .ok (.aload_n 0, 1) := by decide +kernel
theorem dL_law_608 : decode cL_law 608 = .ok (.iload 4, 2) := by decide +kernel
theorem dL_law_610 : decode cL_law 610 = .ok (.iconst 1, 1) := by decide +kernel
theorem dL_law_611 : decode cL_law 611 = .ok (.iadd, 1) := by decide +kernel
theorem dL_law_612 : decode cL_law 612 = .ok (.iaload, 1) := by decide +kernel
theorem dL_law_613 : decode cL_law 613 = .ok (.aload_n 0, 1) := by decide +kernel
theorem dL_law_614 : decode cL_law 614 = .ok (.iload 4, 2) := by decide +kernel
theorem dL_law_616 : decode cL_law 616 = .ok (.iconst 2, 1) := by decide +kernel
theorem dL_law_617 : decode cL_law 617 = .ok (.iadd, 1) := by decide +kernel
theorem dL_law_618 : decode cL_law 618 = .ok (.iaload, 1) := by decide +kernel
theorem dL_law_619 : decode cL_law 619 = .ok (.aload_n 3, 1) := by decide +kernel
theorem dL_law_620 : decode cL_law 620 = .ok (.invokestatic 116, 3) := by decide +kernel
theorem dL_law_623 : decode cL_law 623 = .ok (.istore 5, 2) := by decide +kernel
theorem dL_law_625 : decode cL_law 625 = .ok (.aload_n 2, 1) := by decide +kernel
theorem dL_law_626 : decode cL_law 626 = .ok (.aload_n 0, 1) := by decide +kernel
theorem dL_law_627 : decode cL_law 627 = .ok (.iload 4, 2) := by decide +kernel
theorem dL_law_629 : decode cL_law 629 = .ok (.iconst 1, 1) := by decide +kernel
theorem dL_law_630 : decode cL_law 630 = .ok (.iadd, 1) := by decide +kernel
theorem dL_law_631 : decode cL_law 631 = .ok (.iaload, 1) := by decide +kernel
theorem dL_law_632 : decode cL_law 632 = .ok (.aload_n 0, 1) := by decide +kernel
theorem dL_law_633 : decode cL_law 633 = .ok (.iload 4, 2) := by decide +kernel
theorem dL_law_635 : decode cL_law 635 = .ok (.iconst 2, 1) := by decide +kernel
theorem dL_law_636 : decode cL_law 636 = .ok (.iadd, 1) := by decide +kernel
theorem dL_law_637 : decode cL_law 637 = .ok (.iaload, 1) := by decide +kernel
theorem dL_law_638 : decode cL_law 638 = .ok (.invokevirtual 118, 3) := by decide +kernel
theorem dL_law_641 : decode cL_law 641 = .ok (.istore 6, 2) := by decide +kernel
theorem dL_law_643 : decode cL_law 643 = .ok (.aload_n 2, 1) := by decide +kernel
theorem dL_law_644 : decode cL_law 644 = .ok (.invokevirtual 91, 3) := by decide +kernel
theorem dL_law_647 : decode cL_law 647 = .ok (.iload 5, 2) := by decide +kernel
theorem dL_law_649 : decode cL_law 649 = .ok (.if_icmp .eq 5, 3) := by decide +kernel
theorem dL_law_652 : decode cL_law 652 = .ok (.iconst 0, 1) := by decide +kernel
theorem dL_law_653 : decode cL_law 653 = .ok (.ireturn, 1) := by decide +kernel
theorem dL_law_654 : decode cL_law 654 = .ok (.iload 5, 2) := by decide +kernel
theorem dL_law_656 : decode cL_law 656 = .ok (.ifCond .ne 15, 3) := by decide +kernel
theorem dL_law_659 : decode cL_law 659 = .ok (.aload_n 3, 1) := by decide +kernel
theorem dL_law_660 : decode cL_law 660 = .ok (.iconst 0, 1) := by decide +kernel
theorem dL_law_661 : decode cL_law 661 = .ok (.laload, 1) := by decide +kernel
theorem dL_law_662 : decode cL_law 662 = .ok (.iload 6, 2) := by decide +kernel
theorem dL_law_664 : decode cL_law 664 = .ok (.i2l, 1) := by decide +kernel
theorem dL_law_665 : decode cL_law 665 = .ok (.lcmp, 1) := by decide +kernel
theorem dL_law_666 : decode cL_law 666 = .ok (.ifCond .eq 5, 3) := by decide +kernel
theorem dL_law_669 : decode cL_law 669 = .ok (.iconst 0, 1) := by decide +kernel
theorem dL_law_670 : decode cL_law 670 = .ok (.ireturn, 1) := by decide +kernel
theorem dL_law_671 : decode cL_law 671 = .ok (.goto 792, 3) := by decide +kernel
theorem dL_law_674 : decode cL_law 674 = .ok (.aload_n 1, 1) := by decide +kernel
theorem dL_law_675 : decode cL_law 675 = .ok (.aload_n 0, 1) := by decide +kernel
theorem dL_law_676 : decode cL_law 676 = .ok (.iload 4, 2) := by decide +kernel
theorem dL_law_678 : decode cL_law 678 = .ok (.iconst 1, 1) := by decide +kernel
theorem dL_law_679 : decode cL_law 679 = .ok (.iadd, 1) := by decide +kernel
theorem dL_law_680 : decode cL_law 680 = .ok (.iaload, 1) := by decide +kernel
theorem dL_law_681 : decode cL_law 681 = .ok (.aload_n 0, 1) := by decide +kernel
theorem dL_law_682 : decode cL_law 682 = .ok (.iload 4, 2) := by decide +kernel
theorem dL_law_684 : decode cL_law 684 = .ok (.iconst 2, 1) := by decide +kernel
theorem dL_law_685 : decode cL_law 685 = .ok (.iadd, 1) := by decide +kernel
theorem dL_law_686 : decode cL_law 686 = .ok (.iaload, 1) := by decide +kernel
theorem dL_law_687 : decode cL_law 687 = .ok (.aload_n 3, 1) := by decide +kernel
theorem dL_law_688 : decode cL_law 688 = .ok (.invokestatic 119, 3) := by decide +kernel
theorem dL_law_691 : decode cL_law 691 = .ok (.istore 5, 2) := by decide +kernel
theorem dL_law_693 : decode cL_law 693 = .ok (.aload_n 2, 1) := by decide +kernel
theorem dL_law_694 : decode cL_law 694 = .ok (.aload_n 0, 1) := by decide +kernel
theorem dL_law_695 : decode cL_law 695 = .ok (.iload 4, 2) := by decide +kernel
theorem dL_law_697 : decode cL_law 697 = .ok (.iconst 1, 1) := by decide +kernel
theorem dL_law_698 : decode cL_law 698 = .ok (.iadd, 1) := by decide +kernel
theorem dL_law_699 : decode cL_law 699 = .ok (.iaload, 1) := by decide +kernel
theorem dL_law_700 : decode cL_law 700 = .ok (.aload_n 0, 1) := by decide +kernel
theorem dL_law_701 : decode cL_law 701 = .ok (.iload 4, 2) := by decide +kernel
theorem dL_law_703 : decode cL_law 703 = .ok (.iconst 2, 1) := by decide +kernel
theorem dL_law_704 : decode cL_law 704 = .ok (.iadd, 1) := by decide +kernel
theorem dL_law_705 : decode cL_law 705 = .ok (.iaload, 1) := by decide +kernel
theorem dL_law_706 : decode cL_law 706 = .ok (.invokevirtual 121, 3) := by decide +kernel
theorem dL_law_709 : decode cL_law 709 = .ok (.istore 6, 2) := by decide +kernel
theorem dL_law_711 : decode cL_law 711 = .ok (.aload_n 2, 1) := by decide +kernel
theorem dL_law_712 : decode cL_law 712 = .ok (.invokevirtual 91, 3) := by decide +kernel
theorem dL_law_715 : decode cL_law 715 = .ok (.iload 5, 2) := by decide +kernel
theorem dL_law_717 : decode cL_law 717 = .ok (.if_icmp .eq 5, 3) := by decide +kernel
theorem dL_law_720 : decode cL_law 720 = .ok (.iconst 0, 1) := by decide +kernel
theorem dL_law_721 : decode cL_law 721 = .ok (.ireturn, 1) := by decide +kernel
theorem dL_law_722 : decode cL_law 722 = .ok (.iload 5, 2) := by decide +kernel
theorem dL_law_724 : decode cL_law 724 = .ok (.ifCond .ne 15, 3) := by decide +kernel
theorem dL_law_727 : decode cL_law 727 = .ok (.aload_n 3, 1) := by decide +kernel
theorem dL_law_728 : decode cL_law 728 = .ok (.iconst 0, 1) := by decide +kernel
theorem dL_law_729 : decode cL_law 729 = .ok (.laload, 1) := by decide +kernel
theorem dL_law_730 : decode cL_law 730 = .ok (.iload 6, 2) := by decide +kernel
theorem dL_law_732 : decode cL_law 732 = .ok (.i2l, 1) := by decide +kernel
theorem dL_law_733 : decode cL_law 733 = .ok (.lcmp, 1) := by decide +kernel
theorem dL_law_734 : decode cL_law 734 = .ok (.ifCond .eq 5, 3) := by decide +kernel
theorem dL_law_737 : decode cL_law 737 = .ok (.iconst 0, 1) := by decide +kernel
theorem dL_law_738 : decode cL_law 738 = .ok (.ireturn, 1) := by decide +kernel
theorem dL_law_739 : decode cL_law 739 = .ok (.goto 724, 3) := by decide +kernel
theorem dL_law_742 : decode cL_law 742 = .ok (.aload_n 1, 1) := by decide +kernel
theorem dL_law_743 : decode cL_law 743 = .ok (.aload_n 0, 1) := by decide +kernel
theorem dL_law_744 : decode cL_law 744 = .ok (.iload 4, 2) := by decide +kernel
theorem dL_law_746 : decode cL_law 746 = .ok (.iconst 1, 1) := by decide +kernel
theorem dL_law_747 : decode cL_law 747 = .ok (.iadd, 1) := by decide +kernel
theorem dL_law_748 : decode cL_law 748 = .ok (.iaload, 1) := by decide +kernel
theorem dL_law_749 : decode cL_law 749 = .ok (.aload_n 3, 1) := by decide +kernel
theorem dL_law_750 : decode cL_law 750 = .ok (.invokestatic 122, 3) := by decide +kernel
theorem dL_law_753 : decode cL_law 753 = .ok (.istore 5, 2) := by decide +kernel
theorem dL_law_755 : decode cL_law 755 = .ok (.aload_n 2, 1) := by decide +kernel
theorem dL_law_756 : decode cL_law 756 = .ok (.aload_n 0, 1) := by decide +kernel
theorem dL_law_757 : decode cL_law 757 = .ok (.iload 4, 2) := by decide +kernel
theorem dL_law_759 : decode cL_law 759 = .ok (.iconst 1, 1) := by decide +kernel
theorem dL_law_760 : decode cL_law 760 = .ok (.iadd, 1) := by decide +kernel
theorem dL_law_761 : decode cL_law 761 = .ok (.iaload, 1) := by decide +kernel
theorem dL_law_762 : decode cL_law 762 = .ok (.invokevirtual 124, 3) := by decide +kernel
theorem dL_law_765 : decode cL_law 765 = .ok (.istore 6, 2) := by decide +kernel
theorem dL_law_767 : decode cL_law 767 = .ok (.aload_n 2, 1) := by decide +kernel
theorem dL_law_768 : decode cL_law 768 = .ok (.invokevirtual 91, 3) := by decide +kernel
theorem dL_law_771 : decode cL_law 771 = .ok (.iload 5, 2) := by decide +kernel
theorem dL_law_773 : decode cL_law 773 = .ok (.if_icmp .eq 5, 3) := by decide +kernel
theorem dL_law_776 : decode cL_law 776 = .ok (.iconst 0, 1) := by decide +kernel
theorem dL_law_777 : decode cL_law 777 = .ok (.ireturn, 1) := by decide +kernel
theorem dL_law_778 : decode cL_law 778 = .ok (.iload 5, 2) := by decide +kernel
theorem dL_law_780 : decode cL_law 780 = .ok (.ifCond .ne 15, 3) := by decide +kernel
theorem dL_law_783 : decode cL_law 783 = .ok (.aload_n 3, 1) := by decide +kernel
theorem dL_law_784 : decode cL_law 784 = .ok (.iconst 0, 1) := by decide +kernel
theorem dL_law_785 : decode cL_law 785 = .ok (.laload, 1) := by decide +kernel
theorem dL_law_786 : decode cL_law 786 = .ok (.iload 6, 2) := by decide +kernel
theorem dL_law_788 : decode cL_law 788 = .ok (.i2l, 1) := by decide +kernel
theorem dL_law_789 : decode cL_law 789 = .ok (.lcmp, 1) := by decide +kernel
theorem dL_law_790 : decode cL_law 790 = .ok (.ifCond .eq 5, 3) := by decide +kernel
theorem dL_law_793 : decode cL_law 793 = .ok (.iconst 0, 1) := by decide +kernel
theorem dL_law_794 : decode cL_law 794 = .ok (.ireturn, 1) := by decide +kernel
theorem dL_law_795 : decode cL_law 795 = .ok (.goto 668, 3) := by decide +kernel
theorem dL_law_798 : decode cL_law 798 = .ok (.aload_n 1, 1) := by decide +kernel
theorem dL_law_799 : decode cL_law 799 = .ok (.aload_n 0, 1) := by decide +kernel
theorem dL_law_800 : decode cL_law 800 = .ok (.iload 4, 2) := by decide +kernel
theorem dL_law_802 : decode cL_law 802 = .ok (.iconst 1, 1) := by decide +kernel
theorem dL_law_803 : decode cL_law 803 = .ok (.iadd, 1) := by decide +kernel
theorem dL_law_804 : decode cL_law 804 = .ok (.iaload, 1) := by decide +kernel
theorem dL_law_805 : decode cL_law 805 = .ok (.aload_n 0, 1) := by decide +kernel
theorem dL_law_806 : decode cL_law 806 = .ok (.iload 4, 2) := by decide +kernel
theorem dL_law_808 : decode cL_law 808 = .ok (.iconst 2, 1) := by decide +kernel
theorem dL_law_809 : decode cL_law 809 = .ok (.iadd, 1) := by decide +kernel
theorem dL_law_810 : decode cL_law 810 = .ok (.iaload, 1) := by decide +kernel
theorem dL_law_811 : decode cL_law 811 = .ok (.aload_n 0, 1) := by decide +kernel
theorem dL_law_812 : decode cL_law 812 = .ok (.iload 4, 2) := by decide +kernel
theorem dL_law_814 : decode cL_law 814 = .ok (.iconst 3, 1) := by decide +kernel
theorem dL_law_815 : decode cL_law 815 = .ok (.iadd, 1) := by decide +kernel
theorem dL_law_816 : decode cL_law 816 = .ok (.iaload, 1) := by decide +kernel
theorem dL_law_817 : decode cL_law 817 = .ok (.aload_n 3, 1) := by decide +kernel
theorem dL_law_818 : decode cL_law 818 = .ok (.invokestatic 125, 3) := by decide +kernel
theorem dL_law_821 : decode cL_law 821 = .ok (.istore 5, 2) := by decide +kernel
theorem dL_law_823 : decode cL_law 823 = .ok (.aload_n 2, 1) := by decide +kernel
theorem dL_law_824 : decode cL_law 824 = .ok (.aload_n 0, 1) := by decide +kernel
theorem dL_law_825 : decode cL_law 825 = .ok (.iload 4, 2) := by decide +kernel
theorem dL_law_827 : decode cL_law 827 = .ok (.iconst 1, 1) := by decide +kernel
theorem dL_law_828 : decode cL_law 828 = .ok (.iadd, 1) := by decide +kernel
theorem dL_law_829 : decode cL_law 829 = .ok (.iaload, 1) := by decide +kernel
theorem dL_law_830 : decode cL_law 830 = .ok (.aload_n 0, 1) := by decide +kernel
theorem dL_law_831 : decode cL_law 831 = .ok (.iload 4, 2) := by decide +kernel
theorem dL_law_833 : decode cL_law 833 = .ok (.iconst 2, 1) := by decide +kernel
theorem dL_law_834 : decode cL_law 834 = .ok (.iadd, 1) := by decide +kernel
theorem dL_law_835 : decode cL_law 835 = .ok (.iaload, 1) := by decide +kernel
theorem dL_law_836 : decode cL_law 836 = .ok (.aload_n 0, 1) := by decide +kernel
theorem dL_law_837 : decode cL_law 837 = .ok (.iload 4, 2) := by decide +kernel
theorem dL_law_839 : decode cL_law 839 = .ok (.iconst 3, 1) := by decide +kernel
theorem dL_law_840 : decode cL_law 840 = .ok (.iadd, 1) := by decide +kernel
theorem dL_law_841 : decode cL_law 841 = .ok (.iaload, 1) := by decide +kernel
theorem dL_law_842 : decode cL_law 842 = .ok (.invokevirtual 127, 3) := by decide +kernel
theorem dL_law_845 : decode cL_law 845 = .ok (.istore 6, 2) := by decide +kernel
theorem dL_law_847 : decode cL_law 847 = .ok (.aload_n 2, 1) := by decide +kernel
theorem dL_law_848 : decode cL_law 848 = .ok (.invokevirtual 91, 3) := by decide +kernel
theorem dL_law_851 : decode cL_law 851 = .ok (.iload 5, 2) := by decide +kernel
theorem dL_law_853 : decode cL_law 853 = .ok (.if_icmp .eq 5, 3) := by decide +kernel
theorem dL_law_856 : decode cL_law 856 = .ok (.iconst 0, 1) := by decide +kernel
theorem dL_law_857 : decode cL_law 857 = .ok (.ireturn, 1) := by decide +kernel
theorem dL_law_858 : decode cL_law 858 = .ok (.iload 5, 2) := by decide +kernel
theorem dL_law_860 : decode cL_law 860 = .ok (.ifCond .ne 15, 3) := by decide +kernel
theorem dL_law_863 : decode cL_law 863 = .ok (.aload_n 3, 1) := by decide +kernel
theorem dL_law_864 : decode cL_law 864 = .ok (.iconst 0, 1) := by decide +kernel
theorem dL_law_865 : decode cL_law 865 = .ok (.laload, 1) := by decide +kernel
theorem dL_law_866 : decode cL_law 866 = .ok (.iload 6, 2) := by decide +kernel
theorem dL_law_868 : decode cL_law 868 = .ok (.i2l, 1) := by decide +kernel
theorem dL_law_869 : decode cL_law 869 = .ok (.lcmp, 1) := by decide +kernel
theorem dL_law_870 : decode cL_law 870 = .ok (.ifCond .eq 5, 3) := by decide +kernel
theorem dL_law_873 : decode cL_law 873 = .ok (.iconst 0, 1) := by decide +kernel
theorem dL_law_874 : decode cL_law 874 = .ok (.ireturn, 1) := by decide +kernel
theorem dL_law_875 : decode cL_law 875 = .ok (.goto 588, 3) := by decide +kernel
theorem dL_law_878 : decode cL_law 878 = .ok (.aload_n 1, 1) := by decide +kernel
theorem dL_law_879 : decode cL_law 879 = .ok (.aload_n 0, 1) := by decide +kernel
theorem dL_law_880 : decode cL_law 880 = .ok (.iload 4, 2) := by decide +kernel
theorem dL_law_882 : decode cL_law 882 = .ok (.iconst 1, 1) := by decide +kernel
theorem dL_law_883 : decode cL_law 883 = .ok (.iadd, 1) := by decide +kernel
theorem dL_law_884 : decode cL_law 884 = .ok (.iaload, 1) := by decide +kernel
theorem dL_law_885 : decode cL_law 885 = .ok (.aload_n 3, 1) := by decide +kernel
theorem dL_law_886 : decode cL_law 886 = .ok (.invokestatic 128, 3) := by decide +kernel
theorem dL_law_889 : decode cL_law 889 = .ok (.istore 5, 2) := by decide +kernel
theorem dL_law_891 : decode cL_law 891 = .ok (.aload_n 2, 1) := by decide +kernel
theorem dL_law_892 : decode cL_law 892 = .ok (.aload_n 0, 1) := by decide +kernel
theorem dL_law_893 : decode cL_law 893 = .ok (.iload 4, 2) := by decide +kernel
theorem dL_law_895 : decode cL_law 895 = .ok (.iconst 1, 1) := by decide +kernel
theorem dL_law_896 : decode cL_law 896 = .ok (.iadd, 1) := by decide +kernel
theorem dL_law_897 : decode cL_law 897 = .ok (.iaload, 1) := by decide +kernel
theorem dL_law_898 : decode cL_law 898 = .ok (.invokevirtual 130, 3) := by decide +kernel
theorem dL_law_901 : decode cL_law 901 = .ok (.istore 6, 2) := by decide +kernel
theorem dL_law_903 : decode cL_law 903 = .ok (.aload_n 2, 1) := by decide +kernel
theorem dL_law_904 : decode cL_law 904 = .ok (.invokevirtual 91, 3) := by decide +kernel
theorem dL_law_907 : decode cL_law 907 = .ok (.iload 5, 2) := by decide +kernel
theorem dL_law_909 : decode cL_law 909 = .ok (.if_icmp .eq 5, 3) := by decide +kernel
theorem dL_law_912 : decode cL_law 912 = .ok (.iconst 0, 1) := by decide +kernel
theorem dL_law_913 : decode cL_law 913 = .ok (.ireturn, 1) := by decide +kernel
theorem dL_law_914 : decode cL_law 914 = .ok (.iload 5, 2) := by decide +kernel
theorem dL_law_916 : decode cL_law 916 = .ok (.ifCond .ne 15, 3) := by decide +kernel
theorem dL_law_919 : decode cL_law 919 = .ok (.aload_n 3, 1) := by decide +kernel
theorem dL_law_920 : decode cL_law 920 = .ok (.iconst 0, 1) := by decide +kernel
theorem dL_law_921 : decode cL_law 921 = .ok (.laload, 1) := by decide +kernel
theorem dL_law_922 : decode cL_law 922 = .ok (.iload 6, 2) := by decide +kernel
theorem dL_law_924 : decode cL_law 924 = .ok (.i2l, 1) := by decide +kernel
theorem dL_law_925 : decode cL_law 925 = .ok (.lcmp, 1) := by decide +kernel
theorem dL_law_926 : decode cL_law 926 = .ok (.ifCond .eq 5, 3) := by decide +kernel
theorem dL_law_929 : decode cL_law 929 = .ok (.iconst 0, 1) := by decide +kernel
theorem dL_law_930 : decode cL_law 930 = .ok (.ireturn, 1) := by decide +kernel
theorem dL_law_931 : decode cL_law 931 = .ok (.goto 532, 3) := by decide +kernel
theorem dL_law_934 : decode cL_law 934 = .ok (.aload_n 1, 1) := by decide +kernel
theorem dL_law_935 : decode cL_law 935 = .ok (.aload_n 0, 1) := by decide +kernel
theorem dL_law_936 : decode cL_law 936 = .ok (.iload 4, 2) := by decide +kernel
theorem dL_law_938 : decode cL_law 938 = .ok (.iconst 1, 1) := by decide +kernel
theorem dL_law_939 : decode cL_law 939 = .ok (.iadd, 1) := by decide +kernel
theorem dL_law_940 : decode cL_law 940 = .ok (.iaload, 1) := by decide +kernel
theorem dL_law_941 : decode cL_law 941 = .ok (.aload_n 3, 1) := by decide +kernel
theorem dL_law_942 : decode cL_law 942 = .ok (.invokestatic 131, 3) := by decide +kernel
theorem dL_law_945 : decode cL_law 945 = .ok (.istore 5, 2) := by decide +kernel
theorem dL_law_947 : decode cL_law 947 = .ok (.aload_n 2, 1) := by decide +kernel
theorem dL_law_948 : decode cL_law 948 = .ok (.aload_n 0, 1) := by decide +kernel
theorem dL_law_949 : decode cL_law 949 = .ok (.iload 4, 2) := by decide +kernel
theorem dL_law_951 : decode cL_law 951 = .ok (.iconst 1, 1) := by decide +kernel
theorem dL_law_952 : decode cL_law 952 = .ok (.iadd, 1) := by decide +kernel
theorem dL_law_953 : decode cL_law 953 = .ok (.iaload, 1) := by decide +kernel
theorem dL_law_954 : decode cL_law 954 = .ok (.invokevirtual 133, 3) := by decide +kernel
theorem dL_law_957 : decode cL_law 957 = .ok (.istore 6, 2) := by decide +kernel
theorem dL_law_959 : decode cL_law 959 = .ok (.aload_n 2, 1) := by decide +kernel
theorem dL_law_960 : decode cL_law 960 = .ok (.invokevirtual 91, 3) := by decide +kernel
theorem dL_law_963 : decode cL_law 963 = .ok (.iload 5, 2) := by decide +kernel
theorem dL_law_965 : decode cL_law 965 = .ok (.if_icmp .eq 5, 3) := by decide +kernel
theorem dL_law_968 : decode cL_law 968 = .ok (.iconst 0, 1) := by decide +kernel
theorem dL_law_969 : decode cL_law 969 = .ok (.ireturn, 1) := by decide +kernel
theorem dL_law_970 : decode cL_law 970 = .ok (.iload 5, 2) := by decide +kernel
theorem dL_law_972 : decode cL_law 972 = .ok (.ifCond .ne 15, 3) := by decide +kernel
theorem dL_law_975 : decode cL_law 975 = .ok (.aload_n 3, 1) := by decide +kernel
theorem dL_law_976 : decode cL_law 976 = .ok (.iconst 0, 1) := by decide +kernel
theorem dL_law_977 : decode cL_law 977 = .ok (.laload, 1) := by decide +kernel
theorem dL_law_978 : decode cL_law 978 = .ok (.iload 6, 2) := by decide +kernel
theorem dL_law_980 : decode cL_law 980 = .ok (.i2l, 1) := by decide +kernel
theorem dL_law_981 : decode cL_law 981 = .ok (.lcmp, 1) := by decide +kernel
theorem dL_law_982 : decode cL_law 982 = .ok (.ifCond .eq 5, 3) := by decide +kernel
theorem dL_law_985 : decode cL_law 985 = .ok (.iconst 0, 1) := by decide +kernel
theorem dL_law_986 : decode cL_law 986 = .ok (.ireturn, 1) := by decide +kernel
theorem dL_law_987 : decode cL_law 987 = .ok (.goto 476, 3) := by decide +kernel
theorem dL_law_990 : decode cL_law 990 = .ok (.aload_n 1, 1) := by decide +kernel
theorem dL_law_991 : decode cL_law 991 = .ok (.aload_n 0, 1) := by decide +kernel
theorem dL_law_992 : decode cL_law 992 = .ok (.iload 4, 2) := by decide +kernel
theorem dL_law_994 : decode cL_law 994 = .ok (.iconst 1, 1) := by decide +kernel
theorem dL_law_995 : decode cL_law 995 = .ok (.iadd, 1) := by decide +kernel
theorem dL_law_996 : decode cL_law 996 = .ok (.iaload, 1) := by decide +kernel
theorem dL_law_997 : decode cL_law 997 = .ok (.aload_n 3, 1) := by decide +kernel
theorem dL_law_998 : decode cL_law 998 = .ok (.invokestatic 134, 3) := by decide +kernel
theorem dL_law_1001 : decode cL_law 1001 = .ok (.istore 5, 2) := by decide +kernel
theorem dL_law_1003 : decode cL_law 1003 = .ok (.aload_n 2, 1) := by decide +kernel
theorem dL_law_1004 : decode cL_law 1004 = .ok (.aload_n 0, 1) := by decide +kernel
theorem dL_law_1005 : decode cL_law 1005 = .ok (.iload 4, 2) := by decide +kernel
theorem dL_law_1007 : decode cL_law 1007 = .ok (.iconst 1, 1) := by decide +kernel
theorem dL_law_1008 : decode cL_law 1008 = .ok (.iadd, 1) := by decide +kernel
theorem dL_law_1009 : decode cL_law 1009 = .ok (.iaload, 1) := by decide +kernel
theorem dL_law_1010 : decode cL_law 1010 = .ok (.invokevirtual 136, 3) := by decide +kernel
theorem dL_law_1013 : decode cL_law 1013 = .ok (.istore 6, 2) := by decide +kernel
theorem dL_law_1015 : decode cL_law 1015 = .ok (.aload_n 2, 1) := by decide +kernel
theorem dL_law_1016 : decode cL_law 1016 = .ok (.invokevirtual 91, 3) := by decide +kernel
theorem dL_law_1019 : decode cL_law 1019 = .ok (.iload 5, 2) := by decide +kernel
theorem dL_law_1021 : decode cL_law 1021 = .ok (.if_icmp .eq 5, 3) := by decide +kernel
theorem dL_law_1024 : decode cL_law 1024 = .ok (.iconst 0, 1) := by decide +kernel
theorem dL_law_1025 : decode cL_law 1025 = .ok (.ireturn, 1) := by decide +kernel
theorem dL_law_1026 : decode cL_law 1026 = .ok (.iload 5, 2) := by decide +kernel
theorem dL_law_1028 : decode cL_law 1028 = .ok (.ifCond .ne 15, 3) := by decide +kernel
theorem dL_law_1031 : decode cL_law 1031 = .ok (.aload_n 3, 1) := by decide +kernel
theorem dL_law_1032 : decode cL_law 1032 = .ok (.iconst 0, 1) := by decide +kernel
theorem dL_law_1033 : decode cL_law 1033 = .ok (.laload, 1) := by decide +kernel
theorem dL_law_1034 : decode cL_law 1034 = .ok (.iload 6, 2) := by decide +kernel
theorem dL_law_1036 : decode cL_law 1036 = .ok (.i2l, 1) := by decide +kernel
theorem dL_law_1037 : decode cL_law 1037 = .ok (.lcmp, 1) := by decide +kernel
theorem dL_law_1038 : decode cL_law 1038 = .ok (.ifCond .eq 5, 3) := by decide +kernel
theorem dL_law_1041 : decode cL_law 1041 = .ok (.iconst 0, 1) := by decide +kernel
theorem dL_law_1042 : decode cL_law 1042 = .ok (.ireturn, 1) := by decide +kernel
theorem dL_law_1043 : decode cL_law 1043 = .ok (.goto 420, 3) := by decide +kernel
theorem dL_law_1046 : decode cL_law 1046 = .ok (.aload_n 1, 1) := by decide +kernel
theorem dL_law_1047 : decode cL_law 1047 = .ok (.aload_n 0, 1) := by decide +kernel
theorem dL_law_1048 : decode cL_law 1048 = .ok (.iload 4, 2) := by decide +kernel
theorem dL_law_1050 : decode cL_law 1050 = .ok (.iconst 1, 1) := by decide +kernel
theorem dL_law_1051 : decode cL_law 1051 = .ok (.iadd, 1) := by decide +kernel
theorem dL_law_1052 : decode cL_law 1052 = .ok (.iaload, 1) := by decide +kernel
theorem dL_law_1053 : decode cL_law 1053 = .ok (.aload_n 3, 1) := by decide +kernel
theorem dL_law_1054 : decode cL_law 1054 = .ok (.invokestatic 137, 3) := by decide +kernel
theorem dL_law_1057 : decode cL_law 1057 = .ok (.istore 5, 2) := by decide +kernel
theorem dL_law_1059 : decode cL_law 1059 = .ok (.aload_n 2, 1) := by decide +kernel
theorem dL_law_1060 : decode cL_law 1060 = .ok (.aload_n 0, 1) := by decide +kernel
theorem dL_law_1061 : decode cL_law 1061 = .ok (.iload 4, 2) := by decide +kernel
theorem dL_law_1063 : decode cL_law 1063 = .ok (.iconst 1, 1) := by decide +kernel
theorem dL_law_1064 : decode cL_law 1064 = .ok (.iadd, 1) := by decide +kernel
theorem dL_law_1065 : decode cL_law 1065 = .ok (.iaload, 1) := by decide +kernel
theorem dL_law_1066 : decode cL_law 1066 = .ok (.invokevirtual 139, 3) := by decide +kernel
theorem dL_law_1069 : decode cL_law 1069 = .ok (.istore 6, 2) := by decide +kernel
theorem dL_law_1071 : decode cL_law 1071 = .ok (.aload_n 2, 1) := by decide +kernel
theorem dL_law_1072 : decode cL_law 1072 = .ok (.invokevirtual 91, 3) := by decide +kernel
theorem dL_law_1075 : decode cL_law 1075 = .ok (.iload 5, 2) := by decide +kernel
theorem dL_law_1077 : decode cL_law 1077 = .ok (.if_icmp .eq 5, 3) := by decide +kernel
theorem dL_law_1080 : decode cL_law 1080 = .ok (.iconst 0, 1) := by decide +kernel
theorem dL_law_1081 : decode cL_law 1081 = .ok (.ireturn, 1) := by decide +kernel
theorem dL_law_1082 : decode cL_law 1082 = .ok (.iload 5, 2) := by decide +kernel
theorem dL_law_1084 : decode cL_law 1084 = .ok (.ifCond .ne 15, 3) := by decide +kernel
theorem dL_law_1087 : decode cL_law 1087 = .ok (.aload_n 3, 1) := by decide +kernel
theorem dL_law_1088 : decode cL_law 1088 = .ok (.iconst 0, 1) := by decide +kernel
theorem dL_law_1089 : decode cL_law 1089 = .ok (.laload, 1) := by decide +kernel
theorem dL_law_1090 : decode cL_law 1090 = .ok (.iload 6, 2) := by decide +kernel
theorem dL_law_1092 : decode cL_law 1092 = .ok (.i2l, 1) := by decide +kernel
theorem dL_law_1093 : decode cL_law 1093 = .ok (.lcmp, 1) := by decide +kernel
theorem dL_law_1094 : decode cL_law 1094 = .ok (.ifCond .eq 5, 3) := by decide +kernel
theorem dL_law_1097 : decode cL_law 1097 = .ok (.iconst 0, 1) := by decide +kernel
theorem dL_law_1098 : decode cL_law 1098 = .ok (.ireturn, 1) := by decide +kernel
theorem dL_law_1099 : decode cL_law 1099 = .ok (.goto 364, 3) := by decide +kernel
theorem dL_law_1102 : decode cL_law 1102 = .ok (.aload_n 1, 1) := by decide +kernel
theorem dL_law_1103 : decode cL_law 1103 = .ok (.aload_n 0, 1) := by decide +kernel
theorem dL_law_1104 : decode cL_law 1104 = .ok (.iload 4, 2) := by decide +kernel
theorem dL_law_1106 : decode cL_law 1106 = .ok (.iconst 1, 1) := by decide +kernel
theorem dL_law_1107 : decode cL_law 1107 = .ok (.iadd, 1) := by decide +kernel
theorem dL_law_1108 : decode cL_law 1108 = .ok (.iaload, 1) := by decide +kernel
theorem dL_law_1109 : decode cL_law 1109 = .ok (.aload_n 0, 1) := by decide +kernel
theorem dL_law_1110 : decode cL_law 1110 = .ok (.iload 4, 2) := by decide +kernel
theorem dL_law_1112 : decode cL_law 1112 = .ok (.iconst 2, 1) := by decide +kernel
theorem dL_law_1113 : decode cL_law 1113 = .ok (.iadd, 1) := by decide +kernel
theorem dL_law_1114 : decode cL_law 1114 = .ok (.iaload, 1) := by decide +kernel
theorem dL_law_1115 : decode cL_law 1115 = .ok (.aload_n 3, 1) := by decide +kernel
theorem dL_law_1116 : decode cL_law 1116 = .ok (.invokestatic 140, 3) := by decide +kernel
theorem dL_law_1119 : decode cL_law 1119 = .ok (.istore 5, 2) := by decide +kernel
theorem dL_law_1121 : decode cL_law 1121 = .ok (.aload_n 2, 1) := by decide +kernel
theorem dL_law_1122 : decode cL_law 1122 = .ok (.aload_n 0, 1) := by decide +kernel
theorem dL_law_1123 : decode cL_law 1123 = .ok (.iload 4, 2) := by decide +kernel
theorem dL_law_1125 : decode cL_law 1125 = .ok (.iconst 1, 1) := by decide +kernel
theorem dL_law_1126 : decode cL_law 1126 = .ok (.iadd, 1) := by decide +kernel
theorem dL_law_1127 : decode cL_law 1127 = .ok (.iaload, 1) := by decide +kernel
theorem dL_law_1128 : decode cL_law 1128 = .ok (.aload_n 0, 1) := by decide +kernel
theorem dL_law_1129 : decode cL_law 1129 = .ok (.iload 4, 2) := by decide +kernel
theorem dL_law_1131 : decode cL_law 1131 = .ok (.iconst 2, 1) := by decide +kernel
theorem dL_law_1132 : decode cL_law 1132 = .ok (.iadd, 1) := by decide +kernel
theorem dL_law_1133 : decode cL_law 1133 = .ok (.iaload, 1) := by decide +kernel
theorem dL_law_1134 : decode cL_law 1134 = .ok (.invokevirtual 142, 3) := by decide +kernel
theorem dL_law_1137 : decode cL_law 1137 = .ok (.istore 6, 2) := by decide +kernel
theorem dL_law_1139 : decode cL_law 1139 = .ok (.aload_n 2, 1) := by decide +kernel
theorem dL_law_1140 : decode cL_law 1140 = .ok (.invokevirtual 91, 3) := by decide +kernel
theorem dL_law_1143 : decode cL_law 1143 = .ok (.iload 5, 2) := by decide +kernel
theorem dL_law_1145 : decode cL_law 1145 = .ok (.if_icmp .eq 5, 3) := by decide +kernel
theorem dL_law_1148 : decode cL_law 1148 = .ok (.iconst 0, 1) := by decide +kernel
theorem dL_law_1149 : decode cL_law 1149 = .ok (.ireturn, 1) := by decide +kernel
theorem dL_law_1150 : decode cL_law 1150 = .ok (.iload 5, 2) := by decide +kernel
theorem dL_law_1152 : decode cL_law 1152 = .ok (.ifCond .ne 22, 3) := by decide +kernel
theorem dL_law_1155 : decode cL_law 1155 = .ok (.aload_n 3, 1) := by decide +kernel
theorem dL_law_1156 : decode cL_law 1156 = .ok (.iconst 0, 1) := by decide +kernel
theorem dL_law_1157 : decode cL_law 1157 = .ok (.laload, 1) := by decide +kernel
theorem dL_law_1158 : decode cL_law 1158 = .ok (.iload 6, 2) := by decide +kernel
theorem dL_law_1160 : decode cL_law 1160 = .ok (.ifCond .eq 7, 3) := by decide +kernel
theorem dL_law_1163 : decode cL_law 1163 = .ok (.lconst 1, 1) := by decide +kernel
theorem dL_law_1164 : decode cL_law 1164 = .ok (.goto 4, 3) := by decide +kernel
theorem dL_law_1167 : decode cL_law 1167 = .ok (.lconst 0, 1) := by decide +kernel
theorem dL_law_1168 : decode cL_law 1168 = .ok (.lcmp, 1) := by decide +kernel
theorem dL_law_1169 : decode cL_law 1169 = .ok (.ifCond .eq 5, 3) := by decide +kernel
theorem dL_law_1172 : decode cL_law 1172 = .ok (.iconst 0, 1) := by decide +kernel
theorem dL_law_1173 : decode cL_law 1173 = .ok (.ireturn, 1) := by decide +kernel
theorem dL_law_1174 : decode cL_law 1174 = .ok (.goto 289, 3) := by decide +kernel
theorem dL_law_1177 : decode cL_law 1177 = .ok (.aload_n 1, 1) := by decide +kernel
theorem dL_law_1178 : decode cL_law 1178 = .ok (.aload_n 0, 1) := by decide +kernel
theorem dL_law_1179 : decode cL_law 1179 = .ok (.iload 4, 2) := by decide +kernel
theorem dL_law_1181 : decode cL_law 1181 = .ok (.iconst 1, 1) := by decide +kernel
theorem dL_law_1182 : decode cL_law 1182 = .ok (.iadd, 1) := by decide +kernel
theorem dL_law_1183 : decode cL_law 1183 = .ok (.iaload, 1) := by decide +kernel
theorem dL_law_1184 : decode cL_law 1184 = .ok (.aload_n 0, 1) := by decide +kernel
theorem dL_law_1185 : decode cL_law 1185 = .ok (.iload 4, 2) := by decide +kernel
theorem dL_law_1187 : decode cL_law 1187 = .ok (.iconst 2, 1) := by decide +kernel
theorem dL_law_1188 : decode cL_law 1188 = .ok (.iadd, 1) := by decide +kernel
theorem dL_law_1189 : decode cL_law 1189 = .ok (.iaload, 1) := by decide +kernel
theorem dL_law_1190 : decode cL_law 1190 = .ok (.aload_n 0, 1) := by decide +kernel
theorem dL_law_1191 : decode cL_law 1191 = .ok (.iload 4, 2) := by decide +kernel
theorem dL_law_1193 : decode cL_law 1193 = .ok (.iconst 3, 1) := by decide +kernel
theorem dL_law_1194 : decode cL_law 1194 = .ok (.iadd, 1) := by decide +kernel
theorem dL_law_1195 : decode cL_law 1195 = .ok (.iaload, 1) := by decide +kernel
theorem dL_law_1196 : decode cL_law 1196 = .ok (.aload_n 3, 1) := by decide +kernel
theorem dL_law_1197 : decode cL_law 1197 = .ok (.invokestatic 143, 3) := by decide +kernel
theorem dL_law_1200 : decode cL_law 1200 = .ok (.istore 5, 2) := by decide +kernel
theorem dL_law_1202 : decode cL_law 1202 = .ok (.aload_n 2, 1) := by decide +kernel
theorem dL_law_1203 : decode cL_law 1203 = .ok (.aload_n 0, 1) := by decide +kernel
theorem dL_law_1204 : decode cL_law 1204 = .ok (.iload 4, 2) := by decide +kernel
theorem dL_law_1206 : decode cL_law 1206 = .ok (.iconst 1, 1) := by decide +kernel
theorem dL_law_1207 : decode cL_law 1207 = .ok (.iadd, 1) := by decide +kernel
theorem dL_law_1208 : decode cL_law 1208 = .ok (.iaload, 1) := by decide +kernel
theorem dL_law_1209 : decode cL_law 1209 = .ok (.aload_n 0, 1) := by decide +kernel
theorem dL_law_1210 : decode cL_law 1210 = .ok (.iload 4, 2) := by decide +kernel
theorem dL_law_1212 : decode cL_law 1212 = .ok (.iconst 2, 1) := by decide +kernel
theorem dL_law_1213 : decode cL_law 1213 = .ok (.iadd, 1) := by decide +kernel
theorem dL_law_1214 : decode cL_law 1214 = .ok (.iaload, 1) := by decide +kernel
theorem dL_law_1215 : decode cL_law 1215 = .ok (.aload_n 0, 1) := by decide +kernel
theorem dL_law_1216 : decode cL_law 1216 = .ok (.iload 4, 2) := by decide +kernel
theorem dL_law_1218 : decode cL_law 1218 = .ok (.iconst 3, 1) := by decide +kernel
theorem dL_law_1219 : decode cL_law 1219 = .ok (.iadd, 1) := by decide +kernel
theorem dL_law_1220 : decode cL_law 1220 = .ok (.iaload, 1) := by decide +kernel
theorem dL_law_1221 : decode cL_law 1221 = .ok (.invokevirtual 145, 3) := by decide +kernel
theorem dL_law_1224 : decode cL_law 1224 = .ok (.istore 6, 2) := by decide +kernel
theorem dL_law_1226 : decode cL_law 1226 = .ok (.aload_n 2, 1) := by decide +kernel
theorem dL_law_1227 : decode cL_law 1227 = .ok (.invokevirtual 91, 3) := by decide +kernel
theorem dL_law_1230 : decode cL_law 1230 = .ok (.iload 5, 2) := by decide +kernel
theorem dL_law_1232 : decode cL_law 1232 = .ok (.if_icmp .eq 5, 3) := by decide +kernel
theorem dL_law_1235 : decode cL_law 1235 = .ok (.iconst 0, 1) := by decide +kernel
theorem dL_law_1236 : decode cL_law 1236 = .ok (.ireturn, 1) := by decide +kernel
theorem dL_law_1237 : decode cL_law 1237 = .ok (.iload 5, 2) := by decide +kernel
theorem dL_law_1239 : decode cL_law 1239 = .ok (.ifCond .ne 15, 3) := by decide +kernel
theorem dL_law_1242 : decode cL_law 1242 = .ok (.aload_n 3, 1) := by decide +kernel
theorem dL_law_1243 : decode cL_law 1243 = .ok (.iconst 0, 1) := by decide +kernel
theorem dL_law_1244 : decode cL_law 1244 = .ok (.laload, 1) := by decide +kernel
theorem dL_law_1245 : decode cL_law 1245 = .ok (.iload 6, 2) := by decide +kernel
theorem dL_law_1247 : decode cL_law 1247 = .ok (.i2l, 1) := by decide +kernel
theorem dL_law_1248 : decode cL_law 1248 = .ok (.lcmp, 1) := by decide +kernel
theorem dL_law_1249 : decode cL_law 1249 = .ok (.ifCond .eq 5, 3) := by decide +kernel
theorem dL_law_1252 : decode cL_law 1252 = .ok (.iconst 0, 1) := by decide +kernel
theorem dL_law_1253 : decode cL_law 1253 = .ok (.ireturn, 1) := by decide +kernel
theorem dL_law_1254 : decode cL_law 1254 = .ok (.goto 209, 3) := by decide +kernel
theorem dL_law_1257 : decode cL_law 1257 = .ok (.aload_n 1, 1) := by decide +kernel
theorem dL_law_1258 : decode cL_law 1258 = .ok (.invokevirtual 146, 3) := by decide +kernel
theorem dL_law_1261 : decode cL_law 1261 = .ok (.aload_n 2, 1) := by decide +kernel
theorem dL_law_1262 : decode cL_law 1262 = .ok (.invokevirtual 149, 3) := by decide +kernel
theorem dL_law_1265 : decode cL_law 1265 = .ok (.if_icmp .eq 198, 3) := by decide +kernel
theorem dL_law_1268 : decode cL_law 1268 = .ok (.iconst 0, 1) := by decide +kernel
theorem dL_law_1269 : decode cL_law 1269 = .ok (.ireturn, 1) := by decide +kernel
theorem dL_law_1270 : decode cL_law 1270 = .ok (.aload_n 1, 1) := by decide +kernel
theorem dL_law_1271 : decode cL_law 1271 = .ok (.invokevirtual 150, 3) := by decide +kernel
theorem dL_law_1274 : decode cL_law 1274 = .ok (.aload_n 2, 1) := by decide +kernel
theorem dL_law_1275 : decode cL_law 1275 = .ok (.invokevirtual 153, 3) := by decide +kernel
theorem dL_law_1278 : decode cL_law 1278 = .ok (.if_icmp .eq 185, 3) := by decide +kernel
theorem dL_law_1281 : decode cL_law 1281 = .ok (.iconst 0, 1) := by decide +kernel
theorem dL_law_1282 : decode cL_law 1282 = .ok (.ireturn, 1) := by decide +kernel
theorem dL_law_1283 : decode cL_law 1283 = .ok (.aload_n 1, 1) := by decide +kernel
theorem dL_law_1284 : decode cL_law 1284 = .ok (.aload_n 0, 1) := by decide +kernel
theorem dL_law_1285 : decode cL_law 1285 = .ok (.iload 4, 2) := by decide +kernel
theorem dL_law_1287 : decode cL_law 1287 = .ok (.iconst 1, 1) := by decide +kernel
theorem dL_law_1288 : decode cL_law 1288 = .ok (.iadd, 1) := by decide +kernel
theorem dL_law_1289 : decode cL_law 1289 = .ok (.iaload, 1) := by decide +kernel
theorem dL_law_1290 : decode cL_law 1290 = .ok (.aload_n 3, 1) := by decide +kernel
theorem dL_law_1291 : decode cL_law 1291 = .ok (.invokestatic 154, 3) := by decide +kernel
theorem dL_law_1294 : decode cL_law 1294 = .ok (.istore 5, 2) := by decide +kernel
theorem dL_law_1296 : decode cL_law 1296 = .ok (.aload_n 2, 1) := by decide +kernel
theorem dL_law_1297 : decode cL_law 1297 = .ok (.aload_n 0, 1) := by decide +kernel
theorem dL_law_1298 : decode cL_law 1298 = .ok (.iload 4, 2) := by decide +kernel
theorem dL_law_1300 : decode cL_law 1300 = .ok (.iconst 1, 1) := by decide +kernel
theorem dL_law_1301 : decode cL_law 1301 = .ok (.iadd, 1) := by decide +kernel
theorem dL_law_1302 : decode cL_law 1302 = .ok (.iaload, 1) := by decide +kernel
theorem dL_law_1303 : decode cL_law 1303 = .ok (.invokevirtual 156, 3) := by decide +kernel
theorem dL_law_1306 : decode cL_law 1306 = .ok (.istore 6, 2) := by decide +kernel
theorem dL_law_1308 : decode cL_law 1308 = .ok (.aload_n 2, 1) := by decide +kernel
theorem dL_law_1309 : decode cL_law 1309 = .ok (.invokevirtual 91, 3) := by decide +kernel
theorem dL_law_1312 : decode cL_law 1312 = .ok (.iload 5, 2) := by decide +kernel
theorem dL_law_1314 : decode cL_law 1314 = .ok (.if_icmp .eq 5, 3) := by decide +kernel
theorem dL_law_1317 : decode cL_law 1317 = .ok (.iconst 0, 1) := by decide +kernel
theorem dL_law_1318 : decode cL_law 1318 = .ok (.ireturn, 1) := by decide +kernel
theorem dL_law_1319 : decode cL_law 1319 = .ok (.iload 5, 2) := by decide +kernel
theorem dL_law_1321 : decode cL_law 1321 = .ok (.ifCond .ne 15, 3) := by decide +kernel
theorem dL_law_1324 : decode cL_law 1324 = .ok (.aload_n 3, 1) := by decide +kernel
theorem dL_law_1325 : decode cL_law 1325 = .ok (.iconst 0, 1) := by decide +kernel
theorem dL_law_1326 : decode cL_law 1326 = .ok (.laload, 1) := by decide +kernel
theorem dL_law_1327 : decode cL_law 1327 = .ok (.iload 6, 2) := by decide +kernel
theorem dL_law_1329 : decode cL_law 1329 = .ok (.i2l, 1) := by decide +kernel
theorem dL_law_1330 : decode cL_law 1330 = .ok (.lcmp, 1) := by decide +kernel
theorem dL_law_1331 : decode cL_law 1331 = .ok (.ifCond .eq 5, 3) := by decide +kernel
theorem dL_law_1334 : decode cL_law 1334 = .ok (.iconst 0, 1) := by decide +kernel
theorem dL_law_1335 : decode cL_law 1335 = .ok (.ireturn, 1) := by decide +kernel
theorem dL_law_1336 : decode cL_law 1336 = .ok (.goto 127, 3) := by decide +kernel
theorem dL_law_1339 : decode cL_law 1339 = .ok (.aload_n 1, 1) := by decide +kernel
theorem dL_law_1340 : decode cL_law 1340 = .ok (.aload_n 0, 1) := by decide +kernel
theorem dL_law_1341 : decode cL_law 1341 = .ok (.iload 4, 2) := by decide +kernel
theorem dL_law_1343 : decode cL_law 1343 = .ok (.iconst 1, 1) := by decide +kernel
theorem dL_law_1344 : decode cL_law 1344 = .ok (.iadd, 1) := by decide +kernel
theorem dL_law_1345 : decode cL_law 1345 = .ok (.iaload, 1) := by decide +kernel
theorem dL_law_1346 : decode cL_law 1346 = .ok (.aload_n 3, 1) := by decide +kernel
theorem dL_law_1347 : decode cL_law 1347 = .ok (.invokestatic 157, 3) := by decide +kernel
theorem dL_law_1350 : decode cL_law 1350 = .ok (.istore 5, 2) := by decide +kernel
theorem dL_law_1352 : decode cL_law 1352 = .ok (.aload_n 2, 1) := by decide +kernel
theorem dL_law_1353 : decode cL_law 1353 = .ok (.aload_n 0, 1) := by decide +kernel
theorem dL_law_1354 : decode cL_law 1354 = .ok (.iload 4, 2) := by decide +kernel
theorem dL_law_1356 : decode cL_law 1356 = .ok (.iconst 1, 1) := by decide +kernel
theorem dL_law_1357 : decode cL_law 1357 = .ok (.iadd, 1) := by decide +kernel
theorem dL_law_1358 : decode cL_law 1358 = .ok (.iaload, 1) := by decide +kernel
theorem dL_law_1359 : decode cL_law 1359 = .ok (.invokevirtual 159, 3) := by decide +kernel
theorem dL_law_1362 : decode cL_law 1362 = .ok (.istore 6, 2) := by decide +kernel
theorem dL_law_1364 : decode cL_law 1364 = .ok (.aload_n 2, 1) := by decide +kernel
theorem dL_law_1365 : decode cL_law 1365 = .ok (.invokevirtual 91, 3) := by decide +kernel
theorem dL_law_1368 : decode cL_law 1368 = .ok (.iload 5, 2) := by decide +kernel
theorem dL_law_1370 : decode cL_law 1370 = .ok (.if_icmp .eq 5, 3) := by decide +kernel
theorem dL_law_1373 : decode cL_law 1373 = .ok (.iconst 0, 1) := by decide +kernel
theorem dL_law_1374 : decode cL_law 1374 = .ok (.ireturn, 1) := by decide +kernel
theorem dL_law_1375 : decode cL_law 1375 = .ok (.iload 5, 2) := by decide +kernel
theorem dL_law_1377 : decode cL_law 1377 = .ok (.ifCond .ne 15, 3) := by decide +kernel
theorem dL_law_1380 : decode cL_law 1380 = .ok (.aload_n 3, 1) := by decide +kernel
theorem dL_law_1381 : decode cL_law 1381 = .ok (.iconst 0, 1) := by decide +kernel
theorem dL_law_1382 : decode cL_law 1382 = .ok (.laload, 1) := by decide +kernel
theorem dL_law_1383 : decode cL_law 1383 = .ok (.iload 6, 2) := by decide +kernel
theorem dL_law_1385 : decode cL_law 1385 = .ok (.i2l, 1) := by decide +kernel
theorem dL_law_1386 : decode cL_law 1386 = .ok (.lcmp, 1) := by decide +kernel
theorem dL_law_1387 : decode cL_law 1387 = .ok (.ifCond .eq 5, 3) := by decide +kernel
theorem dL_law_1390 : decode cL_law 1390 = .ok (.iconst 0, 1) := by decide +kernel
theorem dL_law_1391 : decode cL_law 1391 = .ok (.ireturn, 1) := by decide +kernel
theorem dL_law_1392 : decode cL_law 1392 = .ok (.goto 71, 3) := by decide +kernel
theorem dL_law_1395 : decode cL_law 1395 = .ok (.aload_n 1, 1) := by decide +kernel
theorem dL_law_1396 : decode cL_law 1396 = .ok (.aload_n 0, 1) := by decide +kernel
theorem dL_law_1397 : decode cL_law 1397 = .ok (.iload 4, 2) := by decide +kernel
theorem dL_law_1399 : decode cL_law 1399 = .ok (.iconst 1, 1) := by decide +kernel
theorem dL_law_1400 : decode cL_law 1400 = .ok (.iadd, 1) := by decide +kernel
theorem dL_law_1401 : decode cL_law 1401 = .ok (.iaload, 1) := by decide +kernel
theorem dL_law_1402 : decode cL_law 1402 = .ok (.aload_n 0, 1) := by decide +kernel
theorem dL_law_1403 : decode cL_law 1403 = .ok (.iload 4, 2) := by decide +kernel
theorem dL_law_1405 : decode cL_law 1405 = .ok (.iconst 2, 1) := by decide +kernel
theorem dL_law_1406 : decode cL_law 1406 = .ok (.iadd, 1) := by decide +kernel
theorem dL_law_1407 : decode cL_law 1407 = .ok (.iaload, 1) := by decide +kernel
theorem dL_law_1408 : decode cL_law 1408 = .ok (.aload_n 3, 1) := by decide +kernel
theorem dL_law_1409 : decode cL_law 1409 = .ok (.invokestatic 160, 3) := by decide +kernel
theorem dL_law_1412 : decode cL_law 1412 = .ok (.istore 5, 2) := by decide +kernel
theorem dL_law_1414 : decode cL_law 1414 = .ok (.aload_n 2, 1) := by decide +kernel
theorem dL_law_1415 : decode cL_law 1415 = .ok (.aload_n 0, 1) := by decide +kernel
theorem dL_law_1416 : decode cL_law 1416 = .ok (.iload 4, 2) := by decide +kernel
theorem dL_law_1418 : decode cL_law 1418 = .ok (.iconst 1, 1) := by decide +kernel
theorem dL_law_1419 : decode cL_law 1419 = .ok (.iadd, 1) := by decide +kernel
theorem dL_law_1420 : decode cL_law 1420 = .ok (.iaload, 1) := by decide +kernel
theorem dL_law_1421 : decode cL_law 1421 = .ok (.aload_n 0, 1) := by decide +kernel
theorem dL_law_1422 : decode cL_law 1422 = .ok (.iload 4, 2) := by decide +kernel
theorem dL_law_1424 : decode cL_law 1424 = .ok (.iconst 2, 1) := by decide +kernel
theorem dL_law_1425 : decode cL_law 1425 = .ok (.iadd, 1) := by decide +kernel
theorem dL_law_1426 : decode cL_law 1426 = .ok (.iaload, 1) := by decide +kernel
theorem dL_law_1427 : decode cL_law 1427 = .ok (.invokevirtual 162, 3) := by decide +kernel
theorem dL_law_1430 : decode cL_law 1430 = .ok (.istore 6, 2) := by decide +kernel
theorem dL_law_1432 : decode cL_law 1432 = .ok (.aload_n 2, 1) := by decide +kernel
theorem dL_law_1433 : decode cL_law 1433 = .ok (.invokevirtual 91, 3) := by decide +kernel
theorem dL_law_1436 : decode cL_law 1436 = .ok (.iload 5, 2) := by decide +kernel
theorem dL_law_1438 : decode cL_law 1438 = .ok (.if_icmp .eq 5, 3) := by decide +kernel
theorem dL_law_1441 : decode cL_law 1441 = .ok (.iconst 0, 1) := by decide +kernel
theorem dL_law_1442 : decode cL_law 1442 = .ok (.ireturn, 1) := by decide +kernel
theorem dL_law_1443 : decode cL_law 1443 = .ok (.iload 5, 2) := by decide +kernel
theorem dL_law_1445 : decode cL_law 1445 = .ok (.ifCond .ne 15, 3) := by decide +kernel
theorem dL_law_1448 : decode cL_law 1448 = .ok (.aload_n 3, 1) := by decide +kernel
theorem dL_law_1449 : decode cL_law 1449 = .ok (.iconst 0, 1) := by decide +kernel
theorem dL_law_1450 : decode cL_law 1450 = .ok (.laload, 1) := by decide +kernel
theorem dL_law_1451 : decode cL_law 1451 = .ok (.iload 6, 2) := by decide +kernel
theorem dL_law_1453 : decode cL_law 1453 = .ok (.i2l, 1) := by decide +kernel
theorem dL_law_1454 : decode cL_law 1454 = .ok (.lcmp, 1) := by decide +kernel
theorem dL_law_1455 : decode cL_law 1455 = .ok (.ifCond .eq 5, 3) := by decide +kernel
theorem dL_law_1458 : decode cL_law 1458 = .ok (.iconst 0, 1) := by decide +kernel
theorem dL_law_1459 : decode cL_law 1459 = .ok (.ireturn, 1) := by decide +kernel
theorem dL_law_1460 : decode cL_law 1460 = .ok (.goto 3, 3) := by decide +kernel
theorem dL_law_1463 : decode cL_law 1463 = .ok (.iinc 4 4, 3) := by decide +kernel
theorem dL_law_1466 : decode cL_law 1466 = .ok (.goto (-1443), 3) := by decide +kernel
theorem dL_law_1469 : decode cL_law 1469 = .ok (.iconst 1, 1) := by decide +kernel
theorem dL_law_1470 : decode cL_law 1470 = .ok (.ireturn, 1) := by decide +kernel
abbrev vwCl : List vw_C := [(RJx4a65c, TJx4a65c, 3), (RX0, TX0, 3), (RX1, TX1, 6), (RX2, TX2, 3), (RX3, TX3, 4), (RX4, TX4, 2), (RX5, TX5, 3), (RX6, TX6, 4), (RX7, TX7, 4), (RX8, TX8, 4), (RX9, TX9, 10), (RX10, TX10, 7), (RX11, TX11, 32)]
