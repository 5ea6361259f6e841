/-! names, words: written by wip/gen -/
def R_TuneSetter : String := "TuneSetter"
def F_TuneSetter : u_T := fun k => match k with
  | 0 => ("TuneSetter", "text", "[C", true)
  | 1 => ("TuneSetter", "reader", "LTuneSetter$Reader;", true)
  | 2 => ("TuneSetter", "playing", "LTuneSetter$Playing;", true)
  | 3 => ("TuneSetter", "file", "LTuneSetter$NoteFile;", true)
  | 4 => ("TuneSetter", "breaker", "LTuneSetter$LineBreaker;", true)
  | 5 => ("TuneSetter", "textSize", "I", false)
  | 6 => ("TuneSetter", "fullBar", "I", false)
  | 7 => ("TuneSetter", "unitTicks", "I", false)
  | 8 => ("TuneSetter", "sharps", "I", false)
  | 9 => ("TuneSetter", "hasTune", "Z", false)
  | _ => ("TuneSetter", "wrongPlace", "I", false)
def t_TuneSetter : Nat → FieldType := fun k => match k with
  | 0 => .array .char
  | 1 => .object "TuneSetter$Reader"
  | 2 => .object "TuneSetter$Playing"
  | 3 => .object "TuneSetter$NoteFile"
  | 4 => .object "TuneSetter$LineBreaker"
  | 5 => .int
  | 6 => .int
  | 7 => .int
  | 8 => .int
  | 9 => .boolean
  | _ => .int
abbrev W_TuneSetter : List Cond := u_ws R_TuneSetter F_TuneSetter 11
theorem n_TuneSetter : ∀ a, a < 11 → ∀ b, b < 11 → a ≠ b → (F_TuneSetter a).2.1 ≠ (F_TuneSetter b).2.1 := by decide +kernel
theorem t_TuneSetter_ok : ∀ k, k < 11 → parseFieldDescriptor (F_TuneSetter k).2.2.1 = some (t_TuneSetter k) := by decide +kernel
def R_Reader : String := "TuneSetter$Reader"
def F_Reader : u_T := fun k => match k with
  | 0 => ("TuneSetter$Reader", "tune", "LTuneSetter$Tune;", true)
  | 1 => ("TuneSetter$Reader", "fault", "I", false)
  | 2 => ("TuneSetter$Reader", "faultPlace", "I", false)
  | 3 => ("TuneSetter$Reader", "pitches", "LTuneSetter$PitchFinder;", true)
  | 4 => ("TuneSetter$Reader", "itemLength", "LTuneSetter$ItemLength;", true)
  | 5 => ("TuneSetter$Reader", "fullBar", "I", false)
  | 6 => ("TuneSetter$Reader", "unitTicks", "I", false)
  | 7 => ("TuneSetter$Reader", "state", "I", false)
  | 8 => ("TuneSetter$Reader", "spot", "I", false)
  | 9 => ("TuneSetter$Reader", "linePlace", "I", false)
  | 10 => ("TuneSetter$Reader", "tripletLeft", "I", false)
  | 11 => ("TuneSetter$Reader", "chordNotes", "I", false)
  | 12 => ("TuneSetter$Reader", "latestSign", "I", false)
  | 13 => ("TuneSetter$Reader", "inBar", "Z", false)
  | 14 => ("TuneSetter$Reader", "inItem", "Z", false)
  | _ => ("TuneSetter$Reader", "inChord", "Z", false)
def t_Reader : Nat → FieldType := fun k => match k with
  | 0 => .object "TuneSetter$Tune"
  | 1 => .int
  | 2 => .int
  | 3 => .object "TuneSetter$PitchFinder"
  | 4 => .object "TuneSetter$ItemLength"
  | 5 => .int
  | 6 => .int
  | 7 => .int
  | 8 => .int
  | 9 => .int
  | 10 => .int
  | 11 => .int
  | 12 => .int
  | 13 => .boolean
  | 14 => .boolean
  | _ => .boolean
abbrev W_Reader : List Cond := u_ws R_Reader F_Reader 16
theorem n_Reader : ∀ a, a < 16 → ∀ b, b < 16 → a ≠ b → (F_Reader a).2.1 ≠ (F_Reader b).2.1 := by decide +kernel
theorem t_Reader_ok : ∀ k, k < 16 → parseFieldDescriptor (F_Reader k).2.2.1 = some (t_Reader k) := by decide +kernel
def R_Tune : String := "TuneSetter$Tune"
def F_Tune : u_T := fun k => match k with
  | 0 => ("TuneSetter$Tune", "line", "[I", true)
  | 1 => ("TuneSetter$Tune", "ending", "[I", true)
  | 2 => ("TuneSetter$Tune", "barTicks", "[I", true)
  | 3 => ("TuneSetter$Tune", "barWidth", "[I", true)
  | 4 => ("TuneSetter$Tune", "firstItem", "[I", true)
  | 5 => ("TuneSetter$Tune", "firstNote", "[I", true)
  | 6 => ("TuneSetter$Tune", "itemTicks", "[I", true)
  | 7 => ("TuneSetter$Tune", "tied", "[Z", true)
  | 8 => ("TuneSetter$Tune", "pitch", "[I", true)
  | 9 => ("TuneSetter$Tune", "barCount", "I", false)
  | 10 => ("TuneSetter$Tune", "itemCount", "I", false)
  | _ => ("TuneSetter$Tune", "noteCount", "I", false)
def t_Tune : Nat → FieldType := fun k => match k with
  | 0 => .array .int
  | 1 => .array .int
  | 2 => .array .int
  | 3 => .array .int
  | 4 => .array .int
  | 5 => .array .int
  | 6 => .array .int
  | 7 => .array .boolean
  | 8 => .array .int
  | 9 => .int
  | 10 => .int
  | _ => .int
abbrev W_Tune : List Cond := u_ws R_Tune F_Tune 12
theorem n_Tune : ∀ a, a < 12 → ∀ b, b < 12 → a ≠ b → (F_Tune a).2.1 ≠ (F_Tune b).2.1 := by decide +kernel
theorem t_Tune_ok : ∀ k, k < 12 → parseFieldDescriptor (F_Tune k).2.2.1 = some (t_Tune k) := by decide +kernel
def R_PitchFinder : String := "TuneSetter$PitchFinder"
def F_PitchFinder : u_T := fun k => match k with
  | 0 => ("TuneSetter$PitchFinder", "heldSign", "[I", true)
  | 1 => ("TuneSetter$PitchFinder", "sharps", "I", false)
  | 2 => ("TuneSetter$PitchFinder", "sign", "I", false)
  | 3 => ("TuneSetter$PitchFinder", "letter", "I", false)
  | _ => ("TuneSetter$PitchFinder", "natural", "I", false)
def t_PitchFinder : Nat → FieldType := fun k => match k with
  | 0 => .array .int
  | 1 => .int
  | 2 => .int
  | 3 => .int
  | _ => .int
abbrev W_PitchFinder : List Cond := u_ws R_PitchFinder F_PitchFinder 5
theorem n_PitchFinder : ∀ a, a < 5 → ∀ b, b < 5 → a ≠ b → (F_PitchFinder a).2.1 ≠ (F_PitchFinder b).2.1 := by decide +kernel
theorem t_PitchFinder_ok : ∀ k, k < 5 → parseFieldDescriptor (F_PitchFinder k).2.2.1 = some (t_PitchFinder k) := by decide +kernel
def R_ItemLength : String := "TuneSetter$ItemLength"
def F_ItemLength : u_T := fun k => match k with
  | 0 => ("TuneSetter$ItemLength", "top", "I", false)
  | 1 => ("TuneSetter$ItemLength", "bottom", "I", false)
  | _ => ("TuneSetter$ItemLength", "digits", "I", false)
def t_ItemLength : Nat → FieldType := fun k => match k with
  | 0 => .int
  | 1 => .int
  | _ => .int
abbrev W_ItemLength : List Cond := u_ws R_ItemLength F_ItemLength 3
theorem n_ItemLength : ∀ a, a < 3 → ∀ b, b < 3 → a ≠ b → (F_ItemLength a).2.1 ≠ (F_ItemLength b).2.1 := by decide +kernel
theorem t_ItemLength_ok : ∀ k, k < 3 → parseFieldDescriptor (F_ItemLength k).2.2.1 = some (t_ItemLength k) := by decide +kernel
def R_Playing : String := "TuneSetter$Playing"
def F_Playing : u_T := fun k => match k with
  | 0 => ("TuneSetter$Playing", "onset", "[I", true)
  | 1 => ("TuneSetter$Playing", "duration", "[I", true)
  | 2 => ("TuneSetter$Playing", "pitch", "[I", true)
  | 3 => ("TuneSetter$Playing", "count", "I", false)
  | 4 => ("TuneSetter$Playing", "tooMany", "Z", false)
  | 5 => ("TuneSetter$Playing", "now", "I", false)
  | 6 => ("TuneSetter$Playing", "waiting", "[I", true)
  | 7 => ("TuneSetter$Playing", "waitingCount", "I", false)
  | 8 => ("TuneSetter$Playing", "sounding", "[I", true)
  | _ => ("TuneSetter$Playing", "soundingCount", "I", false)
def t_Playing : Nat → FieldType := fun k => match k with
  | 0 => .array .int
  | 1 => .array .int
  | 2 => .array .int
  | 3 => .int
  | 4 => .boolean
  | 5 => .int
  | 6 => .array .int
  | 7 => .int
  | 8 => .array .int
  | _ => .int
abbrev W_Playing : List Cond := u_ws R_Playing F_Playing 10
theorem n_Playing : ∀ a, a < 10 → ∀ b, b < 10 → a ≠ b → (F_Playing a).2.1 ≠ (F_Playing b).2.1 := by decide +kernel
theorem t_Playing_ok : ∀ k, k < 10 → parseFieldDescriptor (F_Playing k).2.2.1 = some (t_Playing k) := by decide +kernel
def R_NoteFile : String := "TuneSetter$NoteFile"
def F_NoteFile : u_T := fun k => match k with
  | 0 => ("TuneSetter$NoteFile", "bytes", "[I", true)
  | 1 => ("TuneSetter$NoteFile", "size", "I", false)
  | 2 => ("TuneSetter$NoteFile", "events", "[I", true)
  | _ => ("TuneSetter$NoteFile", "eventCount", "I", false)
def t_NoteFile : Nat → FieldType := fun k => match k with
  | 0 => .array .int
  | 1 => .int
  | 2 => .array .int
  | _ => .int
abbrev W_NoteFile : List Cond := u_ws R_NoteFile F_NoteFile 4
theorem n_NoteFile : ∀ a, a < 4 → ∀ b, b < 4 → a ≠ b → (F_NoteFile a).2.1 ≠ (F_NoteFile b).2.1 := by decide +kernel
theorem t_NoteFile_ok : ∀ k, k < 4 → parseFieldDescriptor (F_NoteFile k).2.2.1 = some (t_NoteFile k) := by decide +kernel
def R_LineBreaker : String := "TuneSetter$LineBreaker"
def F_LineBreaker : u_T := fun k => match k with
  | 0 => ("TuneSetter$LineBreaker", "leastBadness", "[I", true)
  | _ => ("TuneSetter$LineBreaker", "fewestLines", "[I", true)
def t_LineBreaker : Nat → FieldType := fun k => match k with
  | 0 => .array .int
  | _ => .array .int
abbrev W_LineBreaker : List Cond := u_ws R_LineBreaker F_LineBreaker 2
theorem n_LineBreaker : ∀ a, a < 2 → ∀ b, b < 2 → a ≠ b → (F_LineBreaker a).2.1 ≠ (F_LineBreaker b).2.1 := by decide +kernel
theorem t_LineBreaker_ok : ∀ k, k < 2 → parseFieldDescriptor (F_LineBreaker k).2.2.1 = some (t_LineBreaker k) := by decide +kernel
def R_TuneSetterModel : String := "TuneSetterModel"
def F_TuneSetterModel : u_T := fun k => match k with
  | 0 => ("TuneSetterModel", "n", "I", false)
  | 1 => ("TuneSetterModel", "d", "I", false)
  | 2 => ("TuneSetterModel", "u", "I", false)
  | 3 => ("TuneSetterModel", "sharps", "I", false)
  | 4 => ("TuneSetterModel", "text", "[I", true)
  | 5 => ("TuneSetterModel", "size", "I", false)
  | 6 => ("TuneSetterModel", "bars", "I", false)
  | 7 => ("TuneSetterModel", "tune", "Z", false)
  | 8 => ("TuneSetterModel", "place", "I", false)
  | 9 => ("TuneSetterModel", "firstItem", "[I", true)
  | 10 => ("TuneSetterModel", "ending", "[I", true)
  | 11 => ("TuneSetterModel", "barTicks", "[I", true)
  | 12 => ("TuneSetterModel", "line", "[I", true)
  | 13 => ("TuneSetterModel", "items", "I", false)
  | 14 => ("TuneSetterModel", "ticks", "[I", true)
  | 15 => ("TuneSetterModel", "tie", "[Z", true)
  | 16 => ("TuneSetterModel", "signs", "[I", true)
  | 17 => ("TuneSetterModel", "many", "[I", true)
  | 18 => ("TuneSetterModel", "pitch", "[I", true)
  | 19 => ("TuneSetterModel", "state", "I", false)
  | 20 => ("TuneSetterModel", "lineStart", "I", false)
  | 21 => ("TuneSetterModel", "chord", "Z", false)
  | 22 => ("TuneSetterModel", "rest", "Z", false)
  | 23 => ("TuneSetterModel", "triplet", "I", false)
  | 24 => ("TuneSetterModel", "sign", "I", false)
  | 25 => ("TuneSetterModel", "signed", "Z", false)
  | 26 => ("TuneSetterModel", "letter", "I", false)
  | 27 => ("TuneSetterModel", "octave", "I", false)
  | 28 => ("TuneSetterModel", "marks", "I", false)
  | 29 => ("TuneSetterModel", "top", "I", false)
  | 30 => ("TuneSetterModel", "topDigits", "I", false)
  | 31 => ("TuneSetterModel", "slash", "Z", false)
  | 32 => ("TuneSetterModel", "below", "I", false)
  | 33 => ("TuneSetterModel", "belowDigits", "I", false)
  | 34 => ("TuneSetterModel", "heard", "[I", true)
  | 35 => ("TuneSetterModel", "played", "I", false)
  | 36 => ("TuneSetterModel", "play", "[I", true)
  | 37 => ("TuneSetterModel", "notes", "I", false)
  | 38 => ("TuneSetterModel", "onset", "[I", true)
  | 39 => ("TuneSetterModel", "length", "[I", true)
  | 40 => ("TuneSetterModel", "tone", "[I", true)
  | 41 => ("TuneSetterModel", "head", "[I", true)
  | 42 => ("TuneSetterModel", "made", "I", false)
  | 43 => ("TuneSetterModel", "bytes", "[I", true)
  | 44 => ("TuneSetterModel", "cost", "[I", true)
  | _ => ("TuneSetterModel", "rows", "[I", true)
def t_TuneSetterModel : Nat → FieldType := fun k => match k with
  | 0 => .int
  | 1 => .int
  | 2 => .int
  | 3 => .int
  | 4 => .array .int
  | 5 => .int
  | 6 => .int
  | 7 => .boolean
  | 8 => .int
  | 9 => .array .int
  | 10 => .array .int
  | 11 => .array .int
  | 12 => .array .int
  | 13 => .int
  | 14 => .array .int
  | 15 => .array .boolean
  | 16 => .array .int
  | 17 => .array .int
  | 18 => .array .int
  | 19 => .int
  | 20 => .int
  | 21 => .boolean
  | 22 => .boolean
  | 23 => .int
  | 24 => .int
  | 25 => .boolean
  | 26 => .int
  | 27 => .int
  | 28 => .int
  | 29 => .int
  | 30 => .int
  | 31 => .boolean
  | 32 => .int
  | 33 => .int
  | 34 => .array .int
  | 35 => .int
  | 36 => .array .int
  | 37 => .int
  | 38 => .array .int
  | 39 => .array .int
  | 40 => .array .int
  | 41 => .array .int
  | 42 => .int
  | 43 => .array .int
  | 44 => .array .int
  | _ => .array .int
abbrev W_TuneSetterModel : List Cond := u_ws R_TuneSetterModel F_TuneSetterModel 46
theorem n_TuneSetterModel : ∀ a, a < 46 → ∀ b, b < 46 → a ≠ b → (F_TuneSetterModel a).2.1 ≠ (F_TuneSetterModel b).2.1 := by decide +kernel
theorem t_TuneSetterModel_ok : ∀ k, k < 46 → parseFieldDescriptor (F_TuneSetterModel k).2.2.1 = some (t_TuneSetterModel k) := by decide +kernel
abbrev cls : List vw_C := [(R_TuneSetter, F_TuneSetter, 11), (R_Reader, F_Reader, 16), (R_Tune, F_Tune, 12), (R_PitchFinder, F_PitchFinder, 5), (R_ItemLength, F_ItemLength, 3), (R_Playing, F_Playing, 10), (R_NoteFile, F_NoteFile, 4), (R_LineBreaker, F_LineBreaker, 2), (R_TuneSetterModel, F_TuneSetterModel, 46)]
def R_Law : String := "TuneSetterLaw"
def R_Arrays : String := "java/util/Arrays"
abbrev b_TuneSetter_metre : ByteArray := prog_1_method_2_code
def y_TuneSetter_metre : MethodName := ⟨R_TuneSetter, "metre", "(II)Z"⟩
abbrev b_TuneSetter_unit : ByteArray := prog_1_method_3_code
def y_TuneSetter_unit : MethodName := ⟨R_TuneSetter, "unit", "(I)Z"⟩
abbrev b_TuneSetter_key : ByteArray := prog_1_method_4_code
def y_TuneSetter_key : MethodName := ⟨R_TuneSetter, "key", "(I)Z"⟩
abbrev b_TuneSetter_type : ByteArray := prog_1_method_5_code
def y_TuneSetter_type : MethodName := ⟨R_TuneSetter, "type", "(C)Z"⟩
abbrev b_TuneSetter_clear : ByteArray := prog_1_method_6_code
def y_TuneSetter_clear : MethodName := ⟨R_TuneSetter, "clear", "()I"⟩
abbrev b_PitchFinder_startTune : ByteArray := prog_5_method_2_code
def y_PitchFinder_startTune : MethodName := ⟨R_PitchFinder, "startTune", "(I)V"⟩
abbrev b_ItemLength_restart : ByteArray := prog_2_method_2_code
def y_ItemLength_restart : MethodName := ⟨R_ItemLength, "restart", "()V"⟩
abbrev b_Tune_empty : ByteArray := prog_8_method_2_code
def y_Tune_empty : MethodName := ⟨R_Tune, "empty", "()V"⟩
abbrev b_Reader_prepare : ByteArray := prog_7_method_2_code
def y_Reader_prepare : MethodName := ⟨R_Reader, "prepare", "(III)V"⟩
abbrev b_Reader_letterAt : ByteArray := prog_7_method_4_code
def y_Reader_letterAt : MethodName := ⟨R_Reader, "letterAt", "([CII)I"⟩
abbrev b_Reader_isDigit : ByteArray := prog_7_method_16_code
def y_Reader_isDigit : MethodName := ⟨R_Reader, "isDigit", "(I)Z"⟩
abbrev b_Reader_octavesEnd : ByteArray := prog_7_method_7_code
def y_Reader_octavesEnd : MethodName := ⟨R_Reader, "octavesEnd", "(I)Z"⟩
abbrev b_Reader_lengthEnds : ByteArray := prog_7_method_8_code
def y_Reader_lengthEnds : MethodName := ⟨R_Reader, "lengthEnds", "(I)Z"⟩
abbrev b_ItemLength_inTicks : ByteArray := prog_2_method_7_code
def y_ItemLength_inTicks : MethodName := ⟨R_ItemLength, "inTicks", "(IZ)I"⟩
abbrev b_Tune_widen : ByteArray := prog_8_method_10_code
def y_Tune_widen : MethodName := ⟨R_Tune, "widen", "(I)V"⟩
abbrev b_Tune_setTicks : ByteArray := prog_8_method_8_code
def y_Tune_setTicks : MethodName := ⟨R_Tune, "setTicks", "(I)V"⟩
abbrev b_Reader_fail : ByteArray := prog_7_method_6_code
def y_Reader_fail : MethodName := ⟨R_Reader, "fail", "(II)V"⟩
abbrev b_Reader_endItem : ByteArray := prog_7_method_9_code
def y_Reader_endItem : MethodName := ⟨R_Reader, "endItem", "()V"⟩
abbrev b_PitchFinder_keySign : ByteArray := prog_5_method_9_code
def y_PitchFinder_keySign : MethodName := ⟨R_PitchFinder, "keySign", "()I"⟩
abbrev b_PitchFinder_endPitch : ByteArray := prog_5_method_8_code
def y_PitchFinder_endPitch : MethodName := ⟨R_PitchFinder, "endPitch", "()I"⟩
abbrev b_Tune_addNote : ByteArray := prog_8_method_7_code
def y_Tune_addNote : MethodName := ⟨R_Tune, "addNote", "(I)V"⟩
abbrev b_Reader_endNote : ByteArray := prog_7_method_10_code
def y_Reader_endNote : MethodName := ⟨R_Reader, "endNote", "()V"⟩
abbrev b_Reader_may : ByteArray := prog_7_method_14_code
def y_Reader_may : MethodName := ⟨R_Reader, "may", "(I)Z"⟩
abbrev b_Reader_behindSpace : ByteArray := prog_7_method_15_code
def y_Reader_behindSpace : MethodName := ⟨R_Reader, "behindSpace", "()I"⟩
abbrev b_Tune_isRest : ByteArray := prog_8_method_11_code
def y_Tune_isRest : MethodName := ⟨R_Tune, "isRest", "()Z"⟩
abbrev b_ItemLength_takesDigit : ByteArray := prog_2_method_3_code
def y_ItemLength_takesDigit : MethodName := ⟨R_ItemLength, "takesDigit", "()Z"⟩
abbrev b_Reader_followDigit : ByteArray := prog_7_method_13_code
def y_Reader_followDigit : MethodName := ⟨R_Reader, "followDigit", "(I)I"⟩
abbrev b_Reader_isNoteLetter : ByteArray := prog_7_method_17_code
def y_Reader_isNoteLetter : MethodName := ⟨R_Reader, "isNoteLetter", "(I)Z"⟩
abbrev b_Reader_followOther : ByteArray := prog_7_method_12_code
def y_Reader_followOther : MethodName := ⟨R_Reader, "followOther", "(I)I"⟩
abbrev b_Reader_follow : ByteArray := prog_7_method_11_code
def y_Reader_follow : MethodName := ⟨R_Reader, "follow", "(II)I"⟩
abbrev b_Reader_isNoteState : ByteArray := prog_7_method_18_code
def y_Reader_isNoteState : MethodName := ⟨R_Reader, "isNoteState", "(I)Z"⟩
abbrev b_Reader_opensItem : ByteArray := prog_7_method_19_code
def y_Reader_opensItem : MethodName := ⟨R_Reader, "opensItem", "(I)Z"⟩
abbrev b_Reader_opensBar : ByteArray := prog_7_method_20_code
def y_Reader_opensBar : MethodName := ⟨R_Reader, "opensBar", "(I)Z"⟩
abbrev b_Reader_opensChordNote : ByteArray := prog_7_method_21_code
def y_Reader_opensChordNote : MethodName := ⟨R_Reader, "opensChordNote", "(I)Z"⟩
abbrev b_Reader_checkMany : ByteArray := prog_7_method_24_code
def y_Reader_checkMany : MethodName := ⟨R_Reader, "checkMany", "(I)V"⟩
abbrev b_Tune_latestBarTicks : ByteArray := prog_8_method_12_code
def y_Tune_latestBarTicks : MethodName := ⟨R_Tune, "latestBarTicks", "()I"⟩
abbrev b_Reader_opensLine : ByteArray := prog_7_method_22_code
def y_Reader_opensLine : MethodName := ⟨R_Reader, "opensLine", "(I)Z"⟩
abbrev b_Reader_checkBars : ByteArray := prog_7_method_23_code
def y_Reader_checkBars : MethodName := ⟨R_Reader, "checkBars", "(I)V"⟩
abbrev b_Tune_openBar : ByteArray := prog_8_method_4_code
def y_Tune_openBar : MethodName := ⟨R_Tune, "openBar", "()V"⟩
abbrev b_Arrays_fill : ByteArray := prog_11_method_103_code
def y_Arrays_fill : MethodName := ⟨R_Arrays, "fill", "([II)V"⟩
abbrev b_PitchFinder_startBar : ByteArray := prog_5_method_3_code
def y_PitchFinder_startBar : MethodName := ⟨R_PitchFinder, "startBar", "()V"⟩
abbrev b_Tune_openItem : ByteArray := prog_8_method_6_code
def y_Tune_openItem : MethodName := ⟨R_Tune, "openItem", "()V"⟩
abbrev b_Reader_open : ByteArray := prog_7_method_25_code
def y_Reader_open : MethodName := ⟨R_Reader, "open", "(I)V"⟩
abbrev b_Tune_setLine : ByteArray := prog_8_method_3_code
def y_Tune_setLine : MethodName := ⟨R_Tune, "setLine", "(I)V"⟩
abbrev b_Reader_growLine : ByteArray := prog_7_method_27_code
def y_Reader_growLine : MethodName := ⟨R_Reader, "growLine", "(I)V"⟩
abbrev b_Tune_setEnding : ByteArray := prog_8_method_5_code
def y_Tune_setEnding : MethodName := ⟨R_Tune, "setEnding", "(I)V"⟩
abbrev b_Tune_setTie : ByteArray := prog_8_method_9_code
def y_Tune_setTie : MethodName := ⟨R_Tune, "setTie", "()V"⟩
abbrev b_PitchFinder_setSign : ByteArray := prog_5_method_4_code
def y_PitchFinder_setSign : MethodName := ⟨R_PitchFinder, "setSign", "(I)V"⟩
abbrev b_Reader_takeSign : ByteArray := prog_7_method_29_code
def y_Reader_takeSign : MethodName := ⟨R_Reader, "takeSign", "(I)V"⟩
abbrev b_PitchFinder_doubleSign : ByteArray := prog_5_method_5_code
def y_PitchFinder_doubleSign : MethodName := ⟨R_PitchFinder, "doubleSign", "()V"⟩
abbrev b_PitchFinder_setLetter : ByteArray := prog_5_method_6_code
def y_PitchFinder_setLetter : MethodName := ⟨R_PitchFinder, "setLetter", "(I)V"⟩
abbrev b_PitchFinder_shift : ByteArray := prog_5_method_7_code
def y_PitchFinder_shift : MethodName := ⟨R_PitchFinder, "shift", "(I)V"⟩
abbrev b_ItemLength_addTopDigit : ByteArray := prog_2_method_4_code
def y_ItemLength_addTopDigit : MethodName := ⟨R_ItemLength, "addTopDigit", "(I)V"⟩
abbrev b_ItemLength_addSlash : ByteArray := prog_2_method_5_code
def y_ItemLength_addSlash : MethodName := ⟨R_ItemLength, "addSlash", "()V"⟩
abbrev b_ItemLength_addBottomDigit : ByteArray := prog_2_method_6_code
def y_ItemLength_addBottomDigit : MethodName := ⟨R_ItemLength, "addBottomDigit", "(I)V"⟩
abbrev b_Reader_takeInside : ByteArray := prog_7_method_28_code
def y_Reader_takeInside : MethodName := ⟨R_Reader, "takeInside", "(II)V"⟩
abbrev b_Reader_take : ByteArray := prog_7_method_26_code
def y_Reader_take : MethodName := ⟨R_Reader, "take", "(II)V"⟩
abbrev b_Reader_step : ByteArray := prog_7_method_5_code
def y_Reader_step : MethodName := ⟨R_Reader, "step", "(II)V"⟩
abbrev b_Reader_scan : ByteArray := prog_7_method_3_code
def y_Reader_scan : MethodName := ⟨R_Reader, "scan", "([CI)V"⟩
abbrev b_Playing_takeWaiting : ByteArray := prog_6_method_6_code
def y_Playing_takeWaiting : MethodName := ⟨R_Playing, "takeWaiting", "(I)I"⟩
abbrev b_Playing_begin : ByteArray := prog_6_method_7_code
def y_Playing_begin : MethodName := ⟨R_Playing, "begin", "(I)I"⟩
abbrev b_Playing_sound : ByteArray := prog_6_method_5_code
def y_Playing_sound : MethodName := ⟨R_Playing, "sound", "(II)V"⟩
abbrev b_Playing_playItem : ByteArray := prog_6_method_4_code
def y_Playing_playItem : MethodName := ⟨R_Playing, "playItem", "(LTuneSetter$Tune;I)V"⟩
abbrev b_Playing_playBar : ByteArray := prog_6_method_3_code
def y_Playing_playBar : MethodName := ⟨R_Playing, "playBar", "(LTuneSetter$Tune;I)V"⟩
abbrev b_Playing_perform : ByteArray := prog_6_method_2_code
def y_Playing_perform : MethodName := ⟨R_Playing, "perform", "(LTuneSetter$Tune;)V"⟩
abbrev b_TuneSetter_refuse : ByteArray := prog_1_method_8_code
def y_TuneSetter_refuse : MethodName := ⟨R_TuneSetter, "refuse", "(II)I"⟩
abbrev b_TuneSetter_read : ByteArray := prog_1_method_7_code
def y_TuneSetter_read : MethodName := ⟨R_TuneSetter, "read", "()I"⟩
abbrev b_TuneSetter_place : ByteArray := prog_1_method_9_code
def y_TuneSetter_place : MethodName := ⟨R_TuneSetter, "place", "()I"⟩
abbrev b_TuneSetter_bars : ByteArray := prog_1_method_10_code
def y_TuneSetter_bars : MethodName := ⟨R_TuneSetter, "bars", "()I"⟩
abbrev b_TuneSetter_notes : ByteArray := prog_1_method_11_code
def y_TuneSetter_notes : MethodName := ⟨R_TuneSetter, "notes", "()I"⟩
abbrev b_TuneSetter_note : ByteArray := prog_1_method_12_code
def y_TuneSetter_note : MethodName := ⟨R_TuneSetter, "note", "(II)I"⟩
abbrev b_TuneSetter_width : ByteArray := prog_1_method_13_code
def y_TuneSetter_width : MethodName := ⟨R_TuneSetter, "width", "(I)I"⟩
abbrev b_NoteFile_put : ByteArray := prog_4_method_9_code
def y_NoteFile_put : MethodName := ⟨R_NoteFile, "put", "(I)V"⟩
abbrev b_NoteFile_putAll : ByteArray := prog_4_method_8_code
def y_NoteFile_putAll : MethodName := ⟨R_NoteFile, "putAll", "([I)V"⟩
abbrev b_NoteFile_sortIn : ByteArray := prog_4_method_4_code
def y_NoteFile_sortIn : MethodName := ⟨R_NoteFile, "sortIn", "(I)V"⟩
abbrev b_NoteFile_gatherEvents : ByteArray := prog_4_method_3_code
def y_NoteFile_gatherEvents : MethodName := ⟨R_NoteFile, "gatherEvents", "(LTuneSetter$Playing;)V"⟩
abbrev b_NoteFile_putTicks : ByteArray := prog_4_method_6_code
def y_NoteFile_putTicks : MethodName := ⟨R_NoteFile, "putTicks", "(I)V"⟩
abbrev b_NoteFile_putEvents : ByteArray := prog_4_method_5_code
def y_NoteFile_putEvents : MethodName := ⟨R_NoteFile, "putEvents", "()V"⟩
abbrev b_NoteFile_putCount : ByteArray := prog_4_method_7_code
def y_NoteFile_putCount : MethodName := ⟨R_NoteFile, "putCount", "(I)V"⟩
abbrev b_NoteFile_make : ByteArray := prog_4_method_2_code
def y_NoteFile_make : MethodName := ⟨R_NoteFile, "make", "(LTuneSetter$Playing;)V"⟩
abbrev b_TuneSetter_write : ByteArray := prog_1_method_14_code
def y_TuneSetter_write : MethodName := ⟨R_TuneSetter, "write", "()I"⟩
abbrev b_TuneSetter_byteAt : ByteArray := prog_1_method_15_code
def y_TuneSetter_byteAt : MethodName := ⟨R_TuneSetter, "byteAt", "(I)I"⟩
abbrev b_LineBreaker_solveFrom : ByteArray := prog_3_method_3_code
def y_LineBreaker_solveFrom : MethodName := ⟨R_LineBreaker, "solveFrom", "(LTuneSetter$Tune;II)V"⟩
abbrev b_LineBreaker_solve : ByteArray := prog_3_method_2_code
def y_LineBreaker_solve : MethodName := ⟨R_LineBreaker, "solve", "(LTuneSetter$Tune;I)Z"⟩
abbrev b_TuneSetter_canBreak : ByteArray := prog_1_method_18_code
def y_TuneSetter_canBreak : MethodName := ⟨R_TuneSetter, "canBreak", "(I)Z"⟩
abbrev b_TuneSetter_breaking : ByteArray := prog_1_method_16_code
def y_TuneSetter_breaking : MethodName := ⟨R_TuneSetter, "breaking", "(I)I"⟩
abbrev b_TuneSetter_lines : ByteArray := prog_1_method_17_code
def y_TuneSetter_lines : MethodName := ⟨R_TuneSetter, "lines", "(I)I"⟩
abbrev b_TuneSetterModel_metre : ByteArray := prog_10_method_2_code
def y_TuneSetterModel_metre : MethodName := ⟨R_TuneSetterModel, "metre", "(II)Z"⟩
abbrev b_TuneSetterModel_unit : ByteArray := prog_10_method_3_code
def y_TuneSetterModel_unit : MethodName := ⟨R_TuneSetterModel, "unit", "(I)Z"⟩
abbrev b_TuneSetterModel_key : ByteArray := prog_10_method_4_code
def y_TuneSetterModel_key : MethodName := ⟨R_TuneSetterModel, "key", "(I)Z"⟩
abbrev b_TuneSetterModel_type : ByteArray := prog_10_method_5_code
def y_TuneSetterModel_type : MethodName := ⟨R_TuneSetterModel, "type", "(C)Z"⟩
abbrev b_TuneSetterModel_clear : ByteArray := prog_10_method_6_code
def y_TuneSetterModel_clear : MethodName := ⟨R_TuneSetterModel, "clear", "()I"⟩
abbrev b_TuneSetterModel_goOn : ByteArray := prog_10_method_44_code
def y_TuneSetterModel_goOn : MethodName := ⟨R_TuneSetterModel, "goOn", "(II)V"⟩
abbrev b_TuneSetterModel_sound : ByteArray := prog_10_method_43_code
def y_TuneSetterModel_sound : MethodName := ⟨R_TuneSetterModel, "sound", "()I"⟩
abbrev b_TuneSetterModel_holds : ByteArray := prog_10_method_40_code
def y_TuneSetterModel_holds : MethodName := ⟨R_TuneSetterModel, "holds", "(I)I"⟩
abbrev b_TuneSetterModel_playBar : ByteArray := prog_10_method_41_code
def y_TuneSetterModel_playBar : MethodName := ⟨R_TuneSetterModel, "playBar", "(I)V"⟩
abbrev b_TuneSetterModel_perform : ByteArray := prog_10_method_42_code
def y_TuneSetterModel_perform : MethodName := ⟨R_TuneSetterModel, "perform", "()I"⟩
abbrev b_TuneSetterModel_goesOnLetter : ByteArray := prog_10_method_12_code
def y_TuneSetterModel_goesOnLetter : MethodName := ⟨R_TuneSetterModel, "goesOnLetter", "(I)Z"⟩
abbrev b_TuneSetterModel_openNumber : ByteArray := prog_10_method_30_code
def y_TuneSetterModel_openNumber : MethodName := ⟨R_TuneSetterModel, "openNumber", "()V"⟩
abbrev b_TuneSetterModel_isDigit : ByteArray := prog_10_method_8_code
def y_TuneSetterModel_isDigit : MethodName := ⟨R_TuneSetterModel, "isDigit", "(I)Z"⟩
abbrev b_TuneSetterModel_goesOnNumber : ByteArray := prog_10_method_13_code
def y_TuneSetterModel_goesOnNumber : MethodName := ⟨R_TuneSetterModel, "goesOnNumber", "(I)Z"⟩
abbrev b_TuneSetterModel_parts : ByteArray := prog_10_method_32_code
def y_TuneSetterModel_parts : MethodName := ⟨R_TuneSetterModel, "parts", "()I"⟩
abbrev b_TuneSetterModel_divisor : ByteArray := prog_10_method_33_code
def y_TuneSetterModel_divisor : MethodName := ⟨R_TuneSetterModel, "divisor", "()I"⟩
abbrev b_TuneSetterModel_hasLength : ByteArray := prog_10_method_34_code
def y_TuneSetterModel_hasLength : MethodName := ⟨R_TuneSetterModel, "hasLength", "()Z"⟩
abbrev b_TuneSetterModel_placeOf : ByteArray := prog_10_method_36_code
def y_TuneSetterModel_placeOf : MethodName := ⟨R_TuneSetterModel, "placeOf", "(I)I"⟩
abbrev b_TuneSetterModel_plainOf : ByteArray := prog_10_method_37_code
def y_TuneSetterModel_plainOf : MethodName := ⟨R_TuneSetterModel, "plainOf", "(I)I"⟩
abbrev b_TuneSetterModel_toneOf : ByteArray := prog_10_method_38_code
def y_TuneSetterModel_toneOf : MethodName := ⟨R_TuneSetterModel, "toneOf", "()I"⟩
abbrev b_TuneSetterModel_noteDone : ByteArray := prog_10_method_39_code
def y_TuneSetterModel_noteDone : MethodName := ⟨R_TuneSetterModel, "noteDone", "(I)V"⟩
abbrev b_TuneSetterModel_beginLine : ByteArray := prog_10_method_16_code
def y_TuneSetterModel_beginLine : MethodName := ⟨R_TuneSetterModel, "beginLine", "(II)I"⟩
abbrev b_TuneSetterModel_letterOf : ByteArray := prog_10_method_9_code
def y_TuneSetterModel_letterOf : MethodName := ⟨R_TuneSetterModel, "letterOf", "(I)I"⟩
abbrev b_TuneSetterModel_beginsNote : ByteArray := prog_10_method_10_code
def y_TuneSetterModel_beginsNote : MethodName := ⟨R_TuneSetterModel, "beginsNote", "(I)Z"⟩
abbrev b_TuneSetterModel_beginsItem : ByteArray := prog_10_method_11_code
def y_TuneSetterModel_beginsItem : MethodName := ⟨R_TuneSetterModel, "beginsItem", "(I)Z"⟩
abbrev b_TuneSetterModel_full : ByteArray := prog_10_method_19_code
def y_TuneSetterModel_full : MethodName := ⟨R_TuneSetterModel, "full", "()I"⟩
abbrev b_TuneSetterModel_openItem : ByteArray := prog_10_method_23_code
def y_TuneSetterModel_openItem : MethodName := ⟨R_TuneSetterModel, "openItem", "()V"⟩
abbrev b_TuneSetterModel_openLetter : ByteArray := prog_10_method_29_code
def y_TuneSetterModel_openLetter : MethodName := ⟨R_TuneSetterModel, "openLetter", "(I)V"⟩
abbrev b_TuneSetterModel_beginNote : ByteArray := prog_10_method_27_code
def y_TuneSetterModel_beginNote : MethodName := ⟨R_TuneSetterModel, "beginNote", "(I)I"⟩
abbrev b_TuneSetterModel_core : ByteArray := prog_10_method_24_code
def y_TuneSetterModel_core : MethodName := ⟨R_TuneSetterModel, "core", "(I)I"⟩
abbrev b_TuneSetterModel_beginItem : ByteArray := prog_10_method_22_code
def y_TuneSetterModel_beginItem : MethodName := ⟨R_TuneSetterModel, "beginItem", "(I)I"⟩
abbrev b_TuneSetterModel_beginBar : ByteArray := prog_10_method_20_code
def y_TuneSetterModel_beginBar : MethodName := ⟨R_TuneSetterModel, "beginBar", "(II)I"⟩
abbrev b_TuneSetterModel_behind : ByteArray := prog_10_method_18_code
def y_TuneSetterModel_behind : MethodName := ⟨R_TuneSetterModel, "behind", "(II)I"⟩
abbrev b_TuneSetterModel_goOnLine : ByteArray := prog_10_method_17_code
def y_TuneSetterModel_goOnLine : MethodName := ⟨R_TuneSetterModel, "goOnLine", "(II)I"⟩
abbrev b_TuneSetterModel_inChord : ByteArray := prog_10_method_26_code
def y_TuneSetterModel_inChord : MethodName := ⟨R_TuneSetterModel, "inChord", "(I)I"⟩
abbrev b_TuneSetterModel_openChord : ByteArray := prog_10_method_25_code
def y_TuneSetterModel_openChord : MethodName := ⟨R_TuneSetterModel, "openChord", "(I)I"⟩
abbrev b_TuneSetterModel_goOnSign : ByteArray := prog_10_method_28_code
def y_TuneSetterModel_goOnSign : MethodName := ⟨R_TuneSetterModel, "goOnSign", "(I)I"⟩
abbrev b_TuneSetterModel_inside : ByteArray := prog_10_method_21_code
def y_TuneSetterModel_inside : MethodName := ⟨R_TuneSetterModel, "inside", "(II)I"⟩
abbrev b_TuneSetterModel_go : ByteArray := prog_10_method_15_code
def y_TuneSetterModel_go : MethodName := ⟨R_TuneSetterModel, "go", "(II)I"⟩
abbrev b_TuneSetterModel_count : ByteArray := prog_10_method_31_code
def y_TuneSetterModel_count : MethodName := ⟨R_TuneSetterModel, "count", "(I)V"⟩
abbrev b_TuneSetterModel_itemDone : ByteArray := prog_10_method_35_code
def y_TuneSetterModel_itemDone : MethodName := ⟨R_TuneSetterModel, "itemDone", "()V"⟩
abbrev b_TuneSetterModel_next : ByteArray := prog_10_method_14_code
def y_TuneSetterModel_next : MethodName := ⟨R_TuneSetterModel, "next", "(II)I"⟩
abbrev b_TuneSetterModel_read : ByteArray := prog_10_method_7_code
def y_TuneSetterModel_read : MethodName := ⟨R_TuneSetterModel, "read", "()I"⟩
abbrev b_TuneSetterModel_place : ByteArray := prog_10_method_45_code
def y_TuneSetterModel_place : MethodName := ⟨R_TuneSetterModel, "place", "()I"⟩
abbrev b_TuneSetterModel_bars : ByteArray := prog_10_method_46_code
def y_TuneSetterModel_bars : MethodName := ⟨R_TuneSetterModel, "bars", "()I"⟩
abbrev b_TuneSetterModel_notes : ByteArray := prog_10_method_47_code
def y_TuneSetterModel_notes : MethodName := ⟨R_TuneSetterModel, "notes", "()I"⟩
abbrev b_TuneSetterModel_note : ByteArray := prog_10_method_48_code
def y_TuneSetterModel_note : MethodName := ⟨R_TuneSetterModel, "note", "(II)I"⟩
abbrev b_TuneSetterModel_widthOf : ByteArray := prog_10_method_49_code
def y_TuneSetterModel_widthOf : MethodName := ⟨R_TuneSetterModel, "widthOf", "(I)I"⟩
abbrev b_TuneSetterModel_width : ByteArray := prog_10_method_50_code
def y_TuneSetterModel_width : MethodName := ⟨R_TuneSetterModel, "width", "(I)I"⟩
abbrev b_TuneSetterModel_emit : ByteArray := prog_10_method_51_code
def y_TuneSetterModel_emit : MethodName := ⟨R_TuneSetterModel, "emit", "(I)V"⟩
abbrev b_TuneSetterModel_heading : ByteArray := prog_10_method_55_code
def y_TuneSetterModel_heading : MethodName := ⟨R_TuneSetterModel, "heading", "(I)V"⟩
abbrev b_TuneSetterModel_order : ByteArray := prog_10_method_53_code
def y_TuneSetterModel_order : MethodName := ⟨R_TuneSetterModel, "order", "(I)J"⟩
abbrev b_TuneSetterModel_emitGap : ByteArray := prog_10_method_52_code
def y_TuneSetterModel_emitGap : MethodName := ⟨R_TuneSetterModel, "emitGap", "(I)V"⟩
abbrev b_TuneSetterModel_write : ByteArray := prog_10_method_54_code
def y_TuneSetterModel_write : MethodName := ⟨R_TuneSetterModel, "write", "()I"⟩
abbrev b_TuneSetterModel_byteAt : ByteArray := prog_10_method_56_code
def y_TuneSetterModel_byteAt : MethodName := ⟨R_TuneSetterModel, "byteAt", "(I)I"⟩
abbrev b_TuneSetterModel_broken : ByteArray := prog_10_method_57_code
def y_TuneSetterModel_broken : MethodName := ⟨R_TuneSetterModel, "broken", "(I)Z"⟩
abbrev b_TuneSetterModel_breaking : ByteArray := prog_10_method_58_code
def y_TuneSetterModel_breaking : MethodName := ⟨R_TuneSetterModel, "breaking", "(I)I"⟩
abbrev b_TuneSetterModel_lines : ByteArray := prog_10_method_59_code
def y_TuneSetterModel_lines : MethodName := ⟨R_TuneSetterModel, "lines", "(I)I"⟩
abbrev b_Tune_init : ByteArray := prog_8_method_1_code
def y_Tune_init : MethodName := ⟨R_Tune, "<init>", "()V"⟩
abbrev b_PitchFinder_init : ByteArray := prog_5_method_1_code
def y_PitchFinder_init : MethodName := ⟨R_PitchFinder, "<init>", "()V"⟩
abbrev b_ItemLength_init : ByteArray := prog_2_method_1_code
def y_ItemLength_init : MethodName := ⟨R_ItemLength, "<init>", "()V"⟩
abbrev b_Reader_init : ByteArray := prog_7_method_1_code
def y_Reader_init : MethodName := ⟨R_Reader, "<init>", "()V"⟩
abbrev b_Playing_init : ByteArray := prog_6_method_1_code
def y_Playing_init : MethodName := ⟨R_Playing, "<init>", "()V"⟩
abbrev b_NoteFile_init : ByteArray := prog_4_method_1_code
def y_NoteFile_init : MethodName := ⟨R_NoteFile, "<init>", "()V"⟩
abbrev b_LineBreaker_init : ByteArray := prog_3_method_1_code
def y_LineBreaker_init : MethodName := ⟨R_LineBreaker, "<init>", "()V"⟩
abbrev b_TuneSetter_init : ByteArray := prog_1_method_1_code
def y_TuneSetter_init : MethodName := ⟨R_TuneSetter, "<init>", "()V"⟩
abbrev b_TuneSetterModel_init : ByteArray := prog_10_method_1_code
def y_TuneSetterModel_init : MethodName := ⟨R_TuneSetterModel, "<init>", "()V"⟩
theorem ic_m1 : Int32.ofInt (-1) = (-1) := by decide
theorem ic_0 : Int32.ofInt 0 = 0 := by decide
theorem ic_1 : Int32.ofInt 1 = 1 := by decide
theorem ic_2 : Int32.ofInt 2 = 2 := by decide
theorem ic_3 : Int32.ofInt 3 = 3 := by decide
theorem ic_4 : Int32.ofInt 4 = 4 := by decide
theorem ic_5 : Int32.ofInt 5 = 5 := by decide
theorem bp_m12 : (Int8.ofInt (-12)).toInt32 = (-12) := by decide
theorem bp_m8 : (Int8.ofInt (-8)).toInt32 = (-8) := by decide
theorem bp_m7 : (Int8.ofInt (-7)).toInt32 = (-7) := by decide
theorem bp_m6 : (Int8.ofInt (-6)).toInt32 = (-6) := by decide
theorem bp_m5 : (Int8.ofInt (-5)).toInt32 = (-5) := by decide
theorem bp_m4 : (Int8.ofInt (-4)).toInt32 = (-4) := by decide
theorem bp_m3 : (Int8.ofInt (-3)).toInt32 = (-3) := by decide
theorem bp_m2 : (Int8.ofInt (-2)).toInt32 = (-2) := by decide
theorem bp_6 : (Int8.ofInt 6).toInt32 = 6 := by decide
theorem bp_7 : (Int8.ofInt 7).toInt32 = 7 := by decide
theorem bp_8 : (Int8.ofInt 8).toInt32 = 8 := by decide
theorem bp_9 : (Int8.ofInt 9).toInt32 = 9 := by decide
theorem bp_10 : (Int8.ofInt 10).toInt32 = 10 := by decide
theorem bp_11 : (Int8.ofInt 11).toInt32 = 11 := by decide
theorem bp_12 : (Int8.ofInt 12).toInt32 = 12 := by decide
theorem bp_13 : (Int8.ofInt 13).toInt32 = 13 := by decide
theorem bp_14 : (Int8.ofInt 14).toInt32 = 14 := by decide
theorem bp_15 : (Int8.ofInt 15).toInt32 = 15 := by decide
theorem bp_16 : (Int8.ofInt 16).toInt32 = 16 := by decide
theorem bp_17 : (Int8.ofInt 17).toInt32 = 17 := by decide
theorem bp_18 : (Int8.ofInt 18).toInt32 = 18 := by decide
theorem bp_19 : (Int8.ofInt 19).toInt32 = 19 := by decide
theorem bp_20 : (Int8.ofInt 20).toInt32 = 20 := by decide
theorem bp_22 : (Int8.ofInt 22).toInt32 = 22 := by decide
theorem bp_24 : (Int8.ofInt 24).toInt32 = 24 := by decide
theorem bp_32 : (Int8.ofInt 32).toInt32 = 32 := by decide
theorem bp_39 : (Int8.ofInt 39).toInt32 = 39 := by decide
theorem bp_40 : (Int8.ofInt 40).toInt32 = 40 := by decide
theorem bp_44 : (Int8.ofInt 44).toInt32 = 44 := by decide
theorem bp_45 : (Int8.ofInt 45).toInt32 = 45 := by decide
theorem bp_47 : (Int8.ofInt 47).toInt32 = 47 := by decide
theorem bp_48 : (Int8.ofInt 48).toInt32 = 48 := by decide
theorem bp_49 : (Int8.ofInt 49).toInt32 = 49 := by decide
theorem bp_50 : (Int8.ofInt 50).toInt32 = 50 := by decide
theorem bp_51 : (Int8.ofInt 51).toInt32 = 51 := by decide
theorem bp_57 : (Int8.ofInt 57).toInt32 = 57 := by decide
theorem bp_58 : (Int8.ofInt 58).toInt32 = 58 := by decide
theorem bp_60 : (Int8.ofInt 60).toInt32 = 60 := by decide
theorem bp_61 : (Int8.ofInt 61).toInt32 = 61 := by decide
theorem bp_62 : (Int8.ofInt 62).toInt32 = 62 := by decide
theorem bp_64 : (Int8.ofInt 64).toInt32 = 64 := by decide
theorem bp_65 : (Int8.ofInt 65).toInt32 = 65 := by decide
theorem bp_67 : (Int8.ofInt 67).toInt32 = 67 := by decide
theorem bp_69 : (Int8.ofInt 69).toInt32 = 69 := by decide
theorem bp_71 : (Int8.ofInt 71).toInt32 = 71 := by decide
theorem bp_77 : (Int8.ofInt 77).toInt32 = 77 := by decide
theorem bp_84 : (Int8.ofInt 84).toInt32 = 84 := by decide
theorem bp_91 : (Int8.ofInt 91).toInt32 = 91 := by decide
theorem bp_93 : (Int8.ofInt 93).toInt32 = 93 := by decide
theorem bp_94 : (Int8.ofInt 94).toInt32 = 94 := by decide
theorem bp_95 : (Int8.ofInt 95).toInt32 = 95 := by decide
theorem bp_96 : (Int8.ofInt 96).toInt32 = 96 := by decide
theorem bp_97 : (Int8.ofInt 97).toInt32 = 97 := by decide
theorem bp_99 : (Int8.ofInt 99).toInt32 = 99 := by decide
theorem bp_100 : (Int8.ofInt 100).toInt32 = 100 := by decide
theorem bp_103 : (Int8.ofInt 103).toInt32 = 103 := by decide
theorem bp_104 : (Int8.ofInt 104).toInt32 = 104 := by decide
theorem bp_107 : (Int8.ofInt 107).toInt32 = 107 := by decide
theorem bp_112 : (Int8.ofInt 112).toInt32 = 112 := by decide
theorem bp_114 : (Int8.ofInt 114).toInt32 = 114 := by decide
theorem bp_120 : (Int8.ofInt 120).toInt32 = 120 := by decide
theorem bp_121 : (Int8.ofInt 121).toInt32 = 121 := by decide
theorem bp_122 : (Int8.ofInt 122).toInt32 = 122 := by decide
theorem bp_124 : (Int8.ofInt 124).toInt32 = 124 := by decide
theorem bp_126 : (Int8.ofInt 126).toInt32 = 126 := by decide
theorem bp_127 : (Int8.ofInt 127).toInt32 = 127 := by decide
theorem sp_128 : (Int16.ofInt 128).toInt32 = 128 := by decide
theorem sp_132 : (Int16.ofInt 132).toInt32 = 132 := by decide
theorem sp_144 : (Int16.ofInt 144).toInt32 = 144 := by decide
theorem sp_192 : (Int16.ofInt 192).toInt32 = 192 := by decide
theorem sp_255 : (Int16.ofInt 255).toInt32 = 255 := by decide
theorem sp_256 : (Int16.ofInt 256).toInt32 = 256 := by decide
theorem sp_320 : (Int16.ofInt 320).toInt32 = 320 := by decide
theorem sp_384 : (Int16.ofInt 384).toInt32 = 384 := by decide
theorem sp_512 : (Int16.ofInt 512).toInt32 = 512 := by decide
theorem sp_794 : (Int16.ofInt 794).toInt32 = 794 := by decide
theorem sp_900 : (Int16.ofInt 900).toInt32 = 900 := by decide
theorem sp_1000 : (Int16.ofInt 1000).toInt32 = 1000 := by decide
theorem sp_1024 : (Int16.ofInt 1024).toInt32 = 1024 := by decide
theorem sp_1536 : (Int16.ofInt 1536).toInt32 = 1536 := by decide
theorem sp_2048 : (Int16.ofInt 2048).toInt32 = 2048 := by decide
theorem sp_2112 : (Int16.ofInt 2112).toInt32 = 2112 := by decide
theorem sp_4096 : (Int16.ofInt 4096).toInt32 = 4096 := by decide
theorem sp_8192 : (Int16.ofInt 8192).toInt32 = 8192 := by decide
theorem sp_16384 : (Int16.ofInt 16384).toInt32 = 16384 := by decide
theorem sp_28787 : (Int16.ofInt 28787).toInt32 = 28787 := by decide
def WALL : List Cond := lw_tbl.filter goodWord
theorem W_of {w : Cond} (h : w ∈ lw_tbl) (g : goodWord w = true) : w ∈ WALL := List.mem_filter.mpr ⟨h, g⟩
theorem W_tbl {args : Array Value} {s : State} (h : ∀ w ∈ lw_tbl, w.before args s = true) : ∀ w ∈ WALL, w.before args s = true := fun w q => h w (List.mem_filter.mp q).1
theorem wall_of {x : Cond} {args : Array Value} {s : State} (h : ∀ w ∈ x :: WALL, w.before args s = true) : ∀ w ∈ WALL, w.before args s = true := fun w q => h w (List.mem_cons_of_mem _ q)
theorem good_of {x : Cond} (hx : x ∈ WALL) : GoodIn WALL (x :: WALL) := fun w h => by
  have hw : w ∈ WALL := (List.mem_cons.mp h).elim (fun e => e ▸ hx) (fun h => h)
  exact ⟨hw, good_of_word (List.mem_filter.mp hw).2⟩
theorem in_t0 {w : Cond} (h : w ∈ k2_sels lw_privs) : w ∈ lw_tbl := List.mem_append_left _ h
theorem in_t1 {w : Cond} (h : w ∈ tables_1_1) : w ∈ lw_tbl := List.mem_append_right _ (List.mem_append_left _ h)
theorem in_t2 {w : Cond} (h : w ∈ tables_1_2) : w ∈ lw_tbl := List.mem_append_right _ (List.mem_append_right _ (List.mem_append_left _ h))
theorem in_t3 {w : Cond} (h : w ∈ tables_1_3) : w ∈ lw_tbl := List.mem_append_right _ (List.mem_append_right _ (List.mem_append_right _ (List.mem_append_left _ h)))
theorem in_t4 {w : Cond} (h : w ∈ tables_1_4) : w ∈ lw_tbl := List.mem_append_right _ (List.mem_append_right _ (List.mem_append_right _ (List.mem_append_right _ (List.mem_append_left _ h))))
theorem in_t5 {w : Cond} (h : w ∈ tables_1_5) : w ∈ lw_tbl := List.mem_append_right _ (List.mem_append_right _ (List.mem_append_right _ (List.mem_append_right _ (List.mem_append_right _ (h)))))
theorem mc_TuneSetter_metre : (.code y_TuneSetter_metre b_TuneSetter_metre 3 (some .boolean) : Cond) ∈ WALL := W_of (in_t2 (List.mem_of_getElem? (i := 54) rfl)) rfl
theorem mi_TuneSetter : (.initialized R_TuneSetter : Cond) ∈ WALL := W_of (in_t1 (List.mem_of_getElem? (i := 1) rfl)) rfl
theorem mn_TuneSetter_metre : (.instanceMethod y_TuneSetter_metre : Cond) ∈ WALL := W_of (in_t2 (List.mem_of_getElem? (i := 52) rfl)) rfl
theorem ms_TuneSetter_metre : (.selects R_TuneSetter y_TuneSetter_metre y_TuneSetter_metre : Cond) ∈ WALL := W_of (in_t2 (List.mem_of_getElem? (i := 53) rfl)) rfl
theorem mc_TuneSetter_unit : (.code y_TuneSetter_unit b_TuneSetter_unit 2 (some .boolean) : Cond) ∈ WALL := W_of (in_t2 (List.mem_of_getElem? (i := 58) rfl)) rfl
theorem mn_TuneSetter_unit : (.instanceMethod y_TuneSetter_unit : Cond) ∈ WALL := W_of (in_t2 (List.mem_of_getElem? (i := 56) rfl)) rfl
theorem ms_TuneSetter_unit : (.selects R_TuneSetter y_TuneSetter_unit y_TuneSetter_unit : Cond) ∈ WALL := W_of (in_t2 (List.mem_of_getElem? (i := 57) rfl)) rfl
theorem mc_TuneSetter_key : (.code y_TuneSetter_key b_TuneSetter_key 2 (some .boolean) : Cond) ∈ WALL := W_of (in_t2 (List.mem_of_getElem? (i := 62) rfl)) rfl
theorem mn_TuneSetter_key : (.instanceMethod y_TuneSetter_key : Cond) ∈ WALL := W_of (in_t2 (List.mem_of_getElem? (i := 60) rfl)) rfl
theorem ms_TuneSetter_key : (.selects R_TuneSetter y_TuneSetter_key y_TuneSetter_key : Cond) ∈ WALL := W_of (in_t2 (List.mem_of_getElem? (i := 61) rfl)) rfl
theorem mc_TuneSetter_type : (.code y_TuneSetter_type b_TuneSetter_type 2 (some .boolean) : Cond) ∈ WALL := W_of (in_t2 (List.mem_of_getElem? (i := 66) rfl)) rfl
theorem mn_TuneSetter_type : (.instanceMethod y_TuneSetter_type : Cond) ∈ WALL := W_of (in_t2 (List.mem_of_getElem? (i := 64) rfl)) rfl
theorem ms_TuneSetter_type : (.selects R_TuneSetter y_TuneSetter_type y_TuneSetter_type : Cond) ∈ WALL := W_of (in_t2 (List.mem_of_getElem? (i := 65) rfl)) rfl
theorem mc_TuneSetter_clear : (.code y_TuneSetter_clear b_TuneSetter_clear 2 (some .int) : Cond) ∈ WALL := W_of (in_t2 (List.mem_of_getElem? (i := 70) rfl)) rfl
theorem mn_TuneSetter_clear : (.instanceMethod y_TuneSetter_clear : Cond) ∈ WALL := W_of (in_t2 (List.mem_of_getElem? (i := 68) rfl)) rfl
theorem ms_TuneSetter_clear : (.selects R_TuneSetter y_TuneSetter_clear y_TuneSetter_clear : Cond) ∈ WALL := W_of (in_t2 (List.mem_of_getElem? (i := 69) rfl)) rfl
theorem mc_PitchFinder_startTune : (.code y_PitchFinder_startTune b_PitchFinder_startTune 2 none : Cond) ∈ WALL := W_of (in_t2 (List.mem_of_getElem? (i := 82) rfl)) rfl
theorem mi_PitchFinder : (.initialized R_PitchFinder : Cond) ∈ WALL := W_of (in_t1 (List.mem_of_getElem? (i := 4) rfl)) rfl
theorem mn_PitchFinder_startTune : (.instanceMethod y_PitchFinder_startTune : Cond) ∈ WALL := W_of (in_t2 (List.mem_of_getElem? (i := 80) rfl)) rfl
theorem ms_PitchFinder_startTune : (.selects R_PitchFinder y_PitchFinder_startTune y_PitchFinder_startTune : Cond) ∈ WALL := W_of (in_t2 (List.mem_of_getElem? (i := 81) rfl)) rfl
theorem mc_ItemLength_restart : (.code y_ItemLength_restart b_ItemLength_restart 1 none : Cond) ∈ WALL := W_of (in_t2 (List.mem_of_getElem? (i := 86) rfl)) rfl
theorem mi_ItemLength : (.initialized R_ItemLength : Cond) ∈ WALL := W_of (in_t1 (List.mem_of_getElem? (i := 5) rfl)) rfl
theorem mn_ItemLength_restart : (.instanceMethod y_ItemLength_restart : Cond) ∈ WALL := W_of (in_t2 (List.mem_of_getElem? (i := 84) rfl)) rfl
theorem ms_ItemLength_restart : (.selects R_ItemLength y_ItemLength_restart y_ItemLength_restart : Cond) ∈ WALL := W_of (in_t2 (List.mem_of_getElem? (i := 85) rfl)) rfl
theorem mc_Tune_empty : (.code y_Tune_empty b_Tune_empty 1 none : Cond) ∈ WALL := W_of (in_t2 (List.mem_of_getElem? (i := 90) rfl)) rfl
theorem mi_Tune : (.initialized R_Tune : Cond) ∈ WALL := W_of (in_t1 (List.mem_of_getElem? (i := 3) rfl)) rfl
theorem mn_Tune_empty : (.instanceMethod y_Tune_empty : Cond) ∈ WALL := W_of (in_t2 (List.mem_of_getElem? (i := 88) rfl)) rfl
theorem ms_Tune_empty : (.selects R_Tune y_Tune_empty y_Tune_empty : Cond) ∈ WALL := W_of (in_t2 (List.mem_of_getElem? (i := 89) rfl)) rfl
theorem mc_Reader_prepare : (.code y_Reader_prepare b_Reader_prepare 4 none : Cond) ∈ WALL := W_of (in_t2 (List.mem_of_getElem? (i := 78) rfl)) rfl
theorem mi_Reader : (.initialized R_Reader : Cond) ∈ WALL := W_of (in_t1 (List.mem_of_getElem? (i := 2) rfl)) rfl
theorem mn_Reader_prepare : (.instanceMethod y_Reader_prepare : Cond) ∈ WALL := W_of (in_t2 (List.mem_of_getElem? (i := 76) rfl)) rfl
theorem ms_Reader_prepare : (.selects R_Reader y_Reader_prepare y_Reader_prepare : Cond) ∈ WALL := W_of (in_t2 (List.mem_of_getElem? (i := 77) rfl)) rfl
theorem mc_Reader_letterAt : (.code y_Reader_letterAt b_Reader_letterAt 3 (some .int) : Cond) ∈ WALL := W_of (in_t2 (List.mem_of_getElem? (i := 97) rfl)) rfl
theorem mn_Reader_letterAt : (.static y_Reader_letterAt : Cond) ∈ WALL := W_of (in_t2 (List.mem_of_getElem? (i := 96) rfl)) rfl
theorem mc_Reader_isDigit : (.code y_Reader_isDigit b_Reader_isDigit 1 (some .boolean) : Cond) ∈ WALL := W_of (in_t2 (List.mem_of_getElem? (i := 108) rfl)) rfl
theorem mn_Reader_isDigit : (.static y_Reader_isDigit : Cond) ∈ WALL := W_of (in_t2 (List.mem_of_getElem? (i := 107) rfl)) rfl
theorem mc_Reader_octavesEnd : (.code y_Reader_octavesEnd b_Reader_octavesEnd 2 (some .boolean) : Cond) ∈ WALL := W_of (in_t2 (List.mem_of_getElem? (i := 112) rfl)) rfl
theorem mn_Reader_octavesEnd : (.instanceMethod y_Reader_octavesEnd : Cond) ∈ WALL := W_of (in_t2 (List.mem_of_getElem? (i := 111) rfl)) rfl
theorem ms_Reader_octavesEnd : (.selects R_Reader y_Reader_octavesEnd y_Reader_octavesEnd : Cond) ∈ WALL := W_of (in_t0 (List.mem_of_getElem? (i := 2) rfl)) rfl
theorem mc_Reader_lengthEnds : (.code y_Reader_lengthEnds b_Reader_lengthEnds 3 (some .boolean) : Cond) ∈ WALL := W_of (in_t2 (List.mem_of_getElem? (i := 105) rfl)) rfl
theorem mn_Reader_lengthEnds : (.instanceMethod y_Reader_lengthEnds : Cond) ∈ WALL := W_of (in_t2 (List.mem_of_getElem? (i := 104) rfl)) rfl
theorem ms_Reader_lengthEnds : (.selects R_Reader y_Reader_lengthEnds y_Reader_lengthEnds : Cond) ∈ WALL := W_of (in_t0 (List.mem_of_getElem? (i := 1) rfl)) rfl
theorem mc_ItemLength_inTicks : (.code y_ItemLength_inTicks b_ItemLength_inTicks 5 (some .int) : Cond) ∈ WALL := W_of (in_t2 (List.mem_of_getElem? (i := 120) rfl)) rfl
theorem mn_ItemLength_inTicks : (.instanceMethod y_ItemLength_inTicks : Cond) ∈ WALL := W_of (in_t2 (List.mem_of_getElem? (i := 118) rfl)) rfl
theorem ms_ItemLength_inTicks : (.selects R_ItemLength y_ItemLength_inTicks y_ItemLength_inTicks : Cond) ∈ WALL := W_of (in_t2 (List.mem_of_getElem? (i := 119) rfl)) rfl
theorem mc_Tune_widen : (.code y_Tune_widen b_Tune_widen 2 none : Cond) ∈ WALL := W_of (in_t2 (List.mem_of_getElem? (i := 132) rfl)) rfl
theorem mn_Tune_widen : (.instanceMethod y_Tune_widen : Cond) ∈ WALL := W_of (in_t2 (List.mem_of_getElem? (i := 130) rfl)) rfl
theorem ms_Tune_widen : (.selects R_Tune y_Tune_widen y_Tune_widen : Cond) ∈ WALL := W_of (in_t2 (List.mem_of_getElem? (i := 131) rfl)) rfl
theorem mc_Tune_setTicks : (.code y_Tune_setTicks b_Tune_setTicks 3 none : Cond) ∈ WALL := W_of (in_t2 (List.mem_of_getElem? (i := 128) rfl)) rfl
theorem mn_Tune_setTicks : (.instanceMethod y_Tune_setTicks : Cond) ∈ WALL := W_of (in_t2 (List.mem_of_getElem? (i := 126) rfl)) rfl
theorem ms_Tune_setTicks : (.selects R_Tune y_Tune_setTicks y_Tune_setTicks : Cond) ∈ WALL := W_of (in_t2 (List.mem_of_getElem? (i := 127) rfl)) rfl
theorem mc_Reader_fail : (.code y_Reader_fail b_Reader_fail 3 none : Cond) ∈ WALL := W_of (in_t2 (List.mem_of_getElem? (i := 124) rfl)) rfl
theorem mn_Reader_fail : (.instanceMethod y_Reader_fail : Cond) ∈ WALL := W_of (in_t2 (List.mem_of_getElem? (i := 123) rfl)) rfl
theorem ms_Reader_fail : (.selects R_Reader y_Reader_fail y_Reader_fail : Cond) ∈ WALL := W_of (in_t0 (List.mem_of_getElem? (i := 4) rfl)) rfl
theorem mc_Reader_endItem : (.code y_Reader_endItem b_Reader_endItem 2 none : Cond) ∈ WALL := W_of (in_t2 (List.mem_of_getElem? (i := 116) rfl)) rfl
theorem mn_Reader_endItem : (.instanceMethod y_Reader_endItem : Cond) ∈ WALL := W_of (in_t2 (List.mem_of_getElem? (i := 115) rfl)) rfl
theorem ms_Reader_endItem : (.selects R_Reader y_Reader_endItem y_Reader_endItem : Cond) ∈ WALL := W_of (in_t0 (List.mem_of_getElem? (i := 3) rfl)) rfl
theorem mc_PitchFinder_keySign : (.code y_PitchFinder_keySign b_PitchFinder_keySign 2 (some .int) : Cond) ∈ WALL := W_of (in_t2 (List.mem_of_getElem? (i := 144) rfl)) rfl
theorem mn_PitchFinder_keySign : (.instanceMethod y_PitchFinder_keySign : Cond) ∈ WALL := W_of (in_t2 (List.mem_of_getElem? (i := 143) rfl)) rfl
theorem ms_PitchFinder_keySign : (.selects R_PitchFinder y_PitchFinder_keySign y_PitchFinder_keySign : Cond) ∈ WALL := W_of (in_t0 (List.mem_of_getElem? (i := 6) rfl)) rfl
theorem mc_PitchFinder_endPitch : (.code y_PitchFinder_endPitch b_PitchFinder_endPitch 4 (some .int) : Cond) ∈ WALL := W_of (in_t2 (List.mem_of_getElem? (i := 140) rfl)) rfl
theorem mn_PitchFinder_endPitch : (.instanceMethod y_PitchFinder_endPitch : Cond) ∈ WALL := W_of (in_t2 (List.mem_of_getElem? (i := 138) rfl)) rfl
theorem ms_PitchFinder_endPitch : (.selects R_PitchFinder y_PitchFinder_endPitch y_PitchFinder_endPitch : Cond) ∈ WALL := W_of (in_t2 (List.mem_of_getElem? (i := 139) rfl)) rfl
theorem mc_Tune_addNote : (.code y_Tune_addNote b_Tune_addNote 2 none : Cond) ∈ WALL := W_of (in_t2 (List.mem_of_getElem? (i := 150) rfl)) rfl
theorem mn_Tune_addNote : (.instanceMethod y_Tune_addNote : Cond) ∈ WALL := W_of (in_t2 (List.mem_of_getElem? (i := 148) rfl)) rfl
theorem ms_Tune_addNote : (.selects R_Tune y_Tune_addNote y_Tune_addNote : Cond) ∈ WALL := W_of (in_t2 (List.mem_of_getElem? (i := 149) rfl)) rfl
theorem mc_Reader_endNote : (.code y_Reader_endNote b_Reader_endNote 2 none : Cond) ∈ WALL := W_of (in_t2 (List.mem_of_getElem? (i := 136) rfl)) rfl
theorem mn_Reader_endNote : (.instanceMethod y_Reader_endNote : Cond) ∈ WALL := W_of (in_t2 (List.mem_of_getElem? (i := 135) rfl)) rfl
theorem ms_Reader_endNote : (.selects R_Reader y_Reader_endNote y_Reader_endNote : Cond) ∈ WALL := W_of (in_t0 (List.mem_of_getElem? (i := 5) rfl)) rfl
theorem mc_Reader_may : (.code y_Reader_may b_Reader_may 3 (some .boolean) : Cond) ∈ WALL := W_of (in_t2 (List.mem_of_getElem? (i := 159) rfl)) rfl
theorem mn_Reader_may : (.instanceMethod y_Reader_may : Cond) ∈ WALL := W_of (in_t2 (List.mem_of_getElem? (i := 158) rfl)) rfl
theorem ms_Reader_may : (.selects R_Reader y_Reader_may y_Reader_may : Cond) ∈ WALL := W_of (in_t0 (List.mem_of_getElem? (i := 8) rfl)) rfl
theorem mc_Reader_behindSpace : (.code y_Reader_behindSpace b_Reader_behindSpace 1 (some .int) : Cond) ∈ WALL := W_of (in_t2 (List.mem_of_getElem? (i := 165) rfl)) rfl
theorem mn_Reader_behindSpace : (.instanceMethod y_Reader_behindSpace : Cond) ∈ WALL := W_of (in_t2 (List.mem_of_getElem? (i := 164) rfl)) rfl
theorem ms_Reader_behindSpace : (.selects R_Reader y_Reader_behindSpace y_Reader_behindSpace : Cond) ∈ WALL := W_of (in_t0 (List.mem_of_getElem? (i := 9) rfl)) rfl
theorem mc_Tune_isRest : (.code y_Tune_isRest b_Tune_isRest 1 (some .boolean) : Cond) ∈ WALL := W_of (in_t2 (List.mem_of_getElem? (i := 169) rfl)) rfl
theorem mn_Tune_isRest : (.instanceMethod y_Tune_isRest : Cond) ∈ WALL := W_of (in_t2 (List.mem_of_getElem? (i := 167) rfl)) rfl
theorem ms_Tune_isRest : (.selects R_Tune y_Tune_isRest y_Tune_isRest : Cond) ∈ WALL := W_of (in_t2 (List.mem_of_getElem? (i := 168) rfl)) rfl
theorem mc_ItemLength_takesDigit : (.code y_ItemLength_takesDigit b_ItemLength_takesDigit 1 (some .boolean) : Cond) ∈ WALL := W_of (in_t2 (List.mem_of_getElem? (i := 181) rfl)) rfl
theorem mn_ItemLength_takesDigit : (.instanceMethod y_ItemLength_takesDigit : Cond) ∈ WALL := W_of (in_t2 (List.mem_of_getElem? (i := 179) rfl)) rfl
theorem ms_ItemLength_takesDigit : (.selects R_ItemLength y_ItemLength_takesDigit y_ItemLength_takesDigit : Cond) ∈ WALL := W_of (in_t2 (List.mem_of_getElem? (i := 180) rfl)) rfl
theorem mc_Reader_followDigit : (.code y_Reader_followDigit b_Reader_followDigit 2 (some .int) : Cond) ∈ WALL := W_of (in_t2 (List.mem_of_getElem? (i := 177) rfl)) rfl
theorem mn_Reader_followDigit : (.instanceMethod y_Reader_followDigit : Cond) ∈ WALL := W_of (in_t2 (List.mem_of_getElem? (i := 176) rfl)) rfl
theorem ms_Reader_followDigit : (.selects R_Reader y_Reader_followDigit y_Reader_followDigit : Cond) ∈ WALL := W_of (in_t0 (List.mem_of_getElem? (i := 11) rfl)) rfl
theorem mc_Reader_isNoteLetter : (.code y_Reader_isNoteLetter b_Reader_isNoteLetter 1 (some .boolean) : Cond) ∈ WALL := W_of (in_t2 (List.mem_of_getElem? (i := 184) rfl)) rfl
theorem mn_Reader_isNoteLetter : (.static y_Reader_isNoteLetter : Cond) ∈ WALL := W_of (in_t2 (List.mem_of_getElem? (i := 183) rfl)) rfl
theorem mc_Reader_followOther : (.code y_Reader_followOther b_Reader_followOther 2 (some .int) : Cond) ∈ WALL := W_of (in_t2 (List.mem_of_getElem? (i := 173) rfl)) rfl
theorem mn_Reader_followOther : (.instanceMethod y_Reader_followOther : Cond) ∈ WALL := W_of (in_t2 (List.mem_of_getElem? (i := 172) rfl)) rfl
theorem ms_Reader_followOther : (.selects R_Reader y_Reader_followOther y_Reader_followOther : Cond) ∈ WALL := W_of (in_t0 (List.mem_of_getElem? (i := 10) rfl)) rfl
theorem mc_Reader_follow : (.code y_Reader_follow b_Reader_follow 3 (some .int) : Cond) ∈ WALL := W_of (in_t2 (List.mem_of_getElem? (i := 154) rfl)) rfl
theorem mn_Reader_follow : (.instanceMethod y_Reader_follow : Cond) ∈ WALL := W_of (in_t2 (List.mem_of_getElem? (i := 153) rfl)) rfl
theorem ms_Reader_follow : (.selects R_Reader y_Reader_follow y_Reader_follow : Cond) ∈ WALL := W_of (in_t0 (List.mem_of_getElem? (i := 7) rfl)) rfl
theorem mc_Reader_isNoteState : (.code y_Reader_isNoteState b_Reader_isNoteState 1 (some .boolean) : Cond) ∈ WALL := W_of (in_t2 (List.mem_of_getElem? (i := 199) rfl)) rfl
theorem mn_Reader_isNoteState : (.static y_Reader_isNoteState : Cond) ∈ WALL := W_of (in_t2 (List.mem_of_getElem? (i := 198) rfl)) rfl
theorem mc_Reader_opensItem : (.code y_Reader_opensItem b_Reader_opensItem 2 (some .boolean) : Cond) ∈ WALL := W_of (in_t2 (List.mem_of_getElem? (i := 196) rfl)) rfl
theorem mn_Reader_opensItem : (.instanceMethod y_Reader_opensItem : Cond) ∈ WALL := W_of (in_t2 (List.mem_of_getElem? (i := 195) rfl)) rfl
theorem ms_Reader_opensItem : (.selects R_Reader y_Reader_opensItem y_Reader_opensItem : Cond) ∈ WALL := W_of (in_t0 (List.mem_of_getElem? (i := 14) rfl)) rfl
theorem mc_Reader_opensBar : (.code y_Reader_opensBar b_Reader_opensBar 2 (some .boolean) : Cond) ∈ WALL := W_of (in_t2 (List.mem_of_getElem? (i := 192) rfl)) rfl
theorem mn_Reader_opensBar : (.instanceMethod y_Reader_opensBar : Cond) ∈ WALL := W_of (in_t2 (List.mem_of_getElem? (i := 191) rfl)) rfl
theorem ms_Reader_opensBar : (.selects R_Reader y_Reader_opensBar y_Reader_opensBar : Cond) ∈ WALL := W_of (in_t0 (List.mem_of_getElem? (i := 13) rfl)) rfl
theorem mc_Reader_opensChordNote : (.code y_Reader_opensChordNote b_Reader_opensChordNote 2 (some .boolean) : Cond) ∈ WALL := W_of (in_t2 (List.mem_of_getElem? (i := 214) rfl)) rfl
theorem mn_Reader_opensChordNote : (.instanceMethod y_Reader_opensChordNote : Cond) ∈ WALL := W_of (in_t2 (List.mem_of_getElem? (i := 213) rfl)) rfl
theorem ms_Reader_opensChordNote : (.selects R_Reader y_Reader_opensChordNote y_Reader_opensChordNote : Cond) ∈ WALL := W_of (in_t0 (List.mem_of_getElem? (i := 16) rfl)) rfl
theorem mc_Reader_checkMany : (.code y_Reader_checkMany b_Reader_checkMany 2 none : Cond) ∈ WALL := W_of (in_t2 (List.mem_of_getElem? (i := 210) rfl)) rfl
theorem mn_Reader_checkMany : (.instanceMethod y_Reader_checkMany : Cond) ∈ WALL := W_of (in_t2 (List.mem_of_getElem? (i := 209) rfl)) rfl
theorem ms_Reader_checkMany : (.selects R_Reader y_Reader_checkMany y_Reader_checkMany : Cond) ∈ WALL := W_of (in_t0 (List.mem_of_getElem? (i := 15) rfl)) rfl
theorem mc_Tune_latestBarTicks : (.code y_Tune_latestBarTicks b_Tune_latestBarTicks 1 (some .int) : Cond) ∈ WALL := W_of (in_t2 (List.mem_of_getElem? (i := 203) rfl)) rfl
theorem mn_Tune_latestBarTicks : (.instanceMethod y_Tune_latestBarTicks : Cond) ∈ WALL := W_of (in_t2 (List.mem_of_getElem? (i := 201) rfl)) rfl
theorem ms_Tune_latestBarTicks : (.selects R_Tune y_Tune_latestBarTicks y_Tune_latestBarTicks : Cond) ∈ WALL := W_of (in_t2 (List.mem_of_getElem? (i := 202) rfl)) rfl
theorem mc_Reader_opensLine : (.code y_Reader_opensLine b_Reader_opensLine 1 (some .boolean) : Cond) ∈ WALL := W_of (in_t2 (List.mem_of_getElem? (i := 206) rfl)) rfl
theorem mn_Reader_opensLine : (.static y_Reader_opensLine : Cond) ∈ WALL := W_of (in_t2 (List.mem_of_getElem? (i := 205) rfl)) rfl
theorem mc_Reader_checkBars : (.code y_Reader_checkBars b_Reader_checkBars 2 none : Cond) ∈ WALL := W_of (in_t2 (List.mem_of_getElem? (i := 188) rfl)) rfl
theorem mn_Reader_checkBars : (.instanceMethod y_Reader_checkBars : Cond) ∈ WALL := W_of (in_t2 (List.mem_of_getElem? (i := 187) rfl)) rfl
theorem ms_Reader_checkBars : (.selects R_Reader y_Reader_checkBars y_Reader_checkBars : Cond) ∈ WALL := W_of (in_t0 (List.mem_of_getElem? (i := 12) rfl)) rfl
theorem mc_Tune_openBar : (.code y_Tune_openBar b_Tune_openBar 2 none : Cond) ∈ WALL := W_of (in_t2 (List.mem_of_getElem? (i := 222) rfl)) rfl
theorem mn_Tune_openBar : (.instanceMethod y_Tune_openBar : Cond) ∈ WALL := W_of (in_t2 (List.mem_of_getElem? (i := 220) rfl)) rfl
theorem ms_Tune_openBar : (.selects R_Tune y_Tune_openBar y_Tune_openBar : Cond) ∈ WALL := W_of (in_t2 (List.mem_of_getElem? (i := 221) rfl)) rfl
theorem mc_Arrays_fill : (.code y_Arrays_fill b_Arrays_fill 4 none : Cond) ∈ WALL := W_of (in_t2 (List.mem_of_getElem? (i := 229) rfl)) rfl
theorem mi_Arrays : (.initialized R_Arrays : Cond) ∈ WALL := W_of (in_t1 (List.mem_of_getElem? (i := 10) rfl)) rfl
theorem mn_Arrays_fill : (.static y_Arrays_fill : Cond) ∈ WALL := W_of (in_t2 (List.mem_of_getElem? (i := 228) rfl)) rfl
theorem mc_PitchFinder_startBar : (.code y_PitchFinder_startBar b_PitchFinder_startBar 1 none : Cond) ∈ WALL := W_of (in_t2 (List.mem_of_getElem? (i := 226) rfl)) rfl
theorem mn_PitchFinder_startBar : (.instanceMethod y_PitchFinder_startBar : Cond) ∈ WALL := W_of (in_t2 (List.mem_of_getElem? (i := 224) rfl)) rfl
theorem ms_PitchFinder_startBar : (.selects R_PitchFinder y_PitchFinder_startBar y_PitchFinder_startBar : Cond) ∈ WALL := W_of (in_t2 (List.mem_of_getElem? (i := 225) rfl)) rfl
theorem mc_Tune_openItem : (.code y_Tune_openItem b_Tune_openItem 1 none : Cond) ∈ WALL := W_of (in_t2 (List.mem_of_getElem? (i := 233) rfl)) rfl
theorem mn_Tune_openItem : (.instanceMethod y_Tune_openItem : Cond) ∈ WALL := W_of (in_t2 (List.mem_of_getElem? (i := 231) rfl)) rfl
theorem ms_Tune_openItem : (.selects R_Tune y_Tune_openItem y_Tune_openItem : Cond) ∈ WALL := W_of (in_t2 (List.mem_of_getElem? (i := 232) rfl)) rfl
theorem mc_Reader_open : (.code y_Reader_open b_Reader_open 2 none : Cond) ∈ WALL := W_of (in_t2 (List.mem_of_getElem? (i := 218) rfl)) rfl
theorem mn_Reader_open : (.instanceMethod y_Reader_open : Cond) ∈ WALL := W_of (in_t2 (List.mem_of_getElem? (i := 217) rfl)) rfl
theorem ms_Reader_open : (.selects R_Reader y_Reader_open y_Reader_open : Cond) ∈ WALL := W_of (in_t0 (List.mem_of_getElem? (i := 17) rfl)) rfl
theorem mc_Tune_setLine : (.code y_Tune_setLine b_Tune_setLine 2 none : Cond) ∈ WALL := W_of (in_t3 (List.mem_of_getElem? (i := 1) rfl)) rfl
theorem mn_Tune_setLine : (.instanceMethod y_Tune_setLine : Cond) ∈ WALL := W_of (in_t2 (List.mem_of_getElem? (i := 239) rfl)) rfl
theorem ms_Tune_setLine : (.selects R_Tune y_Tune_setLine y_Tune_setLine : Cond) ∈ WALL := W_of (in_t3 (List.mem_of_getElem? (i := 0) rfl)) rfl
theorem mc_Reader_growLine : (.code y_Reader_growLine b_Reader_growLine 2 none : Cond) ∈ WALL := W_of (in_t3 (List.mem_of_getElem? (i := 5) rfl)) rfl
theorem mn_Reader_growLine : (.instanceMethod y_Reader_growLine : Cond) ∈ WALL := W_of (in_t3 (List.mem_of_getElem? (i := 4) rfl)) rfl
theorem ms_Reader_growLine : (.selects R_Reader y_Reader_growLine y_Reader_growLine : Cond) ∈ WALL := W_of (in_t0 (List.mem_of_getElem? (i := 19) rfl)) rfl
theorem mc_Tune_setEnding : (.code y_Tune_setEnding b_Tune_setEnding 2 none : Cond) ∈ WALL := W_of (in_t3 (List.mem_of_getElem? (i := 9) rfl)) rfl
theorem mn_Tune_setEnding : (.instanceMethod y_Tune_setEnding : Cond) ∈ WALL := W_of (in_t3 (List.mem_of_getElem? (i := 7) rfl)) rfl
theorem ms_Tune_setEnding : (.selects R_Tune y_Tune_setEnding y_Tune_setEnding : Cond) ∈ WALL := W_of (in_t3 (List.mem_of_getElem? (i := 8) rfl)) rfl
theorem mc_Tune_setTie : (.code y_Tune_setTie b_Tune_setTie 1 none : Cond) ∈ WALL := W_of (in_t3 (List.mem_of_getElem? (i := 13) rfl)) rfl
theorem mn_Tune_setTie : (.instanceMethod y_Tune_setTie : Cond) ∈ WALL := W_of (in_t3 (List.mem_of_getElem? (i := 11) rfl)) rfl
theorem ms_Tune_setTie : (.selects R_Tune y_Tune_setTie y_Tune_setTie : Cond) ∈ WALL := W_of (in_t3 (List.mem_of_getElem? (i := 12) rfl)) rfl
theorem mc_PitchFinder_setSign : (.code y_PitchFinder_setSign b_PitchFinder_setSign 2 none : Cond) ∈ WALL := W_of (in_t3 (List.mem_of_getElem? (i := 25) rfl)) rfl
theorem mn_PitchFinder_setSign : (.instanceMethod y_PitchFinder_setSign : Cond) ∈ WALL := W_of (in_t3 (List.mem_of_getElem? (i := 23) rfl)) rfl
theorem ms_PitchFinder_setSign : (.selects R_PitchFinder y_PitchFinder_setSign y_PitchFinder_setSign : Cond) ∈ WALL := W_of (in_t3 (List.mem_of_getElem? (i := 24) rfl)) rfl
theorem mc_Reader_takeSign : (.code y_Reader_takeSign b_Reader_takeSign 2 none : Cond) ∈ WALL := W_of (in_t3 (List.mem_of_getElem? (i := 21) rfl)) rfl
theorem mn_Reader_takeSign : (.instanceMethod y_Reader_takeSign : Cond) ∈ WALL := W_of (in_t3 (List.mem_of_getElem? (i := 20) rfl)) rfl
theorem ms_Reader_takeSign : (.selects R_Reader y_Reader_takeSign y_Reader_takeSign : Cond) ∈ WALL := W_of (in_t0 (List.mem_of_getElem? (i := 21) rfl)) rfl
theorem mc_PitchFinder_doubleSign : (.code y_PitchFinder_doubleSign b_PitchFinder_doubleSign 1 none : Cond) ∈ WALL := W_of (in_t3 (List.mem_of_getElem? (i := 30) rfl)) rfl
theorem mn_PitchFinder_doubleSign : (.instanceMethod y_PitchFinder_doubleSign : Cond) ∈ WALL := W_of (in_t3 (List.mem_of_getElem? (i := 28) rfl)) rfl
theorem ms_PitchFinder_doubleSign : (.selects R_PitchFinder y_PitchFinder_doubleSign y_PitchFinder_doubleSign : Cond) ∈ WALL := W_of (in_t3 (List.mem_of_getElem? (i := 29) rfl)) rfl
theorem mc_PitchFinder_setLetter : (.code y_PitchFinder_setLetter b_PitchFinder_setLetter 3 none : Cond) ∈ WALL := W_of (in_t3 (List.mem_of_getElem? (i := 34) rfl)) rfl
theorem mn_PitchFinder_setLetter : (.instanceMethod y_PitchFinder_setLetter : Cond) ∈ WALL := W_of (in_t3 (List.mem_of_getElem? (i := 32) rfl)) rfl
theorem ms_PitchFinder_setLetter : (.selects R_PitchFinder y_PitchFinder_setLetter y_PitchFinder_setLetter : Cond) ∈ WALL := W_of (in_t3 (List.mem_of_getElem? (i := 33) rfl)) rfl
theorem mc_PitchFinder_shift : (.code y_PitchFinder_shift b_PitchFinder_shift 2 none : Cond) ∈ WALL := W_of (in_t3 (List.mem_of_getElem? (i := 40) rfl)) rfl
theorem mn_PitchFinder_shift : (.instanceMethod y_PitchFinder_shift : Cond) ∈ WALL := W_of (in_t3 (List.mem_of_getElem? (i := 38) rfl)) rfl
theorem ms_PitchFinder_shift : (.selects R_PitchFinder y_PitchFinder_shift y_PitchFinder_shift : Cond) ∈ WALL := W_of (in_t3 (List.mem_of_getElem? (i := 39) rfl)) rfl
theorem mc_ItemLength_addTopDigit : (.code y_ItemLength_addTopDigit b_ItemLength_addTopDigit 2 none : Cond) ∈ WALL := W_of (in_t3 (List.mem_of_getElem? (i := 44) rfl)) rfl
theorem mn_ItemLength_addTopDigit : (.instanceMethod y_ItemLength_addTopDigit : Cond) ∈ WALL := W_of (in_t3 (List.mem_of_getElem? (i := 42) rfl)) rfl
theorem ms_ItemLength_addTopDigit : (.selects R_ItemLength y_ItemLength_addTopDigit y_ItemLength_addTopDigit : Cond) ∈ WALL := W_of (in_t3 (List.mem_of_getElem? (i := 43) rfl)) rfl
theorem mc_ItemLength_addSlash : (.code y_ItemLength_addSlash b_ItemLength_addSlash 1 none : Cond) ∈ WALL := W_of (in_t3 (List.mem_of_getElem? (i := 48) rfl)) rfl
theorem mn_ItemLength_addSlash : (.instanceMethod y_ItemLength_addSlash : Cond) ∈ WALL := W_of (in_t3 (List.mem_of_getElem? (i := 46) rfl)) rfl
theorem ms_ItemLength_addSlash : (.selects R_ItemLength y_ItemLength_addSlash y_ItemLength_addSlash : Cond) ∈ WALL := W_of (in_t3 (List.mem_of_getElem? (i := 47) rfl)) rfl
theorem mc_ItemLength_addBottomDigit : (.code y_ItemLength_addBottomDigit b_ItemLength_addBottomDigit 2 none : Cond) ∈ WALL := W_of (in_t3 (List.mem_of_getElem? (i := 52) rfl)) rfl
theorem mn_ItemLength_addBottomDigit : (.instanceMethod y_ItemLength_addBottomDigit : Cond) ∈ WALL := W_of (in_t3 (List.mem_of_getElem? (i := 50) rfl)) rfl
theorem ms_ItemLength_addBottomDigit : (.selects R_ItemLength y_ItemLength_addBottomDigit y_ItemLength_addBottomDigit : Cond) ∈ WALL := W_of (in_t3 (List.mem_of_getElem? (i := 51) rfl)) rfl
theorem mc_Reader_takeInside : (.code y_Reader_takeInside b_Reader_takeInside 3 none : Cond) ∈ WALL := W_of (in_t3 (List.mem_of_getElem? (i := 17) rfl)) rfl
theorem mn_Reader_takeInside : (.instanceMethod y_Reader_takeInside : Cond) ∈ WALL := W_of (in_t3 (List.mem_of_getElem? (i := 16) rfl)) rfl
theorem ms_Reader_takeInside : (.selects R_Reader y_Reader_takeInside y_Reader_takeInside : Cond) ∈ WALL := W_of (in_t0 (List.mem_of_getElem? (i := 20) rfl)) rfl
theorem mc_Reader_take : (.code y_Reader_take b_Reader_take 3 none : Cond) ∈ WALL := W_of (in_t2 (List.mem_of_getElem? (i := 237) rfl)) rfl
theorem mn_Reader_take : (.instanceMethod y_Reader_take : Cond) ∈ WALL := W_of (in_t2 (List.mem_of_getElem? (i := 236) rfl)) rfl
theorem ms_Reader_take : (.selects R_Reader y_Reader_take y_Reader_take : Cond) ∈ WALL := W_of (in_t0 (List.mem_of_getElem? (i := 18) rfl)) rfl
theorem mc_Reader_step : (.code y_Reader_step b_Reader_step 4 none : Cond) ∈ WALL := W_of (in_t2 (List.mem_of_getElem? (i := 101) rfl)) rfl
theorem mn_Reader_step : (.instanceMethod y_Reader_step : Cond) ∈ WALL := W_of (in_t2 (List.mem_of_getElem? (i := 100) rfl)) rfl
theorem ms_Reader_step : (.selects R_Reader y_Reader_step y_Reader_step : Cond) ∈ WALL := W_of (in_t0 (List.mem_of_getElem? (i := 0) rfl)) rfl
theorem mc_Reader_scan : (.code y_Reader_scan b_Reader_scan 4 none : Cond) ∈ WALL := W_of (in_t2 (List.mem_of_getElem? (i := 94) rfl)) rfl
theorem mn_Reader_scan : (.instanceMethod y_Reader_scan : Cond) ∈ WALL := W_of (in_t2 (List.mem_of_getElem? (i := 92) rfl)) rfl
theorem ms_Reader_scan : (.selects R_Reader y_Reader_scan y_Reader_scan : Cond) ∈ WALL := W_of (in_t2 (List.mem_of_getElem? (i := 93) rfl)) rfl
theorem mc_Playing_takeWaiting : (.code y_Playing_takeWaiting b_Playing_takeWaiting 4 (some .int) : Cond) ∈ WALL := W_of (in_t3 (List.mem_of_getElem? (i := 76) rfl)) rfl
theorem mi_Playing : (.initialized R_Playing : Cond) ∈ WALL := W_of (in_t1 (List.mem_of_getElem? (i := 6) rfl)) rfl
theorem mn_Playing_takeWaiting : (.instanceMethod y_Playing_takeWaiting : Cond) ∈ WALL := W_of (in_t3 (List.mem_of_getElem? (i := 75) rfl)) rfl
theorem ms_Playing_takeWaiting : (.selects R_Playing y_Playing_takeWaiting y_Playing_takeWaiting : Cond) ∈ WALL := W_of (in_t0 (List.mem_of_getElem? (i := 26) rfl)) rfl
theorem mc_Playing_begin : (.code y_Playing_begin b_Playing_begin 2 (some .int) : Cond) ∈ WALL := W_of (in_t3 (List.mem_of_getElem? (i := 80) rfl)) rfl
theorem mn_Playing_begin : (.instanceMethod y_Playing_begin : Cond) ∈ WALL := W_of (in_t3 (List.mem_of_getElem? (i := 79) rfl)) rfl
theorem ms_Playing_begin : (.selects R_Playing y_Playing_begin y_Playing_begin : Cond) ∈ WALL := W_of (in_t0 (List.mem_of_getElem? (i := 27) rfl)) rfl
theorem mc_Playing_sound : (.code y_Playing_sound b_Playing_sound 4 none : Cond) ∈ WALL := W_of (in_t3 (List.mem_of_getElem? (i := 72) rfl)) rfl
theorem mn_Playing_sound : (.instanceMethod y_Playing_sound : Cond) ∈ WALL := W_of (in_t3 (List.mem_of_getElem? (i := 71) rfl)) rfl
theorem ms_Playing_sound : (.selects R_Playing y_Playing_sound y_Playing_sound : Cond) ∈ WALL := W_of (in_t0 (List.mem_of_getElem? (i := 25) rfl)) rfl
theorem mc_Playing_playItem : (.code y_Playing_playItem b_Playing_playItem 4 none : Cond) ∈ WALL := W_of (in_t3 (List.mem_of_getElem? (i := 68) rfl)) rfl
theorem mn_Playing_playItem : (.instanceMethod y_Playing_playItem : Cond) ∈ WALL := W_of (in_t3 (List.mem_of_getElem? (i := 67) rfl)) rfl
theorem ms_Playing_playItem : (.selects R_Playing y_Playing_playItem y_Playing_playItem : Cond) ∈ WALL := W_of (in_t0 (List.mem_of_getElem? (i := 24) rfl)) rfl
theorem mc_Playing_playBar : (.code y_Playing_playBar b_Playing_playBar 4 none : Cond) ∈ WALL := W_of (in_t3 (List.mem_of_getElem? (i := 64) rfl)) rfl
theorem mn_Playing_playBar : (.instanceMethod y_Playing_playBar : Cond) ∈ WALL := W_of (in_t3 (List.mem_of_getElem? (i := 63) rfl)) rfl
theorem ms_Playing_playBar : (.selects R_Playing y_Playing_playBar y_Playing_playBar : Cond) ∈ WALL := W_of (in_t0 (List.mem_of_getElem? (i := 23) rfl)) rfl
theorem mc_Playing_perform : (.code y_Playing_perform b_Playing_perform 7 none : Cond) ∈ WALL := W_of (in_t3 (List.mem_of_getElem? (i := 60) rfl)) rfl
theorem mn_Playing_perform : (.instanceMethod y_Playing_perform : Cond) ∈ WALL := W_of (in_t3 (List.mem_of_getElem? (i := 58) rfl)) rfl
theorem ms_Playing_perform : (.selects R_Playing y_Playing_perform y_Playing_perform : Cond) ∈ WALL := W_of (in_t3 (List.mem_of_getElem? (i := 59) rfl)) rfl
theorem mc_TuneSetter_refuse : (.code y_TuneSetter_refuse b_TuneSetter_refuse 3 (some .int) : Cond) ∈ WALL := W_of (in_t3 (List.mem_of_getElem? (i := 56) rfl)) rfl
theorem mn_TuneSetter_refuse : (.instanceMethod y_TuneSetter_refuse : Cond) ∈ WALL := W_of (in_t3 (List.mem_of_getElem? (i := 55) rfl)) rfl
theorem ms_TuneSetter_refuse : (.selects R_TuneSetter y_TuneSetter_refuse y_TuneSetter_refuse : Cond) ∈ WALL := W_of (in_t0 (List.mem_of_getElem? (i := 22) rfl)) rfl
theorem mc_TuneSetter_read : (.code y_TuneSetter_read b_TuneSetter_read 1 (some .int) : Cond) ∈ WALL := W_of (in_t2 (List.mem_of_getElem? (i := 74) rfl)) rfl
theorem mn_TuneSetter_read : (.instanceMethod y_TuneSetter_read : Cond) ∈ WALL := W_of (in_t2 (List.mem_of_getElem? (i := 72) rfl)) rfl
theorem ms_TuneSetter_read : (.selects R_TuneSetter y_TuneSetter_read y_TuneSetter_read : Cond) ∈ WALL := W_of (in_t2 (List.mem_of_getElem? (i := 73) rfl)) rfl
theorem mc_TuneSetter_place : (.code y_TuneSetter_place b_TuneSetter_place 1 (some .int) : Cond) ∈ WALL := W_of (in_t3 (List.mem_of_getElem? (i := 84) rfl)) rfl
theorem mn_TuneSetter_place : (.instanceMethod y_TuneSetter_place : Cond) ∈ WALL := W_of (in_t3 (List.mem_of_getElem? (i := 82) rfl)) rfl
theorem ms_TuneSetter_place : (.selects R_TuneSetter y_TuneSetter_place y_TuneSetter_place : Cond) ∈ WALL := W_of (in_t3 (List.mem_of_getElem? (i := 83) rfl)) rfl
theorem mc_TuneSetter_bars : (.code y_TuneSetter_bars b_TuneSetter_bars 1 (some .int) : Cond) ∈ WALL := W_of (in_t3 (List.mem_of_getElem? (i := 88) rfl)) rfl
theorem mn_TuneSetter_bars : (.instanceMethod y_TuneSetter_bars : Cond) ∈ WALL := W_of (in_t3 (List.mem_of_getElem? (i := 86) rfl)) rfl
theorem ms_TuneSetter_bars : (.selects R_TuneSetter y_TuneSetter_bars y_TuneSetter_bars : Cond) ∈ WALL := W_of (in_t3 (List.mem_of_getElem? (i := 87) rfl)) rfl
theorem mc_TuneSetter_notes : (.code y_TuneSetter_notes b_TuneSetter_notes 1 (some .int) : Cond) ∈ WALL := W_of (in_t3 (List.mem_of_getElem? (i := 92) rfl)) rfl
theorem mn_TuneSetter_notes : (.instanceMethod y_TuneSetter_notes : Cond) ∈ WALL := W_of (in_t3 (List.mem_of_getElem? (i := 90) rfl)) rfl
theorem ms_TuneSetter_notes : (.selects R_TuneSetter y_TuneSetter_notes y_TuneSetter_notes : Cond) ∈ WALL := W_of (in_t3 (List.mem_of_getElem? (i := 91) rfl)) rfl
theorem mc_TuneSetter_note : (.code y_TuneSetter_note b_TuneSetter_note 3 (some .int) : Cond) ∈ WALL := W_of (in_t3 (List.mem_of_getElem? (i := 96) rfl)) rfl
theorem mn_TuneSetter_note : (.instanceMethod y_TuneSetter_note : Cond) ∈ WALL := W_of (in_t3 (List.mem_of_getElem? (i := 94) rfl)) rfl
theorem ms_TuneSetter_note : (.selects R_TuneSetter y_TuneSetter_note y_TuneSetter_note : Cond) ∈ WALL := W_of (in_t3 (List.mem_of_getElem? (i := 95) rfl)) rfl
theorem mc_TuneSetter_width : (.code y_TuneSetter_width b_TuneSetter_width 2 (some .int) : Cond) ∈ WALL := W_of (in_t3 (List.mem_of_getElem? (i := 101) rfl)) rfl
theorem mn_TuneSetter_width : (.instanceMethod y_TuneSetter_width : Cond) ∈ WALL := W_of (in_t3 (List.mem_of_getElem? (i := 99) rfl)) rfl
theorem ms_TuneSetter_width : (.selects R_TuneSetter y_TuneSetter_width y_TuneSetter_width : Cond) ∈ WALL := W_of (in_t3 (List.mem_of_getElem? (i := 100) rfl)) rfl
theorem mc_NoteFile_put : (.code y_NoteFile_put b_NoteFile_put 2 none : Cond) ∈ WALL := W_of (in_t3 (List.mem_of_getElem? (i := 120) rfl)) rfl
theorem mi_NoteFile : (.initialized R_NoteFile : Cond) ∈ WALL := W_of (in_t1 (List.mem_of_getElem? (i := 7) rfl)) rfl
theorem mn_NoteFile_put : (.instanceMethod y_NoteFile_put : Cond) ∈ WALL := W_of (in_t3 (List.mem_of_getElem? (i := 119) rfl)) rfl
theorem ms_NoteFile_put : (.selects R_NoteFile y_NoteFile_put y_NoteFile_put : Cond) ∈ WALL := W_of (in_t0 (List.mem_of_getElem? (i := 29) rfl)) rfl
theorem mc_NoteFile_putAll : (.code y_NoteFile_putAll b_NoteFile_putAll 6 none : Cond) ∈ WALL := W_of (in_t3 (List.mem_of_getElem? (i := 116) rfl)) rfl
theorem mn_NoteFile_putAll : (.instanceMethod y_NoteFile_putAll : Cond) ∈ WALL := W_of (in_t3 (List.mem_of_getElem? (i := 115) rfl)) rfl
theorem ms_NoteFile_putAll : (.selects R_NoteFile y_NoteFile_putAll y_NoteFile_putAll : Cond) ∈ WALL := W_of (in_t0 (List.mem_of_getElem? (i := 28) rfl)) rfl
theorem mc_NoteFile_sortIn : (.code y_NoteFile_sortIn b_NoteFile_sortIn 3 none : Cond) ∈ WALL := W_of (in_t3 (List.mem_of_getElem? (i := 128) rfl)) rfl
theorem mn_NoteFile_sortIn : (.instanceMethod y_NoteFile_sortIn : Cond) ∈ WALL := W_of (in_t3 (List.mem_of_getElem? (i := 127) rfl)) rfl
theorem ms_NoteFile_sortIn : (.selects R_NoteFile y_NoteFile_sortIn y_NoteFile_sortIn : Cond) ∈ WALL := W_of (in_t0 (List.mem_of_getElem? (i := 31) rfl)) rfl
theorem mc_NoteFile_gatherEvents : (.code y_NoteFile_gatherEvents b_NoteFile_gatherEvents 5 none : Cond) ∈ WALL := W_of (in_t3 (List.mem_of_getElem? (i := 124) rfl)) rfl
theorem mn_NoteFile_gatherEvents : (.instanceMethod y_NoteFile_gatherEvents : Cond) ∈ WALL := W_of (in_t3 (List.mem_of_getElem? (i := 123) rfl)) rfl
theorem ms_NoteFile_gatherEvents : (.selects R_NoteFile y_NoteFile_gatherEvents y_NoteFile_gatherEvents : Cond) ∈ WALL := W_of (in_t0 (List.mem_of_getElem? (i := 30) rfl)) rfl
theorem mc_NoteFile_putTicks : (.code y_NoteFile_putTicks b_NoteFile_putTicks 2 none : Cond) ∈ WALL := W_of (in_t3 (List.mem_of_getElem? (i := 136) rfl)) rfl
theorem mn_NoteFile_putTicks : (.instanceMethod y_NoteFile_putTicks : Cond) ∈ WALL := W_of (in_t3 (List.mem_of_getElem? (i := 135) rfl)) rfl
theorem ms_NoteFile_putTicks : (.selects R_NoteFile y_NoteFile_putTicks y_NoteFile_putTicks : Cond) ∈ WALL := W_of (in_t0 (List.mem_of_getElem? (i := 33) rfl)) rfl
theorem mc_NoteFile_putEvents : (.code y_NoteFile_putEvents b_NoteFile_putEvents 5 none : Cond) ∈ WALL := W_of (in_t3 (List.mem_of_getElem? (i := 132) rfl)) rfl
theorem mn_NoteFile_putEvents : (.instanceMethod y_NoteFile_putEvents : Cond) ∈ WALL := W_of (in_t3 (List.mem_of_getElem? (i := 131) rfl)) rfl
theorem ms_NoteFile_putEvents : (.selects R_NoteFile y_NoteFile_putEvents y_NoteFile_putEvents : Cond) ∈ WALL := W_of (in_t0 (List.mem_of_getElem? (i := 32) rfl)) rfl
theorem mc_NoteFile_putCount : (.code y_NoteFile_putCount b_NoteFile_putCount 3 none : Cond) ∈ WALL := W_of (in_t3 (List.mem_of_getElem? (i := 142) rfl)) rfl
theorem mn_NoteFile_putCount : (.instanceMethod y_NoteFile_putCount : Cond) ∈ WALL := W_of (in_t3 (List.mem_of_getElem? (i := 141) rfl)) rfl
theorem ms_NoteFile_putCount : (.selects R_NoteFile y_NoteFile_putCount y_NoteFile_putCount : Cond) ∈ WALL := W_of (in_t0 (List.mem_of_getElem? (i := 34) rfl)) rfl
theorem mc_NoteFile_make : (.code y_NoteFile_make b_NoteFile_make 2 none : Cond) ∈ WALL := W_of (in_t3 (List.mem_of_getElem? (i := 110) rfl)) rfl
theorem mn_NoteFile_make : (.instanceMethod y_NoteFile_make : Cond) ∈ WALL := W_of (in_t3 (List.mem_of_getElem? (i := 108) rfl)) rfl
theorem ms_NoteFile_make : (.selects R_NoteFile y_NoteFile_make y_NoteFile_make : Cond) ∈ WALL := W_of (in_t3 (List.mem_of_getElem? (i := 109) rfl)) rfl
theorem mc_TuneSetter_write : (.code y_TuneSetter_write b_TuneSetter_write 1 (some .int) : Cond) ∈ WALL := W_of (in_t3 (List.mem_of_getElem? (i := 106) rfl)) rfl
theorem mn_TuneSetter_write : (.instanceMethod y_TuneSetter_write : Cond) ∈ WALL := W_of (in_t3 (List.mem_of_getElem? (i := 104) rfl)) rfl
theorem ms_TuneSetter_write : (.selects R_TuneSetter y_TuneSetter_write y_TuneSetter_write : Cond) ∈ WALL := W_of (in_t3 (List.mem_of_getElem? (i := 105) rfl)) rfl
theorem mc_TuneSetter_byteAt : (.code y_TuneSetter_byteAt b_TuneSetter_byteAt 2 (some .int) : Cond) ∈ WALL := W_of (in_t3 (List.mem_of_getElem? (i := 146) rfl)) rfl
theorem mn_TuneSetter_byteAt : (.instanceMethod y_TuneSetter_byteAt : Cond) ∈ WALL := W_of (in_t3 (List.mem_of_getElem? (i := 144) rfl)) rfl
theorem ms_TuneSetter_byteAt : (.selects R_TuneSetter y_TuneSetter_byteAt y_TuneSetter_byteAt : Cond) ∈ WALL := W_of (in_t3 (List.mem_of_getElem? (i := 145) rfl)) rfl
theorem mc_LineBreaker_solveFrom : (.code y_LineBreaker_solveFrom b_LineBreaker_solveFrom 9 none : Cond) ∈ WALL := W_of (in_t3 (List.mem_of_getElem? (i := 162) rfl)) rfl
theorem mi_LineBreaker : (.initialized R_LineBreaker : Cond) ∈ WALL := W_of (in_t1 (List.mem_of_getElem? (i := 8) rfl)) rfl
theorem mn_LineBreaker_solveFrom : (.instanceMethod y_LineBreaker_solveFrom : Cond) ∈ WALL := W_of (in_t3 (List.mem_of_getElem? (i := 161) rfl)) rfl
theorem ms_LineBreaker_solveFrom : (.selects R_LineBreaker y_LineBreaker_solveFrom y_LineBreaker_solveFrom : Cond) ∈ WALL := W_of (in_t0 (List.mem_of_getElem? (i := 36) rfl)) rfl
theorem mc_LineBreaker_solve : (.code y_LineBreaker_solve b_LineBreaker_solve 4 (some .boolean) : Cond) ∈ WALL := W_of (in_t3 (List.mem_of_getElem? (i := 158) rfl)) rfl
theorem mn_LineBreaker_solve : (.instanceMethod y_LineBreaker_solve : Cond) ∈ WALL := W_of (in_t3 (List.mem_of_getElem? (i := 156) rfl)) rfl
theorem ms_LineBreaker_solve : (.selects R_LineBreaker y_LineBreaker_solve y_LineBreaker_solve : Cond) ∈ WALL := W_of (in_t3 (List.mem_of_getElem? (i := 157) rfl)) rfl
theorem mc_TuneSetter_canBreak : (.code y_TuneSetter_canBreak b_TuneSetter_canBreak 2 (some .boolean) : Cond) ∈ WALL := W_of (in_t3 (List.mem_of_getElem? (i := 154) rfl)) rfl
theorem mn_TuneSetter_canBreak : (.instanceMethod y_TuneSetter_canBreak : Cond) ∈ WALL := W_of (in_t3 (List.mem_of_getElem? (i := 153) rfl)) rfl
theorem ms_TuneSetter_canBreak : (.selects R_TuneSetter y_TuneSetter_canBreak y_TuneSetter_canBreak : Cond) ∈ WALL := W_of (in_t0 (List.mem_of_getElem? (i := 35) rfl)) rfl
theorem mc_TuneSetter_breaking : (.code y_TuneSetter_breaking b_TuneSetter_breaking 2 (some .int) : Cond) ∈ WALL := W_of (in_t3 (List.mem_of_getElem? (i := 150) rfl)) rfl
theorem mn_TuneSetter_breaking : (.instanceMethod y_TuneSetter_breaking : Cond) ∈ WALL := W_of (in_t3 (List.mem_of_getElem? (i := 148) rfl)) rfl
theorem ms_TuneSetter_breaking : (.selects R_TuneSetter y_TuneSetter_breaking y_TuneSetter_breaking : Cond) ∈ WALL := W_of (in_t3 (List.mem_of_getElem? (i := 149) rfl)) rfl
theorem mc_TuneSetter_lines : (.code y_TuneSetter_lines b_TuneSetter_lines 2 (some .int) : Cond) ∈ WALL := W_of (in_t3 (List.mem_of_getElem? (i := 166) rfl)) rfl
theorem mn_TuneSetter_lines : (.instanceMethod y_TuneSetter_lines : Cond) ∈ WALL := W_of (in_t3 (List.mem_of_getElem? (i := 164) rfl)) rfl
theorem ms_TuneSetter_lines : (.selects R_TuneSetter y_TuneSetter_lines y_TuneSetter_lines : Cond) ∈ WALL := W_of (in_t3 (List.mem_of_getElem? (i := 165) rfl)) rfl
theorem mc_TuneSetterModel_metre : (.code y_TuneSetterModel_metre b_TuneSetterModel_metre 4 (some .boolean) : Cond) ∈ WALL := W_of (in_t4 (List.mem_of_getElem? (i := 75) rfl)) rfl
theorem mi_TuneSetterModel : (.initialized R_TuneSetterModel : Cond) ∈ WALL := W_of (in_t1 (List.mem_of_getElem? (i := 9) rfl)) rfl
theorem mn_TuneSetterModel_metre : (.instanceMethod y_TuneSetterModel_metre : Cond) ∈ WALL := W_of (in_t4 (List.mem_of_getElem? (i := 73) rfl)) rfl
theorem ms_TuneSetterModel_metre : (.selects R_TuneSetterModel y_TuneSetterModel_metre y_TuneSetterModel_metre : Cond) ∈ WALL := W_of (in_t4 (List.mem_of_getElem? (i := 74) rfl)) rfl
theorem mc_TuneSetterModel_unit : (.code y_TuneSetterModel_unit b_TuneSetterModel_unit 3 (some .boolean) : Cond) ∈ WALL := W_of (in_t4 (List.mem_of_getElem? (i := 79) rfl)) rfl
theorem mn_TuneSetterModel_unit : (.instanceMethod y_TuneSetterModel_unit : Cond) ∈ WALL := W_of (in_t4 (List.mem_of_getElem? (i := 77) rfl)) rfl
theorem ms_TuneSetterModel_unit : (.selects R_TuneSetterModel y_TuneSetterModel_unit y_TuneSetterModel_unit : Cond) ∈ WALL := W_of (in_t4 (List.mem_of_getElem? (i := 78) rfl)) rfl
theorem mc_TuneSetterModel_key : (.code y_TuneSetterModel_key b_TuneSetterModel_key 3 (some .boolean) : Cond) ∈ WALL := W_of (in_t4 (List.mem_of_getElem? (i := 83) rfl)) rfl
theorem mn_TuneSetterModel_key : (.instanceMethod y_TuneSetterModel_key : Cond) ∈ WALL := W_of (in_t4 (List.mem_of_getElem? (i := 81) rfl)) rfl
theorem ms_TuneSetterModel_key : (.selects R_TuneSetterModel y_TuneSetterModel_key y_TuneSetterModel_key : Cond) ∈ WALL := W_of (in_t4 (List.mem_of_getElem? (i := 82) rfl)) rfl
theorem mc_TuneSetterModel_type : (.code y_TuneSetterModel_type b_TuneSetterModel_type 2 (some .boolean) : Cond) ∈ WALL := W_of (in_t4 (List.mem_of_getElem? (i := 87) rfl)) rfl
theorem mn_TuneSetterModel_type : (.instanceMethod y_TuneSetterModel_type : Cond) ∈ WALL := W_of (in_t4 (List.mem_of_getElem? (i := 85) rfl)) rfl
theorem ms_TuneSetterModel_type : (.selects R_TuneSetterModel y_TuneSetterModel_type y_TuneSetterModel_type : Cond) ∈ WALL := W_of (in_t4 (List.mem_of_getElem? (i := 86) rfl)) rfl
theorem mc_TuneSetterModel_clear : (.code y_TuneSetterModel_clear b_TuneSetterModel_clear 2 (some .int) : Cond) ∈ WALL := W_of (in_t4 (List.mem_of_getElem? (i := 91) rfl)) rfl
theorem mn_TuneSetterModel_clear : (.instanceMethod y_TuneSetterModel_clear : Cond) ∈ WALL := W_of (in_t4 (List.mem_of_getElem? (i := 89) rfl)) rfl
theorem ms_TuneSetterModel_clear : (.selects R_TuneSetterModel y_TuneSetterModel_clear y_TuneSetterModel_clear : Cond) ∈ WALL := W_of (in_t4 (List.mem_of_getElem? (i := 90) rfl)) rfl
theorem mc_TuneSetterModel_goOn : (.code y_TuneSetterModel_goOn b_TuneSetterModel_goOn 7 none : Cond) ∈ WALL := W_of (in_t4 (List.mem_of_getElem? (i := 237) rfl)) rfl
theorem mn_TuneSetterModel_goOn : (.instanceMethod y_TuneSetterModel_goOn : Cond) ∈ WALL := W_of (in_t4 (List.mem_of_getElem? (i := 236) rfl)) rfl
theorem ms_TuneSetterModel_goOn : (.selects R_TuneSetterModel y_TuneSetterModel_goOn y_TuneSetterModel_goOn : Cond) ∈ WALL := W_of (in_t0 (List.mem_of_getElem? (i := 67) rfl)) rfl
theorem mc_TuneSetterModel_sound : (.code y_TuneSetterModel_sound b_TuneSetterModel_sound 5 (some .int) : Cond) ∈ WALL := W_of (in_t4 (List.mem_of_getElem? (i := 233) rfl)) rfl
theorem mn_TuneSetterModel_sound : (.instanceMethod y_TuneSetterModel_sound : Cond) ∈ WALL := W_of (in_t4 (List.mem_of_getElem? (i := 232) rfl)) rfl
theorem ms_TuneSetterModel_sound : (.selects R_TuneSetterModel y_TuneSetterModel_sound y_TuneSetterModel_sound : Cond) ∈ WALL := W_of (in_t0 (List.mem_of_getElem? (i := 66) rfl)) rfl
theorem mc_TuneSetterModel_holds : (.code y_TuneSetterModel_holds b_TuneSetterModel_holds 3 (some .int) : Cond) ∈ WALL := W_of (in_t4 (List.mem_of_getElem? (i := 225) rfl)) rfl
theorem mn_TuneSetterModel_holds : (.instanceMethod y_TuneSetterModel_holds : Cond) ∈ WALL := W_of (in_t4 (List.mem_of_getElem? (i := 224) rfl)) rfl
theorem ms_TuneSetterModel_holds : (.selects R_TuneSetterModel y_TuneSetterModel_holds y_TuneSetterModel_holds : Cond) ∈ WALL := W_of (in_t0 (List.mem_of_getElem? (i := 64) rfl)) rfl
theorem mc_TuneSetterModel_playBar : (.code y_TuneSetterModel_playBar b_TuneSetterModel_playBar 4 none : Cond) ∈ WALL := W_of (in_t4 (List.mem_of_getElem? (i := 229) rfl)) rfl
theorem mn_TuneSetterModel_playBar : (.instanceMethod y_TuneSetterModel_playBar : Cond) ∈ WALL := W_of (in_t4 (List.mem_of_getElem? (i := 228) rfl)) rfl
theorem ms_TuneSetterModel_playBar : (.selects R_TuneSetterModel y_TuneSetterModel_playBar y_TuneSetterModel_playBar : Cond) ∈ WALL := W_of (in_t0 (List.mem_of_getElem? (i := 65) rfl)) rfl
theorem mc_TuneSetterModel_perform : (.code y_TuneSetterModel_perform b_TuneSetterModel_perform 5 (some .int) : Cond) ∈ WALL := W_of (in_t4 (List.mem_of_getElem? (i := 221) rfl)) rfl
theorem mn_TuneSetterModel_perform : (.instanceMethod y_TuneSetterModel_perform : Cond) ∈ WALL := W_of (in_t4 (List.mem_of_getElem? (i := 220) rfl)) rfl
theorem ms_TuneSetterModel_perform : (.selects R_TuneSetterModel y_TuneSetterModel_perform y_TuneSetterModel_perform : Cond) ∈ WALL := W_of (in_t0 (List.mem_of_getElem? (i := 63) rfl)) rfl
theorem mc_TuneSetterModel_goesOnLetter : (.code y_TuneSetterModel_goesOnLetter b_TuneSetterModel_goesOnLetter 2 (some .boolean) : Cond) ∈ WALL := W_of (in_t4 (List.mem_of_getElem? (i := 103) rfl)) rfl
theorem mn_TuneSetterModel_goesOnLetter : (.instanceMethod y_TuneSetterModel_goesOnLetter : Cond) ∈ WALL := W_of (in_t4 (List.mem_of_getElem? (i := 102) rfl)) rfl
theorem ms_TuneSetterModel_goesOnLetter : (.selects R_TuneSetterModel y_TuneSetterModel_goesOnLetter y_TuneSetterModel_goesOnLetter : Cond) ∈ WALL := W_of (in_t0 (List.mem_of_getElem? (i := 38) rfl)) rfl
theorem mc_TuneSetterModel_openNumber : (.code y_TuneSetterModel_openNumber b_TuneSetterModel_openNumber 1 none : Cond) ∈ WALL := W_of (in_t4 (List.mem_of_getElem? (i := 107) rfl)) rfl
theorem mn_TuneSetterModel_openNumber : (.instanceMethod y_TuneSetterModel_openNumber : Cond) ∈ WALL := W_of (in_t4 (List.mem_of_getElem? (i := 106) rfl)) rfl
theorem ms_TuneSetterModel_openNumber : (.selects R_TuneSetterModel y_TuneSetterModel_openNumber y_TuneSetterModel_openNumber : Cond) ∈ WALL := W_of (in_t0 (List.mem_of_getElem? (i := 39) rfl)) rfl
theorem mc_TuneSetterModel_isDigit : (.code y_TuneSetterModel_isDigit b_TuneSetterModel_isDigit 1 (some .boolean) : Cond) ∈ WALL := W_of (in_t4 (List.mem_of_getElem? (i := 110) rfl)) rfl
theorem mn_TuneSetterModel_isDigit : (.static y_TuneSetterModel_isDigit : Cond) ∈ WALL := W_of (in_t4 (List.mem_of_getElem? (i := 109) rfl)) rfl
theorem mc_TuneSetterModel_goesOnNumber : (.code y_TuneSetterModel_goesOnNumber b_TuneSetterModel_goesOnNumber 2 (some .boolean) : Cond) ∈ WALL := W_of (in_t4 (List.mem_of_getElem? (i := 114) rfl)) rfl
theorem mn_TuneSetterModel_goesOnNumber : (.instanceMethod y_TuneSetterModel_goesOnNumber : Cond) ∈ WALL := W_of (in_t4 (List.mem_of_getElem? (i := 113) rfl)) rfl
theorem ms_TuneSetterModel_goesOnNumber : (.selects R_TuneSetterModel y_TuneSetterModel_goesOnNumber y_TuneSetterModel_goesOnNumber : Cond) ∈ WALL := W_of (in_t0 (List.mem_of_getElem? (i := 40) rfl)) rfl
theorem mc_TuneSetterModel_parts : (.code y_TuneSetterModel_parts b_TuneSetterModel_parts 2 (some .int) : Cond) ∈ WALL := W_of (in_t4 (List.mem_of_getElem? (i := 122) rfl)) rfl
theorem mn_TuneSetterModel_parts : (.instanceMethod y_TuneSetterModel_parts : Cond) ∈ WALL := W_of (in_t4 (List.mem_of_getElem? (i := 121) rfl)) rfl
theorem ms_TuneSetterModel_parts : (.selects R_TuneSetterModel y_TuneSetterModel_parts y_TuneSetterModel_parts : Cond) ∈ WALL := W_of (in_t0 (List.mem_of_getElem? (i := 42) rfl)) rfl
theorem mc_TuneSetterModel_divisor : (.code y_TuneSetterModel_divisor b_TuneSetterModel_divisor 2 (some .int) : Cond) ∈ WALL := W_of (in_t4 (List.mem_of_getElem? (i := 126) rfl)) rfl
theorem mn_TuneSetterModel_divisor : (.instanceMethod y_TuneSetterModel_divisor : Cond) ∈ WALL := W_of (in_t4 (List.mem_of_getElem? (i := 125) rfl)) rfl
theorem ms_TuneSetterModel_divisor : (.selects R_TuneSetterModel y_TuneSetterModel_divisor y_TuneSetterModel_divisor : Cond) ∈ WALL := W_of (in_t0 (List.mem_of_getElem? (i := 43) rfl)) rfl
theorem mc_TuneSetterModel_hasLength : (.code y_TuneSetterModel_hasLength b_TuneSetterModel_hasLength 3 (some .boolean) : Cond) ∈ WALL := W_of (in_t4 (List.mem_of_getElem? (i := 118) rfl)) rfl
theorem mn_TuneSetterModel_hasLength : (.instanceMethod y_TuneSetterModel_hasLength : Cond) ∈ WALL := W_of (in_t4 (List.mem_of_getElem? (i := 117) rfl)) rfl
theorem ms_TuneSetterModel_hasLength : (.selects R_TuneSetterModel y_TuneSetterModel_hasLength y_TuneSetterModel_hasLength : Cond) ∈ WALL := W_of (in_t0 (List.mem_of_getElem? (i := 41) rfl)) rfl
theorem mc_TuneSetterModel_placeOf : (.code y_TuneSetterModel_placeOf b_TuneSetterModel_placeOf 1 (some .int) : Cond) ∈ WALL := W_of (in_t4 (List.mem_of_getElem? (i := 133) rfl)) rfl
theorem mn_TuneSetterModel_placeOf : (.static y_TuneSetterModel_placeOf : Cond) ∈ WALL := W_of (in_t4 (List.mem_of_getElem? (i := 132) rfl)) rfl
theorem mc_TuneSetterModel_plainOf : (.code y_TuneSetterModel_plainOf b_TuneSetterModel_plainOf 1 (some .int) : Cond) ∈ WALL := W_of (in_t4 (List.mem_of_getElem? (i := 136) rfl)) rfl
theorem mn_TuneSetterModel_plainOf : (.static y_TuneSetterModel_plainOf : Cond) ∈ WALL := W_of (in_t4 (List.mem_of_getElem? (i := 135) rfl)) rfl
theorem mc_TuneSetterModel_toneOf : (.code y_TuneSetterModel_toneOf b_TuneSetterModel_toneOf 4 (some .int) : Cond) ∈ WALL := W_of (in_t4 (List.mem_of_getElem? (i := 130) rfl)) rfl
theorem mn_TuneSetterModel_toneOf : (.instanceMethod y_TuneSetterModel_toneOf : Cond) ∈ WALL := W_of (in_t4 (List.mem_of_getElem? (i := 129) rfl)) rfl
theorem ms_TuneSetterModel_toneOf : (.selects R_TuneSetterModel y_TuneSetterModel_toneOf y_TuneSetterModel_toneOf : Cond) ∈ WALL := W_of (in_t0 (List.mem_of_getElem? (i := 44) rfl)) rfl
theorem mc_TuneSetterModel_noteDone : (.code y_TuneSetterModel_noteDone b_TuneSetterModel_noteDone 2 none : Cond) ∈ WALL := W_of (in_t4 (List.mem_of_getElem? (i := 140) rfl)) rfl
theorem mn_TuneSetterModel_noteDone : (.instanceMethod y_TuneSetterModel_noteDone : Cond) ∈ WALL := W_of (in_t4 (List.mem_of_getElem? (i := 139) rfl)) rfl
theorem ms_TuneSetterModel_noteDone : (.selects R_TuneSetterModel y_TuneSetterModel_noteDone y_TuneSetterModel_noteDone : Cond) ∈ WALL := W_of (in_t0 (List.mem_of_getElem? (i := 45) rfl)) rfl
theorem mc_TuneSetterModel_beginLine : (.code y_TuneSetterModel_beginLine b_TuneSetterModel_beginLine 3 (some .int) : Cond) ∈ WALL := W_of (in_t4 (List.mem_of_getElem? (i := 185) rfl)) rfl
theorem mn_TuneSetterModel_beginLine : (.instanceMethod y_TuneSetterModel_beginLine : Cond) ∈ WALL := W_of (in_t4 (List.mem_of_getElem? (i := 184) rfl)) rfl
theorem ms_TuneSetterModel_beginLine : (.selects R_TuneSetterModel y_TuneSetterModel_beginLine y_TuneSetterModel_beginLine : Cond) ∈ WALL := W_of (in_t0 (List.mem_of_getElem? (i := 54) rfl)) rfl
theorem mc_TuneSetterModel_letterOf : (.code y_TuneSetterModel_letterOf b_TuneSetterModel_letterOf 1 (some .int) : Cond) ∈ WALL := W_of (in_t4 (List.mem_of_getElem? (i := 161) rfl)) rfl
theorem mn_TuneSetterModel_letterOf : (.static y_TuneSetterModel_letterOf : Cond) ∈ WALL := W_of (in_t4 (List.mem_of_getElem? (i := 160) rfl)) rfl
theorem mc_TuneSetterModel_beginsNote : (.code y_TuneSetterModel_beginsNote b_TuneSetterModel_beginsNote 1 (some .boolean) : Cond) ∈ WALL := W_of (in_t4 (List.mem_of_getElem? (i := 158) rfl)) rfl
theorem mn_TuneSetterModel_beginsNote : (.static y_TuneSetterModel_beginsNote : Cond) ∈ WALL := W_of (in_t4 (List.mem_of_getElem? (i := 157) rfl)) rfl
theorem mc_TuneSetterModel_beginsItem : (.code y_TuneSetterModel_beginsItem b_TuneSetterModel_beginsItem 1 (some .boolean) : Cond) ∈ WALL := W_of (in_t4 (List.mem_of_getElem? (i := 155) rfl)) rfl
theorem mn_TuneSetterModel_beginsItem : (.static y_TuneSetterModel_beginsItem : Cond) ∈ WALL := W_of (in_t4 (List.mem_of_getElem? (i := 154) rfl)) rfl
theorem mc_TuneSetterModel_full : (.code y_TuneSetterModel_full b_TuneSetterModel_full 1 (some .int) : Cond) ∈ WALL := W_of (in_t4 (List.mem_of_getElem? (i := 181) rfl)) rfl
theorem mn_TuneSetterModel_full : (.instanceMethod y_TuneSetterModel_full : Cond) ∈ WALL := W_of (in_t4 (List.mem_of_getElem? (i := 180) rfl)) rfl
theorem ms_TuneSetterModel_full : (.selects R_TuneSetterModel y_TuneSetterModel_full y_TuneSetterModel_full : Cond) ∈ WALL := W_of (in_t0 (List.mem_of_getElem? (i := 53) rfl)) rfl
theorem mc_TuneSetterModel_openItem : (.code y_TuneSetterModel_openItem b_TuneSetterModel_openItem 1 none : Cond) ∈ WALL := W_of (in_t4 (List.mem_of_getElem? (i := 165) rfl)) rfl
theorem mn_TuneSetterModel_openItem : (.instanceMethod y_TuneSetterModel_openItem : Cond) ∈ WALL := W_of (in_t4 (List.mem_of_getElem? (i := 164) rfl)) rfl
theorem ms_TuneSetterModel_openItem : (.selects R_TuneSetterModel y_TuneSetterModel_openItem y_TuneSetterModel_openItem : Cond) ∈ WALL := W_of (in_t0 (List.mem_of_getElem? (i := 49) rfl)) rfl
theorem mc_TuneSetterModel_openLetter : (.code y_TuneSetterModel_openLetter b_TuneSetterModel_openLetter 2 none : Cond) ∈ WALL := W_of (in_t4 (List.mem_of_getElem? (i := 177) rfl)) rfl
theorem mn_TuneSetterModel_openLetter : (.instanceMethod y_TuneSetterModel_openLetter : Cond) ∈ WALL := W_of (in_t4 (List.mem_of_getElem? (i := 176) rfl)) rfl
theorem ms_TuneSetterModel_openLetter : (.selects R_TuneSetterModel y_TuneSetterModel_openLetter y_TuneSetterModel_openLetter : Cond) ∈ WALL := W_of (in_t0 (List.mem_of_getElem? (i := 52) rfl)) rfl
theorem mc_TuneSetterModel_beginNote : (.code y_TuneSetterModel_beginNote b_TuneSetterModel_beginNote 2 (some .int) : Cond) ∈ WALL := W_of (in_t4 (List.mem_of_getElem? (i := 173) rfl)) rfl
theorem mn_TuneSetterModel_beginNote : (.instanceMethod y_TuneSetterModel_beginNote : Cond) ∈ WALL := W_of (in_t4 (List.mem_of_getElem? (i := 172) rfl)) rfl
theorem ms_TuneSetterModel_beginNote : (.selects R_TuneSetterModel y_TuneSetterModel_beginNote y_TuneSetterModel_beginNote : Cond) ∈ WALL := W_of (in_t0 (List.mem_of_getElem? (i := 51) rfl)) rfl
theorem mc_TuneSetterModel_core : (.code y_TuneSetterModel_core b_TuneSetterModel_core 2 (some .int) : Cond) ∈ WALL := W_of (in_t4 (List.mem_of_getElem? (i := 169) rfl)) rfl
theorem mn_TuneSetterModel_core : (.instanceMethod y_TuneSetterModel_core : Cond) ∈ WALL := W_of (in_t4 (List.mem_of_getElem? (i := 168) rfl)) rfl
theorem ms_TuneSetterModel_core : (.selects R_TuneSetterModel y_TuneSetterModel_core y_TuneSetterModel_core : Cond) ∈ WALL := W_of (in_t0 (List.mem_of_getElem? (i := 50) rfl)) rfl
theorem mc_TuneSetterModel_beginItem : (.code y_TuneSetterModel_beginItem b_TuneSetterModel_beginItem 2 (some .int) : Cond) ∈ WALL := W_of (in_t4 (List.mem_of_getElem? (i := 152) rfl)) rfl
theorem mn_TuneSetterModel_beginItem : (.instanceMethod y_TuneSetterModel_beginItem : Cond) ∈ WALL := W_of (in_t4 (List.mem_of_getElem? (i := 151) rfl)) rfl
theorem ms_TuneSetterModel_beginItem : (.selects R_TuneSetterModel y_TuneSetterModel_beginItem y_TuneSetterModel_beginItem : Cond) ∈ WALL := W_of (in_t0 (List.mem_of_getElem? (i := 48) rfl)) rfl
theorem mc_TuneSetterModel_beginBar : (.code y_TuneSetterModel_beginBar b_TuneSetterModel_beginBar 5 (some .int) : Cond) ∈ WALL := W_of (in_t4 (List.mem_of_getElem? (i := 201) rfl)) rfl
theorem mn_TuneSetterModel_beginBar : (.instanceMethod y_TuneSetterModel_beginBar : Cond) ∈ WALL := W_of (in_t4 (List.mem_of_getElem? (i := 200) rfl)) rfl
theorem ms_TuneSetterModel_beginBar : (.selects R_TuneSetterModel y_TuneSetterModel_beginBar y_TuneSetterModel_beginBar : Cond) ∈ WALL := W_of (in_t0 (List.mem_of_getElem? (i := 58) rfl)) rfl
theorem mc_TuneSetterModel_behind : (.code y_TuneSetterModel_behind b_TuneSetterModel_behind 3 (some .int) : Cond) ∈ WALL := W_of (in_t4 (List.mem_of_getElem? (i := 209) rfl)) rfl
theorem mn_TuneSetterModel_behind : (.instanceMethod y_TuneSetterModel_behind : Cond) ∈ WALL := W_of (in_t4 (List.mem_of_getElem? (i := 208) rfl)) rfl
theorem ms_TuneSetterModel_behind : (.selects R_TuneSetterModel y_TuneSetterModel_behind y_TuneSetterModel_behind : Cond) ∈ WALL := W_of (in_t0 (List.mem_of_getElem? (i := 60) rfl)) rfl
theorem mc_TuneSetterModel_goOnLine : (.code y_TuneSetterModel_goOnLine b_TuneSetterModel_goOnLine 4 (some .int) : Cond) ∈ WALL := W_of (in_t4 (List.mem_of_getElem? (i := 205) rfl)) rfl
theorem mn_TuneSetterModel_goOnLine : (.instanceMethod y_TuneSetterModel_goOnLine : Cond) ∈ WALL := W_of (in_t4 (List.mem_of_getElem? (i := 204) rfl)) rfl
theorem ms_TuneSetterModel_goOnLine : (.selects R_TuneSetterModel y_TuneSetterModel_goOnLine y_TuneSetterModel_goOnLine : Cond) ∈ WALL := W_of (in_t0 (List.mem_of_getElem? (i := 59) rfl)) rfl
theorem mc_TuneSetterModel_inChord : (.code y_TuneSetterModel_inChord b_TuneSetterModel_inChord 3 (some .int) : Cond) ∈ WALL := W_of (in_t4 (List.mem_of_getElem? (i := 193) rfl)) rfl
theorem mn_TuneSetterModel_inChord : (.instanceMethod y_TuneSetterModel_inChord : Cond) ∈ WALL := W_of (in_t4 (List.mem_of_getElem? (i := 192) rfl)) rfl
theorem ms_TuneSetterModel_inChord : (.selects R_TuneSetterModel y_TuneSetterModel_inChord y_TuneSetterModel_inChord : Cond) ∈ WALL := W_of (in_t0 (List.mem_of_getElem? (i := 56) rfl)) rfl
theorem mc_TuneSetterModel_openChord : (.code y_TuneSetterModel_openChord b_TuneSetterModel_openChord 2 (some .int) : Cond) ∈ WALL := W_of (in_t4 (List.mem_of_getElem? (i := 213) rfl)) rfl
theorem mn_TuneSetterModel_openChord : (.instanceMethod y_TuneSetterModel_openChord : Cond) ∈ WALL := W_of (in_t4 (List.mem_of_getElem? (i := 212) rfl)) rfl
theorem ms_TuneSetterModel_openChord : (.selects R_TuneSetterModel y_TuneSetterModel_openChord y_TuneSetterModel_openChord : Cond) ∈ WALL := W_of (in_t0 (List.mem_of_getElem? (i := 61) rfl)) rfl
theorem mc_TuneSetterModel_goOnSign : (.code y_TuneSetterModel_goOnSign b_TuneSetterModel_goOnSign 2 (some .int) : Cond) ∈ WALL := W_of (in_t4 (List.mem_of_getElem? (i := 217) rfl)) rfl
theorem mn_TuneSetterModel_goOnSign : (.instanceMethod y_TuneSetterModel_goOnSign : Cond) ∈ WALL := W_of (in_t4 (List.mem_of_getElem? (i := 216) rfl)) rfl
theorem ms_TuneSetterModel_goOnSign : (.selects R_TuneSetterModel y_TuneSetterModel_goOnSign y_TuneSetterModel_goOnSign : Cond) ∈ WALL := W_of (in_t0 (List.mem_of_getElem? (i := 62) rfl)) rfl
theorem mc_TuneSetterModel_inside : (.code y_TuneSetterModel_inside b_TuneSetterModel_inside 3 (some .int) : Cond) ∈ WALL := W_of (in_t4 (List.mem_of_getElem? (i := 148) rfl)) rfl
theorem mn_TuneSetterModel_inside : (.instanceMethod y_TuneSetterModel_inside : Cond) ∈ WALL := W_of (in_t4 (List.mem_of_getElem? (i := 147) rfl)) rfl
theorem ms_TuneSetterModel_inside : (.selects R_TuneSetterModel y_TuneSetterModel_inside y_TuneSetterModel_inside : Cond) ∈ WALL := W_of (in_t0 (List.mem_of_getElem? (i := 47) rfl)) rfl
theorem mc_TuneSetterModel_go : (.code y_TuneSetterModel_go b_TuneSetterModel_go 3 (some .int) : Cond) ∈ WALL := W_of (in_t4 (List.mem_of_getElem? (i := 197) rfl)) rfl
theorem mn_TuneSetterModel_go : (.instanceMethod y_TuneSetterModel_go : Cond) ∈ WALL := W_of (in_t4 (List.mem_of_getElem? (i := 196) rfl)) rfl
theorem ms_TuneSetterModel_go : (.selects R_TuneSetterModel y_TuneSetterModel_go y_TuneSetterModel_go : Cond) ∈ WALL := W_of (in_t0 (List.mem_of_getElem? (i := 57) rfl)) rfl
theorem mc_TuneSetterModel_count : (.code y_TuneSetterModel_count b_TuneSetterModel_count 2 none : Cond) ∈ WALL := W_of (in_t4 (List.mem_of_getElem? (i := 189) rfl)) rfl
theorem mn_TuneSetterModel_count : (.instanceMethod y_TuneSetterModel_count : Cond) ∈ WALL := W_of (in_t4 (List.mem_of_getElem? (i := 188) rfl)) rfl
theorem ms_TuneSetterModel_count : (.selects R_TuneSetterModel y_TuneSetterModel_count y_TuneSetterModel_count : Cond) ∈ WALL := W_of (in_t0 (List.mem_of_getElem? (i := 55) rfl)) rfl
theorem mc_TuneSetterModel_itemDone : (.code y_TuneSetterModel_itemDone b_TuneSetterModel_itemDone 1 none : Cond) ∈ WALL := W_of (in_t4 (List.mem_of_getElem? (i := 144) rfl)) rfl
theorem mn_TuneSetterModel_itemDone : (.instanceMethod y_TuneSetterModel_itemDone : Cond) ∈ WALL := W_of (in_t4 (List.mem_of_getElem? (i := 143) rfl)) rfl
theorem ms_TuneSetterModel_itemDone : (.selects R_TuneSetterModel y_TuneSetterModel_itemDone y_TuneSetterModel_itemDone : Cond) ∈ WALL := W_of (in_t0 (List.mem_of_getElem? (i := 46) rfl)) rfl
theorem mc_TuneSetterModel_next : (.code y_TuneSetterModel_next b_TuneSetterModel_next 7 (some .int) : Cond) ∈ WALL := W_of (in_t4 (List.mem_of_getElem? (i := 99) rfl)) rfl
theorem mn_TuneSetterModel_next : (.instanceMethod y_TuneSetterModel_next : Cond) ∈ WALL := W_of (in_t4 (List.mem_of_getElem? (i := 98) rfl)) rfl
theorem ms_TuneSetterModel_next : (.selects R_TuneSetterModel y_TuneSetterModel_next y_TuneSetterModel_next : Cond) ∈ WALL := W_of (in_t0 (List.mem_of_getElem? (i := 37) rfl)) rfl
theorem mc_TuneSetterModel_read : (.code y_TuneSetterModel_read b_TuneSetterModel_read 3 (some .int) : Cond) ∈ WALL := W_of (in_t4 (List.mem_of_getElem? (i := 95) rfl)) rfl
theorem mn_TuneSetterModel_read : (.instanceMethod y_TuneSetterModel_read : Cond) ∈ WALL := W_of (in_t4 (List.mem_of_getElem? (i := 93) rfl)) rfl
theorem ms_TuneSetterModel_read : (.selects R_TuneSetterModel y_TuneSetterModel_read y_TuneSetterModel_read : Cond) ∈ WALL := W_of (in_t4 (List.mem_of_getElem? (i := 94) rfl)) rfl
theorem mc_TuneSetterModel_place : (.code y_TuneSetterModel_place b_TuneSetterModel_place 1 (some .int) : Cond) ∈ WALL := W_of (in_t5 (List.mem_of_getElem? (i := 1) rfl)) rfl
theorem mn_TuneSetterModel_place : (.instanceMethod y_TuneSetterModel_place : Cond) ∈ WALL := W_of (in_t4 (List.mem_of_getElem? (i := 239) rfl)) rfl
theorem ms_TuneSetterModel_place : (.selects R_TuneSetterModel y_TuneSetterModel_place y_TuneSetterModel_place : Cond) ∈ WALL := W_of (in_t5 (List.mem_of_getElem? (i := 0) rfl)) rfl
theorem mc_TuneSetterModel_bars : (.code y_TuneSetterModel_bars b_TuneSetterModel_bars 1 (some .int) : Cond) ∈ WALL := W_of (in_t5 (List.mem_of_getElem? (i := 5) rfl)) rfl
theorem mn_TuneSetterModel_bars : (.instanceMethod y_TuneSetterModel_bars : Cond) ∈ WALL := W_of (in_t5 (List.mem_of_getElem? (i := 3) rfl)) rfl
theorem ms_TuneSetterModel_bars : (.selects R_TuneSetterModel y_TuneSetterModel_bars y_TuneSetterModel_bars : Cond) ∈ WALL := W_of (in_t5 (List.mem_of_getElem? (i := 4) rfl)) rfl
theorem mc_TuneSetterModel_notes : (.code y_TuneSetterModel_notes b_TuneSetterModel_notes 1 (some .int) : Cond) ∈ WALL := W_of (in_t5 (List.mem_of_getElem? (i := 9) rfl)) rfl
theorem mn_TuneSetterModel_notes : (.instanceMethod y_TuneSetterModel_notes : Cond) ∈ WALL := W_of (in_t5 (List.mem_of_getElem? (i := 7) rfl)) rfl
theorem ms_TuneSetterModel_notes : (.selects R_TuneSetterModel y_TuneSetterModel_notes y_TuneSetterModel_notes : Cond) ∈ WALL := W_of (in_t5 (List.mem_of_getElem? (i := 8) rfl)) rfl
theorem mc_TuneSetterModel_note : (.code y_TuneSetterModel_note b_TuneSetterModel_note 3 (some .int) : Cond) ∈ WALL := W_of (in_t5 (List.mem_of_getElem? (i := 13) rfl)) rfl
theorem mn_TuneSetterModel_note : (.instanceMethod y_TuneSetterModel_note : Cond) ∈ WALL := W_of (in_t5 (List.mem_of_getElem? (i := 11) rfl)) rfl
theorem ms_TuneSetterModel_note : (.selects R_TuneSetterModel y_TuneSetterModel_note y_TuneSetterModel_note : Cond) ∈ WALL := W_of (in_t5 (List.mem_of_getElem? (i := 12) rfl)) rfl
theorem mc_TuneSetterModel_widthOf : (.code y_TuneSetterModel_widthOf b_TuneSetterModel_widthOf 6 (some .int) : Cond) ∈ WALL := W_of (in_t5 (List.mem_of_getElem? (i := 21) rfl)) rfl
theorem mn_TuneSetterModel_widthOf : (.instanceMethod y_TuneSetterModel_widthOf : Cond) ∈ WALL := W_of (in_t5 (List.mem_of_getElem? (i := 20) rfl)) rfl
theorem ms_TuneSetterModel_widthOf : (.selects R_TuneSetterModel y_TuneSetterModel_widthOf y_TuneSetterModel_widthOf : Cond) ∈ WALL := W_of (in_t0 (List.mem_of_getElem? (i := 68) rfl)) rfl
theorem mc_TuneSetterModel_width : (.code y_TuneSetterModel_width b_TuneSetterModel_width 2 (some .int) : Cond) ∈ WALL := W_of (in_t5 (List.mem_of_getElem? (i := 17) rfl)) rfl
theorem mn_TuneSetterModel_width : (.instanceMethod y_TuneSetterModel_width : Cond) ∈ WALL := W_of (in_t5 (List.mem_of_getElem? (i := 15) rfl)) rfl
theorem ms_TuneSetterModel_width : (.selects R_TuneSetterModel y_TuneSetterModel_width y_TuneSetterModel_width : Cond) ∈ WALL := W_of (in_t5 (List.mem_of_getElem? (i := 16) rfl)) rfl
theorem mc_TuneSetterModel_emit : (.code y_TuneSetterModel_emit b_TuneSetterModel_emit 2 none : Cond) ∈ WALL := W_of (in_t5 (List.mem_of_getElem? (i := 40) rfl)) rfl
theorem mn_TuneSetterModel_emit : (.instanceMethod y_TuneSetterModel_emit : Cond) ∈ WALL := W_of (in_t5 (List.mem_of_getElem? (i := 39) rfl)) rfl
theorem ms_TuneSetterModel_emit : (.selects R_TuneSetterModel y_TuneSetterModel_emit y_TuneSetterModel_emit : Cond) ∈ WALL := W_of (in_t0 (List.mem_of_getElem? (i := 71) rfl)) rfl
theorem mc_TuneSetterModel_heading : (.code y_TuneSetterModel_heading b_TuneSetterModel_heading 3 none : Cond) ∈ WALL := W_of (in_t5 (List.mem_of_getElem? (i := 45) rfl)) rfl
theorem mn_TuneSetterModel_heading : (.instanceMethod y_TuneSetterModel_heading : Cond) ∈ WALL := W_of (in_t5 (List.mem_of_getElem? (i := 44) rfl)) rfl
theorem ms_TuneSetterModel_heading : (.selects R_TuneSetterModel y_TuneSetterModel_heading y_TuneSetterModel_heading : Cond) ∈ WALL := W_of (in_t0 (List.mem_of_getElem? (i := 72) rfl)) rfl
theorem mc_TuneSetterModel_order : (.code y_TuneSetterModel_order b_TuneSetterModel_order 6 (some .long) : Cond) ∈ WALL := W_of (in_t5 (List.mem_of_getElem? (i := 30) rfl)) rfl
theorem mn_TuneSetterModel_order : (.instanceMethod y_TuneSetterModel_order : Cond) ∈ WALL := W_of (in_t5 (List.mem_of_getElem? (i := 29) rfl)) rfl
theorem ms_TuneSetterModel_order : (.selects R_TuneSetterModel y_TuneSetterModel_order y_TuneSetterModel_order : Cond) ∈ WALL := W_of (in_t0 (List.mem_of_getElem? (i := 69) rfl)) rfl
theorem mc_TuneSetterModel_emitGap : (.code y_TuneSetterModel_emitGap b_TuneSetterModel_emitGap 2 none : Cond) ∈ WALL := W_of (in_t5 (List.mem_of_getElem? (i := 36) rfl)) rfl
theorem mn_TuneSetterModel_emitGap : (.instanceMethod y_TuneSetterModel_emitGap : Cond) ∈ WALL := W_of (in_t5 (List.mem_of_getElem? (i := 35) rfl)) rfl
theorem ms_TuneSetterModel_emitGap : (.selects R_TuneSetterModel y_TuneSetterModel_emitGap y_TuneSetterModel_emitGap : Cond) ∈ WALL := W_of (in_t0 (List.mem_of_getElem? (i := 70) rfl)) rfl
theorem mc_TuneSetterModel_write : (.code y_TuneSetterModel_write b_TuneSetterModel_write 11 (some .int) : Cond) ∈ WALL := W_of (in_t5 (List.mem_of_getElem? (i := 25) rfl)) rfl
theorem mn_TuneSetterModel_write : (.instanceMethod y_TuneSetterModel_write : Cond) ∈ WALL := W_of (in_t5 (List.mem_of_getElem? (i := 23) rfl)) rfl
theorem ms_TuneSetterModel_write : (.selects R_TuneSetterModel y_TuneSetterModel_write y_TuneSetterModel_write : Cond) ∈ WALL := W_of (in_t5 (List.mem_of_getElem? (i := 24) rfl)) rfl
theorem mc_TuneSetterModel_byteAt : (.code y_TuneSetterModel_byteAt b_TuneSetterModel_byteAt 2 (some .int) : Cond) ∈ WALL := W_of (in_t5 (List.mem_of_getElem? (i := 49) rfl)) rfl
theorem mn_TuneSetterModel_byteAt : (.instanceMethod y_TuneSetterModel_byteAt : Cond) ∈ WALL := W_of (in_t5 (List.mem_of_getElem? (i := 47) rfl)) rfl
theorem ms_TuneSetterModel_byteAt : (.selects R_TuneSetterModel y_TuneSetterModel_byteAt y_TuneSetterModel_byteAt : Cond) ∈ WALL := W_of (in_t5 (List.mem_of_getElem? (i := 48) rfl)) rfl
theorem mc_TuneSetterModel_broken : (.code y_TuneSetterModel_broken b_TuneSetterModel_broken 9 (some .boolean) : Cond) ∈ WALL := W_of (in_t5 (List.mem_of_getElem? (i := 57) rfl)) rfl
theorem mn_TuneSetterModel_broken : (.instanceMethod y_TuneSetterModel_broken : Cond) ∈ WALL := W_of (in_t5 (List.mem_of_getElem? (i := 56) rfl)) rfl
theorem ms_TuneSetterModel_broken : (.selects R_TuneSetterModel y_TuneSetterModel_broken y_TuneSetterModel_broken : Cond) ∈ WALL := W_of (in_t0 (List.mem_of_getElem? (i := 73) rfl)) rfl
theorem mc_TuneSetterModel_breaking : (.code y_TuneSetterModel_breaking b_TuneSetterModel_breaking 2 (some .int) : Cond) ∈ WALL := W_of (in_t5 (List.mem_of_getElem? (i := 53) rfl)) rfl
theorem mn_TuneSetterModel_breaking : (.instanceMethod y_TuneSetterModel_breaking : Cond) ∈ WALL := W_of (in_t5 (List.mem_of_getElem? (i := 51) rfl)) rfl
theorem ms_TuneSetterModel_breaking : (.selects R_TuneSetterModel y_TuneSetterModel_breaking y_TuneSetterModel_breaking : Cond) ∈ WALL := W_of (in_t5 (List.mem_of_getElem? (i := 52) rfl)) rfl
theorem mc_TuneSetterModel_lines : (.code y_TuneSetterModel_lines b_TuneSetterModel_lines 2 (some .int) : Cond) ∈ WALL := W_of (in_t5 (List.mem_of_getElem? (i := 61) rfl)) rfl
theorem mn_TuneSetterModel_lines : (.instanceMethod y_TuneSetterModel_lines : Cond) ∈ WALL := W_of (in_t5 (List.mem_of_getElem? (i := 59) rfl)) rfl
theorem ms_TuneSetterModel_lines : (.selects R_TuneSetterModel y_TuneSetterModel_lines y_TuneSetterModel_lines : Cond) ∈ WALL := W_of (in_t5 (List.mem_of_getElem? (i := 60) rfl)) rfl
theorem mc_Tune_init : (.code y_Tune_init b_Tune_init 1 none : Cond) ∈ WALL := W_of (in_t1 (List.mem_of_getElem? (i := 29) rfl)) rfl
theorem mn_Tune_init : (.instanceMethod y_Tune_init : Cond) ∈ WALL := W_of (in_t1 (List.mem_of_getElem? (i := 28) rfl)) rfl
theorem mc_PitchFinder_init : (.code y_PitchFinder_init b_PitchFinder_init 1 none : Cond) ∈ WALL := W_of (in_t1 (List.mem_of_getElem? (i := 89) rfl)) rfl
theorem mn_PitchFinder_init : (.instanceMethod y_PitchFinder_init : Cond) ∈ WALL := W_of (in_t1 (List.mem_of_getElem? (i := 88) rfl)) rfl
theorem mc_ItemLength_init : (.code y_ItemLength_init b_ItemLength_init 1 none : Cond) ∈ WALL := W_of (in_t1 (List.mem_of_getElem? (i := 111) rfl)) rfl
theorem mn_ItemLength_init : (.instanceMethod y_ItemLength_init : Cond) ∈ WALL := W_of (in_t1 (List.mem_of_getElem? (i := 110) rfl)) rfl
theorem mc_Reader_init : (.code y_Reader_init b_Reader_init 1 none : Cond) ∈ WALL := W_of (in_t1 (List.mem_of_getElem? (i := 23) rfl)) rfl
theorem mn_Reader_init : (.instanceMethod y_Reader_init : Cond) ∈ WALL := W_of (in_t1 (List.mem_of_getElem? (i := 22) rfl)) rfl
theorem mc_Playing_init : (.code y_Playing_init b_Playing_init 1 none : Cond) ∈ WALL := W_of (in_t1 (List.mem_of_getElem? (i := 179) rfl)) rfl
theorem mn_Playing_init : (.instanceMethod y_Playing_init : Cond) ∈ WALL := W_of (in_t1 (List.mem_of_getElem? (i := 178) rfl)) rfl
theorem mc_NoteFile_init : (.code y_NoteFile_init b_NoteFile_init 1 none : Cond) ∈ WALL := W_of (in_t1 (List.mem_of_getElem? (i := 225) rfl)) rfl
theorem mn_NoteFile_init : (.instanceMethod y_NoteFile_init : Cond) ∈ WALL := W_of (in_t1 (List.mem_of_getElem? (i := 224) rfl)) rfl
theorem mc_LineBreaker_init : (.code y_LineBreaker_init b_LineBreaker_init 1 none : Cond) ∈ WALL := W_of (in_t2 (List.mem_of_getElem? (i := 6) rfl)) rfl
theorem mn_LineBreaker_init : (.instanceMethod y_LineBreaker_init : Cond) ∈ WALL := W_of (in_t2 (List.mem_of_getElem? (i := 5) rfl)) rfl
theorem mc_TuneSetter_init : (.code y_TuneSetter_init b_TuneSetter_init 1 none : Cond) ∈ WALL := W_of (in_t1 (List.mem_of_getElem? (i := 15) rfl)) rfl
theorem mn_TuneSetter_init : (.instanceMethod y_TuneSetter_init : Cond) ∈ WALL := W_of (in_t1 (List.mem_of_getElem? (i := 14) rfl)) rfl
theorem mc_TuneSetterModel_init : (.code y_TuneSetterModel_init b_TuneSetterModel_init 1 none : Cond) ∈ WALL := W_of (in_t3 (List.mem_of_getElem? (i := 171) rfl)) rfl
theorem mn_TuneSetterModel_init : (.instanceMethod y_TuneSetterModel_init : Cond) ∈ WALL := W_of (in_t3 (List.mem_of_getElem? (i := 170) rfl)) rfl
theorem m_TuneSetter_41 : (.fieldLink R_TuneSetter 41 "TuneSetter" "fullBar" "I" : Cond) ∈ WALL := W_of (in_t2 (List.mem_of_getElem? (i := 23) rfl)) rfl
theorem m_TuneSetter_45 : (.fieldLink R_TuneSetter 45 "TuneSetter" "unitTicks" "I" : Cond) ∈ WALL := W_of (in_t2 (List.mem_of_getElem? (i := 24) rfl)) rfl
theorem m_TuneSetter_51 : (.fieldLink R_TuneSetter 51 "TuneSetter" "sharps" "I" : Cond) ∈ WALL := W_of (in_t2 (List.mem_of_getElem? (i := 25) rfl)) rfl
theorem m_TuneSetter_54 : (.fieldLink R_TuneSetter 54 "TuneSetter" "textSize" "I" : Cond) ∈ WALL := W_of (in_t2 (List.mem_of_getElem? (i := 22) rfl)) rfl
theorem m_TuneSetter_9 : (.fieldLink R_TuneSetter 9 "TuneSetter" "text" "[C" : Cond) ∈ WALL := W_of (in_t2 (List.mem_of_getElem? (i := 17) rfl)) rfl
theorem m_TuneSetter_16 : (.fieldLink R_TuneSetter 16 "TuneSetter" "reader" "LTuneSetter$Reader;" : Cond) ∈ WALL := W_of (in_t2 (List.mem_of_getElem? (i := 18) rfl)) rfl
theorem m_Reader_32 : (.fieldLink R_Reader 32 "TuneSetter$Reader" "fullBar" "I" : Cond) ∈ WALL := W_of (in_t1 (List.mem_of_getElem? (i := 131) rfl)) rfl
theorem m_Reader_36 : (.fieldLink R_Reader 36 "TuneSetter$Reader" "unitTicks" "I" : Cond) ∈ WALL := W_of (in_t1 (List.mem_of_getElem? (i := 132) rfl)) rfl
theorem m_Reader_21 : (.fieldLink R_Reader 21 "TuneSetter$Reader" "pitches" "LTuneSetter$PitchFinder;" : Cond) ∈ WALL := W_of (in_t1 (List.mem_of_getElem? (i := 129) rfl)) rfl
theorem m_PitchFinder_17 : (.fieldLink R_PitchFinder 17 "TuneSetter$PitchFinder" "sharps" "I" : Cond) ∈ WALL := W_of (in_t1 (List.mem_of_getElem? (i := 92) rfl)) rfl
theorem m_PitchFinder_13 : (.fieldLink R_PitchFinder 13 "TuneSetter$PitchFinder" "sign" "I" : Cond) ∈ WALL := W_of (in_t1 (List.mem_of_getElem? (i := 93) rfl)) rfl
theorem m_Reader_39 : (.methodLink R_Reader 39 y_PitchFinder_startTune : Cond) ∈ WALL := W_of (in_t2 (List.mem_of_getElem? (i := 79) rfl)) rfl
theorem m_Reader_28 : (.fieldLink R_Reader 28 "TuneSetter$Reader" "itemLength" "LTuneSetter$ItemLength;" : Cond) ∈ WALL := W_of (in_t1 (List.mem_of_getElem? (i := 130) rfl)) rfl
theorem m_ItemLength_7 : (.fieldLink R_ItemLength 7 "TuneSetter$ItemLength" "top" "I" : Cond) ∈ WALL := W_of (in_t1 (List.mem_of_getElem? (i := 113) rfl)) rfl
theorem m_ItemLength_13 : (.fieldLink R_ItemLength 13 "TuneSetter$ItemLength" "bottom" "I" : Cond) ∈ WALL := W_of (in_t1 (List.mem_of_getElem? (i := 114) rfl)) rfl
theorem m_ItemLength_16 : (.fieldLink R_ItemLength 16 "TuneSetter$ItemLength" "digits" "I" : Cond) ∈ WALL := W_of (in_t1 (List.mem_of_getElem? (i := 115) rfl)) rfl
theorem m_Reader_43 : (.methodLink R_Reader 43 y_ItemLength_restart : Cond) ∈ WALL := W_of (in_t2 (List.mem_of_getElem? (i := 83) rfl)) rfl
theorem m_Reader_14 : (.fieldLink R_Reader 14 "TuneSetter$Reader" "tune" "LTuneSetter$Tune;" : Cond) ∈ WALL := W_of (in_t1 (List.mem_of_getElem? (i := 123) rfl)) rfl
theorem m_Tune_40 : (.fieldLink R_Tune 40 "TuneSetter$Tune" "barCount" "I" : Cond) ∈ WALL := W_of (in_t1 (List.mem_of_getElem? (i := 49) rfl)) rfl
theorem m_Tune_44 : (.fieldLink R_Tune 44 "TuneSetter$Tune" "itemCount" "I" : Cond) ∈ WALL := W_of (in_t1 (List.mem_of_getElem? (i := 54) rfl)) rfl
theorem m_Tune_47 : (.fieldLink R_Tune 47 "TuneSetter$Tune" "noteCount" "I" : Cond) ∈ WALL := W_of (in_t1 (List.mem_of_getElem? (i := 56) rfl)) rfl
theorem m_Tune_9 : (.fieldLink R_Tune 9 "TuneSetter$Tune" "line" "[I" : Cond) ∈ WALL := W_of (in_t1 (List.mem_of_getElem? (i := 31) rfl)) rfl
theorem m_Tune_24 : (.fieldLink R_Tune 24 "TuneSetter$Tune" "firstItem" "[I" : Cond) ∈ WALL := W_of (in_t1 (List.mem_of_getElem? (i := 39) rfl)) rfl
theorem m_Tune_27 : (.fieldLink R_Tune 27 "TuneSetter$Tune" "firstNote" "[I" : Cond) ∈ WALL := W_of (in_t1 (List.mem_of_getElem? (i := 41) rfl)) rfl
theorem m_Reader_46 : (.methodLink R_Reader 46 y_Tune_empty : Cond) ∈ WALL := W_of (in_t2 (List.mem_of_getElem? (i := 87) rfl)) rfl
theorem m_Reader_49 : (.fieldLink R_Reader 49 "TuneSetter$Reader" "fault" "I" : Cond) ∈ WALL := W_of (in_t1 (List.mem_of_getElem? (i := 125) rfl)) rfl
theorem m_Reader_52 : (.fieldLink R_Reader 52 "TuneSetter$Reader" "faultPlace" "I" : Cond) ∈ WALL := W_of (in_t1 (List.mem_of_getElem? (i := 127) rfl)) rfl
theorem m_Reader_55 : (.fieldLink R_Reader 55 "TuneSetter$Reader" "state" "I" : Cond) ∈ WALL := W_of (in_t1 (List.mem_of_getElem? (i := 133) rfl)) rfl
theorem m_Reader_58 : (.fieldLink R_Reader 58 "TuneSetter$Reader" "linePlace" "I" : Cond) ∈ WALL := W_of (in_t1 (List.mem_of_getElem? (i := 135) rfl)) rfl
theorem m_Reader_61 : (.fieldLink R_Reader 61 "TuneSetter$Reader" "tripletLeft" "I" : Cond) ∈ WALL := W_of (in_t1 (List.mem_of_getElem? (i := 136) rfl)) rfl
theorem m_Reader_64 : (.fieldLink R_Reader 64 "TuneSetter$Reader" "chordNotes" "I" : Cond) ∈ WALL := W_of (in_t1 (List.mem_of_getElem? (i := 137) rfl)) rfl
theorem m_Reader_67 : (.fieldLink R_Reader 67 "TuneSetter$Reader" "latestSign" "I" : Cond) ∈ WALL := W_of (in_t1 (List.mem_of_getElem? (i := 138) rfl)) rfl
theorem m_Reader_70 : (.fieldLink R_Reader 70 "TuneSetter$Reader" "inBar" "Z" : Cond) ∈ WALL := W_of (in_t1 (List.mem_of_getElem? (i := 139) rfl)) rfl
theorem m_Reader_74 : (.fieldLink R_Reader 74 "TuneSetter$Reader" "inItem" "Z" : Cond) ∈ WALL := W_of (in_t1 (List.mem_of_getElem? (i := 140) rfl)) rfl
theorem m_Reader_77 : (.fieldLink R_Reader 77 "TuneSetter$Reader" "inChord" "Z" : Cond) ∈ WALL := W_of (in_t1 (List.mem_of_getElem? (i := 141) rfl)) rfl
theorem m_TuneSetter_57 : (.methodLink R_TuneSetter 57 y_Reader_prepare : Cond) ∈ WALL := W_of (in_t2 (List.mem_of_getElem? (i := 75) rfl)) rfl
theorem m_Reader_80 : (.fieldLink R_Reader 80 "TuneSetter$Reader" "spot" "I" : Cond) ∈ WALL := W_of (in_t1 (List.mem_of_getElem? (i := 134) rfl)) rfl
theorem m_Reader_83 : (.methodLink R_Reader 83 y_Reader_letterAt : Cond) ∈ WALL := W_of (in_t2 (List.mem_of_getElem? (i := 95) rfl)) rfl
theorem m_Reader_123 : (.methodLink R_Reader 123 y_Reader_isDigit : Cond) ∈ WALL := W_of (in_t2 (List.mem_of_getElem? (i := 106) rfl)) rfl
theorem m_Reader_98 : (.methodLink R_Reader 98 y_Reader_octavesEnd : Cond) ∈ WALL := W_of (in_t2 (List.mem_of_getElem? (i := 109) rfl)) rfl
theorem m_Reader_91 : (.methodLink R_Reader 91 y_Reader_lengthEnds : Cond) ∈ WALL := W_of (in_t2 (List.mem_of_getElem? (i := 102) rfl)) rfl
theorem m_Reader_126 : (.methodLink R_Reader 126 y_ItemLength_inTicks : Cond) ∈ WALL := W_of (in_t2 (List.mem_of_getElem? (i := 117) rfl)) rfl
theorem m_Tune_30 : (.fieldLink R_Tune 30 "TuneSetter$Tune" "itemTicks" "[I" : Cond) ∈ WALL := W_of (in_t1 (List.mem_of_getElem? (i := 43) rfl)) rfl
theorem m_Tune_18 : (.fieldLink R_Tune 18 "TuneSetter$Tune" "barTicks" "[I" : Cond) ∈ WALL := W_of (in_t1 (List.mem_of_getElem? (i := 35) rfl)) rfl
theorem m_Tune_21 : (.fieldLink R_Tune 21 "TuneSetter$Tune" "barWidth" "[I" : Cond) ∈ WALL := W_of (in_t1 (List.mem_of_getElem? (i := 36) rfl)) rfl
theorem m_Tune_50 : (.methodLink R_Tune 50 y_Tune_widen : Cond) ∈ WALL := W_of (in_t2 (List.mem_of_getElem? (i := 129) rfl)) rfl
theorem m_Reader_130 : (.methodLink R_Reader 130 y_Tune_setTicks : Cond) ∈ WALL := W_of (in_t2 (List.mem_of_getElem? (i := 125) rfl)) rfl
theorem m_Reader_108 : (.methodLink R_Reader 108 y_Reader_fail : Cond) ∈ WALL := W_of (in_t2 (List.mem_of_getElem? (i := 121) rfl)) rfl
theorem m_Reader_95 : (.methodLink R_Reader 95 y_Reader_endItem : Cond) ∈ WALL := W_of (in_t2 (List.mem_of_getElem? (i := 113) rfl)) rfl
theorem m_PitchFinder_32 : (.fieldLink R_PitchFinder 32 "TuneSetter$PitchFinder" "natural" "I" : Cond) ∈ WALL := W_of (in_t1 (List.mem_of_getElem? (i := 95) rfl)) rfl
theorem m_PitchFinder_9 : (.fieldLink R_PitchFinder 9 "TuneSetter$PitchFinder" "heldSign" "[I" : Cond) ∈ WALL := W_of (in_t1 (List.mem_of_getElem? (i := 91) rfl)) rfl
theorem m_PitchFinder_26 : (.fieldLink R_PitchFinder 26 "TuneSetter$PitchFinder" "letter" "I" : Cond) ∈ WALL := W_of (in_t1 (List.mem_of_getElem? (i := 94) rfl)) rfl
theorem m_PitchFinder_39 : (.fieldLink R_PitchFinder 39 "TuneSetter$PitchFinder" "PLACE_AMONG_SHARPS" "[I" : Cond) ∈ WALL := W_of (in_t2 (List.mem_of_getElem? (i := 145) rfl)) rfl
theorem m_PitchFinder_35 : (.methodLink R_PitchFinder 35 y_PitchFinder_keySign : Cond) ∈ WALL := W_of (in_t2 (List.mem_of_getElem? (i := 141) rfl)) rfl
theorem m_Reader_133 : (.methodLink R_Reader 133 y_PitchFinder_endPitch : Cond) ∈ WALL := W_of (in_t2 (List.mem_of_getElem? (i := 137) rfl)) rfl
theorem m_Tune_37 : (.fieldLink R_Tune 37 "TuneSetter$Tune" "pitch" "[I" : Cond) ∈ WALL := W_of (in_t1 (List.mem_of_getElem? (i := 47) rfl)) rfl
theorem m_Reader_137 : (.methodLink R_Reader 137 y_Tune_addNote : Cond) ∈ WALL := W_of (in_t2 (List.mem_of_getElem? (i := 147) rfl)) rfl
theorem m_Reader_101 : (.methodLink R_Reader 101 y_Reader_endNote : Cond) ∈ WALL := W_of (in_t2 (List.mem_of_getElem? (i := 133) rfl)) rfl
theorem m_Reader_140 : (.constant R_Reader 140 32768 : Cond) ∈ WALL := W_of (in_t2 (List.mem_of_getElem? (i := 155) rfl)) rfl
theorem m_Reader_167 : (.fieldLink R_Reader 167 "TuneSetter$Reader" "MAY" "[I" : Cond) ∈ WALL := W_of (in_t2 (List.mem_of_getElem? (i := 160) rfl)) rfl
theorem m_Reader_141 : (.methodLink R_Reader 141 y_Reader_may : Cond) ∈ WALL := W_of (in_t2 (List.mem_of_getElem? (i := 156) rfl)) rfl
theorem m_Reader_144 : (.fieldLink R_Reader 144 "TuneSetter$Tune" "barCount" "I" : Cond) ∈ WALL := W_of (in_t1 (List.mem_of_getElem? (i := 53) rfl)) rfl
theorem m_Reader_147 : (.methodLink R_Reader 147 y_Reader_behindSpace : Cond) ∈ WALL := W_of (in_t2 (List.mem_of_getElem? (i := 162) rfl)) rfl
theorem m_Reader_150 : (.methodLink R_Reader 150 y_Tune_isRest : Cond) ∈ WALL := W_of (in_t2 (List.mem_of_getElem? (i := 166) rfl)) rfl
theorem m_Reader_164 : (.methodLink R_Reader 164 y_ItemLength_takesDigit : Cond) ∈ WALL := W_of (in_t2 (List.mem_of_getElem? (i := 178) rfl)) rfl
theorem m_Reader_158 : (.methodLink R_Reader 158 y_Reader_followDigit : Cond) ∈ WALL := W_of (in_t2 (List.mem_of_getElem? (i := 174) rfl)) rfl
theorem m_Reader_161 : (.methodLink R_Reader 161 y_Reader_isNoteLetter : Cond) ∈ WALL := W_of (in_t2 (List.mem_of_getElem? (i := 182) rfl)) rfl
theorem m_Reader_154 : (.methodLink R_Reader 154 y_Reader_followOther : Cond) ∈ WALL := W_of (in_t2 (List.mem_of_getElem? (i := 170) rfl)) rfl
theorem m_Reader_104 : (.methodLink R_Reader 104 y_Reader_follow : Cond) ∈ WALL := W_of (in_t2 (List.mem_of_getElem? (i := 151) rfl)) rfl
theorem m_Reader_171 : (.methodLink R_Reader 171 y_Reader_isNoteState : Cond) ∈ WALL := W_of (in_t2 (List.mem_of_getElem? (i := 197) rfl)) rfl
theorem m_Reader_174 : (.methodLink R_Reader 174 y_Reader_opensItem : Cond) ∈ WALL := W_of (in_t2 (List.mem_of_getElem? (i := 193) rfl)) rfl
theorem m_Reader_177 : (.methodLink R_Reader 177 y_Reader_opensBar : Cond) ∈ WALL := W_of (in_t2 (List.mem_of_getElem? (i := 189) rfl)) rfl
theorem m_Reader_186 : (.fieldLink R_Reader 186 "TuneSetter$Tune" "itemCount" "I" : Cond) ∈ WALL := W_of (in_t1 (List.mem_of_getElem? (i := 55) rfl)) rfl
theorem m_Reader_189 : (.methodLink R_Reader 189 y_Reader_opensChordNote : Cond) ∈ WALL := W_of (in_t2 (List.mem_of_getElem? (i := 211) rfl)) rfl
theorem m_Reader_114 : (.methodLink R_Reader 114 y_Reader_checkMany : Cond) ∈ WALL := W_of (in_t2 (List.mem_of_getElem? (i := 207) rfl)) rfl
theorem m_Reader_180 : (.methodLink R_Reader 180 y_Tune_latestBarTicks : Cond) ∈ WALL := W_of (in_t2 (List.mem_of_getElem? (i := 200) rfl)) rfl
theorem m_Reader_183 : (.methodLink R_Reader 183 y_Reader_opensLine : Cond) ∈ WALL := W_of (in_t2 (List.mem_of_getElem? (i := 204) rfl)) rfl
theorem m_Reader_111 : (.methodLink R_Reader 111 y_Reader_checkBars : Cond) ∈ WALL := W_of (in_t2 (List.mem_of_getElem? (i := 185) rfl)) rfl
theorem m_Tune_15 : (.fieldLink R_Tune 15 "TuneSetter$Tune" "ending" "[I" : Cond) ∈ WALL := W_of (in_t1 (List.mem_of_getElem? (i := 33) rfl)) rfl
theorem m_Reader_192 : (.methodLink R_Reader 192 y_Tune_openBar : Cond) ∈ WALL := W_of (in_t2 (List.mem_of_getElem? (i := 219) rfl)) rfl
theorem m_PitchFinder_20 : (.methodLink R_PitchFinder 20 y_Arrays_fill : Cond) ∈ WALL := W_of (in_t2 (List.mem_of_getElem? (i := 227) rfl)) rfl
theorem m_Reader_195 : (.methodLink R_Reader 195 y_PitchFinder_startBar : Cond) ∈ WALL := W_of (in_t2 (List.mem_of_getElem? (i := 223) rfl)) rfl
theorem m_Tune_33 : (.fieldLink R_Tune 33 "TuneSetter$Tune" "tied" "[Z" : Cond) ∈ WALL := W_of (in_t1 (List.mem_of_getElem? (i := 45) rfl)) rfl
theorem m_Reader_198 : (.methodLink R_Reader 198 y_Tune_openItem : Cond) ∈ WALL := W_of (in_t2 (List.mem_of_getElem? (i := 230) rfl)) rfl
theorem m_Reader_117 : (.methodLink R_Reader 117 y_Reader_open : Cond) ∈ WALL := W_of (in_t2 (List.mem_of_getElem? (i := 215) rfl)) rfl
theorem m_Reader_201 : (.methodLink R_Reader 201 y_Tune_setLine : Cond) ∈ WALL := W_of (in_t2 (List.mem_of_getElem? (i := 238) rfl)) rfl
theorem m_Reader_204 : (.methodLink R_Reader 204 y_Reader_growLine : Cond) ∈ WALL := W_of (in_t3 (List.mem_of_getElem? (i := 2) rfl)) rfl
theorem m_Reader_207 : (.methodLink R_Reader 207 y_Tune_setEnding : Cond) ∈ WALL := W_of (in_t3 (List.mem_of_getElem? (i := 6) rfl)) rfl
theorem m_Reader_210 : (.methodLink R_Reader 210 y_Tune_setTie : Cond) ∈ WALL := W_of (in_t3 (List.mem_of_getElem? (i := 10) rfl)) rfl
theorem m_Reader_237 : (.methodLink R_Reader 237 y_PitchFinder_setSign : Cond) ∈ WALL := W_of (in_t3 (List.mem_of_getElem? (i := 22) rfl)) rfl
theorem m_Reader_240 : (.methodLink R_Reader 240 y_Tune_widen : Cond) ∈ WALL := W_of (in_t3 (List.mem_of_getElem? (i := 26) rfl)) rfl
theorem m_Reader_216 : (.methodLink R_Reader 216 y_Reader_takeSign : Cond) ∈ WALL := W_of (in_t3 (List.mem_of_getElem? (i := 18) rfl)) rfl
theorem m_Reader_219 : (.methodLink R_Reader 219 y_PitchFinder_doubleSign : Cond) ∈ WALL := W_of (in_t3 (List.mem_of_getElem? (i := 27) rfl)) rfl
theorem m_PitchFinder_29 : (.fieldLink R_PitchFinder 29 "TuneSetter$PitchFinder" "NATURAL" "[I" : Cond) ∈ WALL := W_of (in_t3 (List.mem_of_getElem? (i := 35) rfl)) rfl
theorem m_Reader_222 : (.methodLink R_Reader 222 y_PitchFinder_setLetter : Cond) ∈ WALL := W_of (in_t3 (List.mem_of_getElem? (i := 31) rfl)) rfl
theorem m_Reader_225 : (.methodLink R_Reader 225 y_PitchFinder_shift : Cond) ∈ WALL := W_of (in_t3 (List.mem_of_getElem? (i := 37) rfl)) rfl
theorem m_Reader_228 : (.methodLink R_Reader 228 y_ItemLength_addTopDigit : Cond) ∈ WALL := W_of (in_t3 (List.mem_of_getElem? (i := 41) rfl)) rfl
theorem m_Reader_231 : (.methodLink R_Reader 231 y_ItemLength_addSlash : Cond) ∈ WALL := W_of (in_t3 (List.mem_of_getElem? (i := 45) rfl)) rfl
theorem m_Reader_234 : (.methodLink R_Reader 234 y_ItemLength_addBottomDigit : Cond) ∈ WALL := W_of (in_t3 (List.mem_of_getElem? (i := 49) rfl)) rfl
theorem m_Reader_213 : (.methodLink R_Reader 213 y_Reader_takeInside : Cond) ∈ WALL := W_of (in_t3 (List.mem_of_getElem? (i := 14) rfl)) rfl
theorem m_Reader_120 : (.methodLink R_Reader 120 y_Reader_take : Cond) ∈ WALL := W_of (in_t2 (List.mem_of_getElem? (i := 234) rfl)) rfl
theorem m_Reader_87 : (.methodLink R_Reader 87 y_Reader_step : Cond) ∈ WALL := W_of (in_t2 (List.mem_of_getElem? (i := 98) rfl)) rfl
theorem m_TuneSetter_61 : (.methodLink R_TuneSetter 61 y_Reader_scan : Cond) ∈ WALL := W_of (in_t2 (List.mem_of_getElem? (i := 91) rfl)) rfl
theorem m_TuneSetter_65 : (.fieldLink R_TuneSetter 65 "TuneSetter$Reader" "fault" "I" : Cond) ∈ WALL := W_of (in_t1 (List.mem_of_getElem? (i := 126) rfl)) rfl
theorem m_TuneSetter_23 : (.fieldLink R_TuneSetter 23 "TuneSetter" "playing" "LTuneSetter$Playing;" : Cond) ∈ WALL := W_of (in_t2 (List.mem_of_getElem? (i := 19) rfl)) rfl
theorem m_TuneSetter_75 : (.fieldLink R_TuneSetter 75 "TuneSetter$Reader" "tune" "LTuneSetter$Tune;" : Cond) ∈ WALL := W_of (in_t1 (List.mem_of_getElem? (i := 124) rfl)) rfl
theorem m_Playing_27 : (.fieldLink R_Playing 27 "TuneSetter$Playing" "count" "I" : Cond) ∈ WALL := W_of (in_t1 (List.mem_of_getElem? (i := 190) rfl)) rfl
theorem m_Playing_31 : (.fieldLink R_Playing 31 "TuneSetter$Playing" "tooMany" "Z" : Cond) ∈ WALL := W_of (in_t1 (List.mem_of_getElem? (i := 193) rfl)) rfl
theorem m_Playing_35 : (.fieldLink R_Playing 35 "TuneSetter$Playing" "now" "I" : Cond) ∈ WALL := W_of (in_t1 (List.mem_of_getElem? (i := 195) rfl)) rfl
theorem m_Playing_38 : (.fieldLink R_Playing 38 "TuneSetter$Playing" "waitingCount" "I" : Cond) ∈ WALL := W_of (in_t1 (List.mem_of_getElem? (i := 197) rfl)) rfl
theorem m_Playing_41 : (.fieldLink R_Playing 41 "TuneSetter$Tune" "barCount" "I" : Cond) ∈ WALL := W_of (in_t1 (List.mem_of_getElem? (i := 51) rfl)) rfl
theorem m_Playing_46 : (.fieldLink R_Playing 46 "TuneSetter$Tune" "line" "[I" : Cond) ∈ WALL := W_of (in_t1 (List.mem_of_getElem? (i := 32) rfl)) rfl
theorem m_Playing_49 : (.fieldLink R_Playing 49 "TuneSetter$Tune" "ending" "[I" : Cond) ∈ WALL := W_of (in_t1 (List.mem_of_getElem? (i := 34) rfl)) rfl
theorem m_Playing_56 : (.fieldLink R_Playing 56 "TuneSetter$Tune" "firstItem" "[I" : Cond) ∈ WALL := W_of (in_t1 (List.mem_of_getElem? (i := 40) rfl)) rfl
theorem m_Playing_62 : (.fieldLink R_Playing 62 "TuneSetter$Playing" "soundingCount" "I" : Cond) ∈ WALL := W_of (in_t1 (List.mem_of_getElem? (i := 199) rfl)) rfl
theorem m_Playing_65 : (.fieldLink R_Playing 65 "TuneSetter$Tune" "firstNote" "[I" : Cond) ∈ WALL := W_of (in_t1 (List.mem_of_getElem? (i := 42) rfl)) rfl
theorem m_Playing_69 : (.fieldLink R_Playing 69 "TuneSetter$Tune" "itemTicks" "[I" : Cond) ∈ WALL := W_of (in_t1 (List.mem_of_getElem? (i := 44) rfl)) rfl
theorem m_Playing_76 : (.fieldLink R_Playing 76 "TuneSetter$Tune" "tied" "[Z" : Cond) ∈ WALL := W_of (in_t1 (List.mem_of_getElem? (i := 46) rfl)) rfl
theorem m_Playing_68 : (.fieldLink R_Playing 68 "TuneSetter$Tune" "pitch" "[I" : Cond) ∈ WALL := W_of (in_t1 (List.mem_of_getElem? (i := 48) rfl)) rfl
theorem m_Playing_21 : (.fieldLink R_Playing 21 "TuneSetter$Playing" "waiting" "[I" : Cond) ∈ WALL := W_of (in_t1 (List.mem_of_getElem? (i := 196) rfl)) rfl
theorem m_Playing_18 : (.fieldLink R_Playing 18 "TuneSetter$Playing" "pitch" "[I" : Cond) ∈ WALL := W_of (in_t1 (List.mem_of_getElem? (i := 187) rfl)) rfl
theorem m_Playing_80 : (.methodLink R_Playing 80 y_Playing_takeWaiting : Cond) ∈ WALL := W_of (in_t3 (List.mem_of_getElem? (i := 73) rfl)) rfl
theorem m_Playing_9 : (.fieldLink R_Playing 9 "TuneSetter$Playing" "onset" "[I" : Cond) ∈ WALL := W_of (in_t1 (List.mem_of_getElem? (i := 181) rfl)) rfl
theorem m_Playing_15 : (.fieldLink R_Playing 15 "TuneSetter$Playing" "duration" "[I" : Cond) ∈ WALL := W_of (in_t1 (List.mem_of_getElem? (i := 184) rfl)) rfl
theorem m_Playing_84 : (.methodLink R_Playing 84 y_Playing_begin : Cond) ∈ WALL := W_of (in_t3 (List.mem_of_getElem? (i := 77) rfl)) rfl
theorem m_Playing_24 : (.fieldLink R_Playing 24 "TuneSetter$Playing" "sounding" "[I" : Cond) ∈ WALL := W_of (in_t1 (List.mem_of_getElem? (i := 198) rfl)) rfl
theorem m_Playing_72 : (.methodLink R_Playing 72 y_Playing_sound : Cond) ∈ WALL := W_of (in_t3 (List.mem_of_getElem? (i := 69) rfl)) rfl
theorem m_Playing_59 : (.methodLink R_Playing 59 y_Playing_playItem : Cond) ∈ WALL := W_of (in_t3 (List.mem_of_getElem? (i := 65) rfl)) rfl
theorem m_Playing_52 : (.methodLink R_Playing 52 y_Playing_playBar : Cond) ∈ WALL := W_of (in_t3 (List.mem_of_getElem? (i := 61) rfl)) rfl
theorem m_TuneSetter_79 : (.methodLink R_TuneSetter 79 y_Playing_perform : Cond) ∈ WALL := W_of (in_t3 (List.mem_of_getElem? (i := 57) rfl)) rfl
theorem m_TuneSetter_83 : (.fieldLink R_TuneSetter 83 "TuneSetter$Playing" "tooMany" "Z" : Cond) ∈ WALL := W_of (in_t1 (List.mem_of_getElem? (i := 194) rfl)) rfl
theorem m_TuneSetter_87 : (.fieldLink R_TuneSetter 87 "TuneSetter" "hasTune" "Z" : Cond) ∈ WALL := W_of (in_t2 (List.mem_of_getElem? (i := 26) rfl)) rfl
theorem m_TuneSetter_48 : (.fieldLink R_TuneSetter 48 "TuneSetter" "wrongPlace" "I" : Cond) ∈ WALL := W_of (in_t2 (List.mem_of_getElem? (i := 27) rfl)) rfl
theorem m_TuneSetter_90 : (.fieldLink R_TuneSetter 90 "TuneSetter$Playing" "count" "I" : Cond) ∈ WALL := W_of (in_t1 (List.mem_of_getElem? (i := 192) rfl)) rfl
theorem m_TuneSetter_71 : (.methodLink R_TuneSetter 71 y_TuneSetter_refuse : Cond) ∈ WALL := W_of (in_t3 (List.mem_of_getElem? (i := 53) rfl)) rfl
theorem m_TuneSetter_68 : (.fieldLink R_TuneSetter 68 "TuneSetter$Reader" "faultPlace" "I" : Cond) ∈ WALL := W_of (in_t1 (List.mem_of_getElem? (i := 128) rfl)) rfl
theorem m_TuneSetter_93 : (.fieldLink R_TuneSetter 93 "TuneSetter$Tune" "barCount" "I" : Cond) ∈ WALL := W_of (in_t1 (List.mem_of_getElem? (i := 52) rfl)) rfl
theorem m_TuneSetter_98 : (.methodLink R_TuneSetter 98 y_TuneSetter_notes : Cond) ∈ WALL := W_of (in_t3 (List.mem_of_getElem? (i := 97) rfl)) rfl
theorem m_TuneSetter_102 : (.fieldLink R_TuneSetter 102 "TuneSetter$Playing" "onset" "[I" : Cond) ∈ WALL := W_of (in_t1 (List.mem_of_getElem? (i := 183) rfl)) rfl
theorem m_TuneSetter_106 : (.fieldLink R_TuneSetter 106 "TuneSetter$Playing" "duration" "[I" : Cond) ∈ WALL := W_of (in_t1 (List.mem_of_getElem? (i := 186) rfl)) rfl
theorem m_TuneSetter_109 : (.fieldLink R_TuneSetter 109 "TuneSetter$Playing" "pitch" "[I" : Cond) ∈ WALL := W_of (in_t1 (List.mem_of_getElem? (i := 189) rfl)) rfl
theorem m_TuneSetter_112 : (.methodLink R_TuneSetter 112 y_TuneSetter_bars : Cond) ∈ WALL := W_of (in_t3 (List.mem_of_getElem? (i := 102) rfl)) rfl
theorem m_TuneSetter_115 : (.fieldLink R_TuneSetter 115 "TuneSetter$Tune" "barWidth" "[I" : Cond) ∈ WALL := W_of (in_t1 (List.mem_of_getElem? (i := 38) rfl)) rfl
theorem m_TuneSetter_30 : (.fieldLink R_TuneSetter 30 "TuneSetter" "file" "LTuneSetter$NoteFile;" : Cond) ∈ WALL := W_of (in_t2 (List.mem_of_getElem? (i := 20) rfl)) rfl
theorem m_NoteFile_18 : (.fieldLink R_NoteFile 18 "TuneSetter$NoteFile" "size" "I" : Cond) ∈ WALL := W_of (in_t1 (List.mem_of_getElem? (i := 229) rfl)) rfl
theorem m_NoteFile_22 : (.fieldLink R_NoteFile 22 "TuneSetter$NoteFile" "HEAD" "[I" : Cond) ∈ WALL := W_of (in_t3 (List.mem_of_getElem? (i := 111) rfl)) rfl
theorem m_NoteFile_11 : (.fieldLink R_NoteFile 11 "TuneSetter$NoteFile" "bytes" "[I" : Cond) ∈ WALL := W_of (in_t1 (List.mem_of_getElem? (i := 227) rfl)) rfl
theorem m_NoteFile_66 : (.methodLink R_NoteFile 66 y_NoteFile_put : Cond) ∈ WALL := W_of (in_t3 (List.mem_of_getElem? (i := 117) rfl)) rfl
theorem m_NoteFile_25 : (.methodLink R_NoteFile 25 y_NoteFile_putAll : Cond) ∈ WALL := W_of (in_t3 (List.mem_of_getElem? (i := 113) rfl)) rfl
theorem m_NoteFile_43 : (.fieldLink R_NoteFile 43 "TuneSetter$NoteFile" "eventCount" "I" : Cond) ∈ WALL := W_of (in_t1 (List.mem_of_getElem? (i := 232) rfl)) rfl
theorem m_NoteFile_46 : (.fieldLink R_NoteFile 46 "TuneSetter$Playing" "count" "I" : Cond) ∈ WALL := W_of (in_t1 (List.mem_of_getElem? (i := 191) rfl)) rfl
theorem m_NoteFile_51 : (.fieldLink R_NoteFile 51 "TuneSetter$Playing" "onset" "[I" : Cond) ∈ WALL := W_of (in_t1 (List.mem_of_getElem? (i := 182) rfl)) rfl
theorem m_NoteFile_54 : (.fieldLink R_NoteFile 54 "TuneSetter$Playing" "duration" "[I" : Cond) ∈ WALL := W_of (in_t1 (List.mem_of_getElem? (i := 185) rfl)) rfl
theorem m_NoteFile_57 : (.fieldLink R_NoteFile 57 "TuneSetter$Playing" "pitch" "[I" : Cond) ∈ WALL := W_of (in_t1 (List.mem_of_getElem? (i := 188) rfl)) rfl
theorem m_NoteFile_15 : (.fieldLink R_NoteFile 15 "TuneSetter$NoteFile" "events" "[I" : Cond) ∈ WALL := W_of (in_t1 (List.mem_of_getElem? (i := 231) rfl)) rfl
theorem m_NoteFile_60 : (.methodLink R_NoteFile 60 y_NoteFile_sortIn : Cond) ∈ WALL := W_of (in_t3 (List.mem_of_getElem? (i := 125) rfl)) rfl
theorem m_NoteFile_29 : (.methodLink R_NoteFile 29 y_NoteFile_gatherEvents : Cond) ∈ WALL := W_of (in_t3 (List.mem_of_getElem? (i := 121) rfl)) rfl
theorem m_NoteFile_63 : (.methodLink R_NoteFile 63 y_NoteFile_putTicks : Cond) ∈ WALL := W_of (in_t3 (List.mem_of_getElem? (i := 133) rfl)) rfl
theorem m_NoteFile_33 : (.methodLink R_NoteFile 33 y_NoteFile_putEvents : Cond) ∈ WALL := W_of (in_t3 (List.mem_of_getElem? (i := 129) rfl)) rfl
theorem m_NoteFile_36 : (.fieldLink R_NoteFile 36 "TuneSetter$NoteFile" "TAIL" "[I" : Cond) ∈ WALL := W_of (in_t3 (List.mem_of_getElem? (i := 137) rfl)) rfl
theorem m_NoteFile_39 : (.methodLink R_NoteFile 39 y_NoteFile_putCount : Cond) ∈ WALL := W_of (in_t3 (List.mem_of_getElem? (i := 139) rfl)) rfl
theorem m_TuneSetter_118 : (.methodLink R_TuneSetter 118 y_NoteFile_make : Cond) ∈ WALL := W_of (in_t3 (List.mem_of_getElem? (i := 107) rfl)) rfl
theorem m_TuneSetter_122 : (.fieldLink R_TuneSetter 122 "TuneSetter$NoteFile" "size" "I" : Cond) ∈ WALL := W_of (in_t1 (List.mem_of_getElem? (i := 230) rfl)) rfl
theorem m_TuneSetter_125 : (.fieldLink R_TuneSetter 125 "TuneSetter$NoteFile" "bytes" "[I" : Cond) ∈ WALL := W_of (in_t1 (List.mem_of_getElem? (i := 228) rfl)) rfl
theorem m_TuneSetter_37 : (.fieldLink R_TuneSetter 37 "TuneSetter" "breaker" "LTuneSetter$LineBreaker;" : Cond) ∈ WALL := W_of (in_t2 (List.mem_of_getElem? (i := 21) rfl)) rfl
theorem m_LineBreaker_9 : (.fieldLink R_LineBreaker 9 "TuneSetter$LineBreaker" "leastBadness" "[I" : Cond) ∈ WALL := W_of (in_t2 (List.mem_of_getElem? (i := 8) rfl)) rfl
theorem m_LineBreaker_18 : (.fieldLink R_LineBreaker 18 "TuneSetter$Tune" "barCount" "I" : Cond) ∈ WALL := W_of (in_t1 (List.mem_of_getElem? (i := 50) rfl)) rfl
theorem m_LineBreaker_15 : (.fieldLink R_LineBreaker 15 "TuneSetter$LineBreaker" "fewestLines" "[I" : Cond) ∈ WALL := W_of (in_t2 (List.mem_of_getElem? (i := 10) rfl)) rfl
theorem m_LineBreaker_24 : (.fieldLink R_LineBreaker 24 "TuneSetter$Tune" "barWidth" "[I" : Cond) ∈ WALL := W_of (in_t1 (List.mem_of_getElem? (i := 37) rfl)) rfl
theorem m_LineBreaker_27 : (.methodLink R_LineBreaker 27 y_LineBreaker_solveFrom : Cond) ∈ WALL := W_of (in_t3 (List.mem_of_getElem? (i := 159) rfl)) rfl
theorem m_TuneSetter_138 : (.methodLink R_TuneSetter 138 y_LineBreaker_solve : Cond) ∈ WALL := W_of (in_t3 (List.mem_of_getElem? (i := 155) rfl)) rfl
theorem m_TuneSetter_128 : (.methodLink R_TuneSetter 128 y_TuneSetter_canBreak : Cond) ∈ WALL := W_of (in_t3 (List.mem_of_getElem? (i := 151) rfl)) rfl
theorem m_TuneSetter_132 : (.fieldLink R_TuneSetter 132 "TuneSetter$LineBreaker" "leastBadness" "[I" : Cond) ∈ WALL := W_of (in_t2 (List.mem_of_getElem? (i := 9) rfl)) rfl
theorem m_TuneSetter_135 : (.fieldLink R_TuneSetter 135 "TuneSetter$LineBreaker" "fewestLines" "[I" : Cond) ∈ WALL := W_of (in_t2 (List.mem_of_getElem? (i := 11) rfl)) rfl
theorem m_TuneSetterModel_7 : (.fieldLink R_TuneSetterModel 7 "TuneSetterModel" "n" "I" : Cond) ∈ WALL := W_of (in_t3 (List.mem_of_getElem? (i := 173) rfl)) rfl
theorem m_TuneSetterModel_13 : (.fieldLink R_TuneSetterModel 13 "TuneSetterModel" "d" "I" : Cond) ∈ WALL := W_of (in_t3 (List.mem_of_getElem? (i := 174) rfl)) rfl
theorem m_TuneSetterModel_16 : (.fieldLink R_TuneSetterModel 16 "TuneSetterModel" "u" "I" : Cond) ∈ WALL := W_of (in_t3 (List.mem_of_getElem? (i := 175) rfl)) rfl
theorem m_TuneSetterModel_81 : (.fieldLink R_TuneSetterModel 81 "TuneSetterModel" "sharps" "I" : Cond) ∈ WALL := W_of (in_t3 (List.mem_of_getElem? (i := 176) rfl)) rfl
theorem m_TuneSetterModel_84 : (.fieldLink R_TuneSetterModel 84 "TuneSetterModel" "size" "I" : Cond) ∈ WALL := W_of (in_t3 (List.mem_of_getElem? (i := 178) rfl)) rfl
theorem m_TuneSetterModel_19 : (.fieldLink R_TuneSetterModel 19 "TuneSetterModel" "text" "[I" : Cond) ∈ WALL := W_of (in_t3 (List.mem_of_getElem? (i := 177) rfl)) rfl
theorem m_TuneSetterModel_87 : (.fieldLink R_TuneSetterModel 87 "TuneSetterModel" "bars" "I" : Cond) ∈ WALL := W_of (in_t3 (List.mem_of_getElem? (i := 179) rfl)) rfl
theorem m_TuneSetterModel_90 : (.fieldLink R_TuneSetterModel 90 "TuneSetterModel" "items" "I" : Cond) ∈ WALL := W_of (in_t3 (List.mem_of_getElem? (i := 186) rfl)) rfl
theorem m_TuneSetterModel_93 : (.fieldLink R_TuneSetterModel 93 "TuneSetterModel" "tune" "Z" : Cond) ∈ WALL := W_of (in_t3 (List.mem_of_getElem? (i := 180) rfl)) rfl
theorem m_TuneSetterModel_97 : (.fieldLink R_TuneSetterModel 97 "TuneSetterModel" "notes" "I" : Cond) ∈ WALL := W_of (in_t3 (List.mem_of_getElem? (i := 210) rfl)) rfl
theorem m_TuneSetterModel_100 : (.fieldLink R_TuneSetterModel 100 "TuneSetterModel" "state" "I" : Cond) ∈ WALL := W_of (in_t3 (List.mem_of_getElem? (i := 192) rfl)) rfl
theorem m_TuneSetterModel_103 : (.fieldLink R_TuneSetterModel 103 "TuneSetterModel" "triplet" "I" : Cond) ∈ WALL := W_of (in_t3 (List.mem_of_getElem? (i := 196) rfl)) rfl
theorem m_TuneSetterModel_35 : (.fieldLink R_TuneSetterModel 35 "TuneSetterModel" "line" "[I" : Cond) ∈ WALL := W_of (in_t3 (List.mem_of_getElem? (i := 185) rfl)) rfl
theorem m_TuneSetterModel_250 : (.fieldLink R_TuneSetterModel 250 "TuneSetterModel" "played" "I" : Cond) ∈ WALL := W_of (in_t3 (List.mem_of_getElem? (i := 208) rfl)) rfl
theorem m_TuneSetterModel_69 : (.fieldLink R_TuneSetterModel 69 "TuneSetterModel" "head" "[I" : Cond) ∈ WALL := W_of (in_t3 (List.mem_of_getElem? (i := 214) rfl)) rfl
theorem m_TuneSetterModel_57 : (.fieldLink R_TuneSetterModel 57 "TuneSetterModel" "play" "[I" : Cond) ∈ WALL := W_of (in_t3 (List.mem_of_getElem? (i := 209) rfl)) rfl
theorem m_TuneSetterModel_48 : (.fieldLink R_TuneSetterModel 48 "TuneSetterModel" "many" "[I" : Cond) ∈ WALL := W_of (in_t3 (List.mem_of_getElem? (i := 190) rfl)) rfl
theorem m_TuneSetterModel_38 : (.fieldLink R_TuneSetterModel 38 "TuneSetterModel" "ticks" "[I" : Cond) ∈ WALL := W_of (in_t3 (List.mem_of_getElem? (i := 187) rfl)) rfl
theorem m_TuneSetterModel_60 : (.fieldLink R_TuneSetterModel 60 "TuneSetterModel" "onset" "[I" : Cond) ∈ WALL := W_of (in_t3 (List.mem_of_getElem? (i := 211) rfl)) rfl
theorem m_TuneSetterModel_63 : (.fieldLink R_TuneSetterModel 63 "TuneSetterModel" "length" "[I" : Cond) ∈ WALL := W_of (in_t3 (List.mem_of_getElem? (i := 212) rfl)) rfl
theorem m_TuneSetterModel_66 : (.fieldLink R_TuneSetterModel 66 "TuneSetterModel" "tone" "[I" : Cond) ∈ WALL := W_of (in_t3 (List.mem_of_getElem? (i := 213) rfl)) rfl
theorem m_TuneSetterModel_51 : (.fieldLink R_TuneSetterModel 51 "TuneSetterModel" "pitch" "[I" : Cond) ∈ WALL := W_of (in_t3 (List.mem_of_getElem? (i := 191) rfl)) rfl
theorem m_TuneSetterModel_41 : (.fieldLink R_TuneSetterModel 41 "TuneSetterModel" "tie" "[Z" : Cond) ∈ WALL := W_of (in_t3 (List.mem_of_getElem? (i := 188) rfl)) rfl
theorem m_TuneSetterModel_262 : (.methodLink R_TuneSetterModel 262 y_TuneSetterModel_goOn : Cond) ∈ WALL := W_of (in_t4 (List.mem_of_getElem? (i := 234) rfl)) rfl
theorem m_TuneSetterModel_259 : (.methodLink R_TuneSetterModel 259 y_TuneSetterModel_sound : Cond) ∈ WALL := W_of (in_t4 (List.mem_of_getElem? (i := 230) rfl)) rfl
theorem m_TuneSetterModel_29 : (.fieldLink R_TuneSetterModel 29 "TuneSetterModel" "ending" "[I" : Cond) ∈ WALL := W_of (in_t3 (List.mem_of_getElem? (i := 183) rfl)) rfl
theorem m_TuneSetterModel_253 : (.methodLink R_TuneSetterModel 253 y_TuneSetterModel_holds : Cond) ∈ WALL := W_of (in_t4 (List.mem_of_getElem? (i := 222) rfl)) rfl
theorem m_TuneSetterModel_26 : (.fieldLink R_TuneSetterModel 26 "TuneSetterModel" "firstItem" "[I" : Cond) ∈ WALL := W_of (in_t3 (List.mem_of_getElem? (i := 182) rfl)) rfl
theorem m_TuneSetterModel_256 : (.methodLink R_TuneSetterModel 256 y_TuneSetterModel_playBar : Cond) ∈ WALL := W_of (in_t4 (List.mem_of_getElem? (i := 226) rfl)) rfl
theorem m_TuneSetterModel_110 : (.methodLink R_TuneSetterModel 110 y_TuneSetterModel_perform : Cond) ∈ WALL := W_of (in_t4 (List.mem_of_getElem? (i := 218) rfl)) rfl
theorem m_TuneSetterModel_23 : (.fieldLink R_TuneSetterModel 23 "TuneSetterModel" "place" "I" : Cond) ∈ WALL := W_of (in_t3 (List.mem_of_getElem? (i := 181) rfl)) rfl
theorem m_TuneSetterModel_122 : (.fieldLink R_TuneSetterModel 122 "TuneSetterModel" "marks" "I" : Cond) ∈ WALL := W_of (in_t3 (List.mem_of_getElem? (i := 201) rfl)) rfl
theorem m_TuneSetterModel_137 : (.methodLink R_TuneSetterModel 137 y_TuneSetterModel_goesOnLetter : Cond) ∈ WALL := W_of (in_t4 (List.mem_of_getElem? (i := 100) rfl)) rfl
theorem m_TuneSetterModel_140 : (.fieldLink R_TuneSetterModel 140 "TuneSetterModel" "chord" "Z" : Cond) ∈ WALL := W_of (in_t3 (List.mem_of_getElem? (i := 194) rfl)) rfl
theorem m_TuneSetterModel_232 : (.fieldLink R_TuneSetterModel 232 "TuneSetterModel" "top" "I" : Cond) ∈ WALL := W_of (in_t3 (List.mem_of_getElem? (i := 202) rfl)) rfl
theorem m_TuneSetterModel_134 : (.fieldLink R_TuneSetterModel 134 "TuneSetterModel" "topDigits" "I" : Cond) ∈ WALL := W_of (in_t3 (List.mem_of_getElem? (i := 203) rfl)) rfl
theorem m_TuneSetterModel_125 : (.fieldLink R_TuneSetterModel 125 "TuneSetterModel" "slash" "Z" : Cond) ∈ WALL := W_of (in_t3 (List.mem_of_getElem? (i := 204) rfl)) rfl
theorem m_TuneSetterModel_235 : (.fieldLink R_TuneSetterModel 235 "TuneSetterModel" "below" "I" : Cond) ∈ WALL := W_of (in_t3 (List.mem_of_getElem? (i := 205) rfl)) rfl
theorem m_TuneSetterModel_131 : (.fieldLink R_TuneSetterModel 131 "TuneSetterModel" "belowDigits" "I" : Cond) ∈ WALL := W_of (in_t3 (List.mem_of_getElem? (i := 206) rfl)) rfl
theorem m_TuneSetterModel_143 : (.methodLink R_TuneSetterModel 143 y_TuneSetterModel_openNumber : Cond) ∈ WALL := W_of (in_t4 (List.mem_of_getElem? (i := 104) rfl)) rfl
theorem m_TuneSetterModel_128 : (.methodLink R_TuneSetterModel 128 y_TuneSetterModel_isDigit : Cond) ∈ WALL := W_of (in_t4 (List.mem_of_getElem? (i := 108) rfl)) rfl
theorem m_TuneSetterModel_146 : (.methodLink R_TuneSetterModel 146 y_TuneSetterModel_goesOnNumber : Cond) ∈ WALL := W_of (in_t4 (List.mem_of_getElem? (i := 111) rfl)) rfl
theorem m_TuneSetterModel_238 : (.methodLink R_TuneSetterModel 238 y_TuneSetterModel_parts : Cond) ∈ WALL := W_of (in_t4 (List.mem_of_getElem? (i := 119) rfl)) rfl
theorem m_TuneSetterModel_241 : (.methodLink R_TuneSetterModel 241 y_TuneSetterModel_divisor : Cond) ∈ WALL := W_of (in_t4 (List.mem_of_getElem? (i := 123) rfl)) rfl
theorem m_TuneSetterModel_149 : (.methodLink R_TuneSetterModel 149 y_TuneSetterModel_hasLength : Cond) ∈ WALL := W_of (in_t4 (List.mem_of_getElem? (i := 115) rfl)) rfl
theorem m_TuneSetterModel_205 : (.fieldLink R_TuneSetterModel 205 "TuneSetterModel" "octave" "I" : Cond) ∈ WALL := W_of (in_t3 (List.mem_of_getElem? (i := 200) rfl)) rfl
theorem m_TuneSetterModel_229 : (.fieldLink R_TuneSetterModel 229 "TuneSetterModel" "letter" "I" : Cond) ∈ WALL := W_of (in_t3 (List.mem_of_getElem? (i := 199) rfl)) rfl
theorem m_TuneSetterModel_244 : (.methodLink R_TuneSetterModel 244 y_TuneSetterModel_placeOf : Cond) ∈ WALL := W_of (in_t4 (List.mem_of_getElem? (i := 131) rfl)) rfl
theorem m_TuneSetterModel_54 : (.fieldLink R_TuneSetterModel 54 "TuneSetterModel" "heard" "[I" : Cond) ∈ WALL := W_of (in_t3 (List.mem_of_getElem? (i := 207) rfl)) rfl
theorem m_TuneSetterModel_247 : (.methodLink R_TuneSetterModel 247 y_TuneSetterModel_plainOf : Cond) ∈ WALL := W_of (in_t4 (List.mem_of_getElem? (i := 134) rfl)) rfl
theorem m_TuneSetterModel_217 : (.fieldLink R_TuneSetterModel 217 "TuneSetterModel" "signed" "Z" : Cond) ∈ WALL := W_of (in_t3 (List.mem_of_getElem? (i := 198) rfl)) rfl
theorem m_TuneSetterModel_226 : (.fieldLink R_TuneSetterModel 226 "TuneSetterModel" "sign" "I" : Cond) ∈ WALL := W_of (in_t3 (List.mem_of_getElem? (i := 197) rfl)) rfl
theorem m_TuneSetterModel_153 : (.methodLink R_TuneSetterModel 153 y_TuneSetterModel_toneOf : Cond) ∈ WALL := W_of (in_t4 (List.mem_of_getElem? (i := 127) rfl)) rfl
theorem m_TuneSetterModel_156 : (.methodLink R_TuneSetterModel 156 y_TuneSetterModel_noteDone : Cond) ∈ WALL := W_of (in_t4 (List.mem_of_getElem? (i := 137) rfl)) rfl
theorem m_TuneSetterModel_208 : (.fieldLink R_TuneSetterModel 208 "TuneSetterModel" "lineStart" "I" : Cond) ∈ WALL := W_of (in_t3 (List.mem_of_getElem? (i := 193) rfl)) rfl
theorem m_TuneSetterModel_178 : (.methodLink R_TuneSetterModel 178 y_TuneSetterModel_beginLine : Cond) ∈ WALL := W_of (in_t4 (List.mem_of_getElem? (i := 182) rfl)) rfl
theorem m_TuneSetterModel_114 : (.methodLink R_TuneSetterModel 114 y_TuneSetterModel_letterOf : Cond) ∈ WALL := W_of (in_t4 (List.mem_of_getElem? (i := 159) rfl)) rfl
theorem m_TuneSetterModel_118 : (.methodLink R_TuneSetterModel 118 y_TuneSetterModel_beginsNote : Cond) ∈ WALL := W_of (in_t4 (List.mem_of_getElem? (i := 156) rfl)) rfl
theorem m_TuneSetterModel_211 : (.methodLink R_TuneSetterModel 211 y_TuneSetterModel_beginsItem : Cond) ∈ WALL := W_of (in_t4 (List.mem_of_getElem? (i := 153) rfl)) rfl
theorem m_TuneSetterModel_32 : (.fieldLink R_TuneSetterModel 32 "TuneSetterModel" "barTicks" "[I" : Cond) ∈ WALL := W_of (in_t3 (List.mem_of_getElem? (i := 184) rfl)) rfl
theorem m_TuneSetterModel_214 : (.methodLink R_TuneSetterModel 214 y_TuneSetterModel_full : Cond) ∈ WALL := W_of (in_t4 (List.mem_of_getElem? (i := 178) rfl)) rfl
theorem m_TuneSetterModel_45 : (.fieldLink R_TuneSetterModel 45 "TuneSetterModel" "signs" "[I" : Cond) ∈ WALL := W_of (in_t3 (List.mem_of_getElem? (i := 189) rfl)) rfl
theorem m_TuneSetterModel_163 : (.fieldLink R_TuneSetterModel 163 "TuneSetterModel" "rest" "Z" : Cond) ∈ WALL := W_of (in_t3 (List.mem_of_getElem? (i := 195) rfl)) rfl
theorem m_TuneSetterModel_190 : (.methodLink R_TuneSetterModel 190 y_TuneSetterModel_openItem : Cond) ∈ WALL := W_of (in_t4 (List.mem_of_getElem? (i := 162) rfl)) rfl
theorem m_TuneSetterModel_223 : (.methodLink R_TuneSetterModel 223 y_TuneSetterModel_openLetter : Cond) ∈ WALL := W_of (in_t4 (List.mem_of_getElem? (i := 174) rfl)) rfl
theorem m_TuneSetterModel_220 : (.methodLink R_TuneSetterModel 220 y_TuneSetterModel_beginNote : Cond) ∈ WALL := W_of (in_t4 (List.mem_of_getElem? (i := 170) rfl)) rfl
theorem m_TuneSetterModel_199 : (.methodLink R_TuneSetterModel 199 y_TuneSetterModel_core : Cond) ∈ WALL := W_of (in_t4 (List.mem_of_getElem? (i := 166) rfl)) rfl
theorem m_TuneSetterModel_196 : (.methodLink R_TuneSetterModel 196 y_TuneSetterModel_beginItem : Cond) ∈ WALL := W_of (in_t4 (List.mem_of_getElem? (i := 149) rfl)) rfl
theorem m_TuneSetterModel_181 : (.methodLink R_TuneSetterModel 181 y_TuneSetterModel_beginBar : Cond) ∈ WALL := W_of (in_t4 (List.mem_of_getElem? (i := 198) rfl)) rfl
theorem m_TuneSetterModel_187 : (.methodLink R_TuneSetterModel 187 y_TuneSetterModel_behind : Cond) ∈ WALL := W_of (in_t4 (List.mem_of_getElem? (i := 206) rfl)) rfl
theorem m_TuneSetterModel_184 : (.methodLink R_TuneSetterModel 184 y_TuneSetterModel_goOnLine : Cond) ∈ WALL := W_of (in_t4 (List.mem_of_getElem? (i := 202) rfl)) rfl
theorem m_TuneSetterModel_172 : (.methodLink R_TuneSetterModel 172 y_TuneSetterModel_inChord : Cond) ∈ WALL := W_of (in_t4 (List.mem_of_getElem? (i := 190) rfl)) rfl
theorem m_TuneSetterModel_193 : (.methodLink R_TuneSetterModel 193 y_TuneSetterModel_openChord : Cond) ∈ WALL := W_of (in_t4 (List.mem_of_getElem? (i := 210) rfl)) rfl
theorem m_TuneSetterModel_202 : (.methodLink R_TuneSetterModel 202 y_TuneSetterModel_goOnSign : Cond) ∈ WALL := W_of (in_t4 (List.mem_of_getElem? (i := 214) rfl)) rfl
theorem m_TuneSetterModel_166 : (.methodLink R_TuneSetterModel 166 y_TuneSetterModel_inside : Cond) ∈ WALL := W_of (in_t4 (List.mem_of_getElem? (i := 145) rfl)) rfl
theorem m_TuneSetterModel_175 : (.methodLink R_TuneSetterModel 175 y_TuneSetterModel_go : Cond) ∈ WALL := W_of (in_t4 (List.mem_of_getElem? (i := 194) rfl)) rfl
theorem m_TuneSetterModel_169 : (.methodLink R_TuneSetterModel 169 y_TuneSetterModel_count : Cond) ∈ WALL := W_of (in_t4 (List.mem_of_getElem? (i := 186) rfl)) rfl
theorem m_TuneSetterModel_160 : (.methodLink R_TuneSetterModel 160 y_TuneSetterModel_itemDone : Cond) ∈ WALL := W_of (in_t4 (List.mem_of_getElem? (i := 141) rfl)) rfl
theorem m_TuneSetterModel_106 : (.methodLink R_TuneSetterModel 106 y_TuneSetterModel_next : Cond) ∈ WALL := W_of (in_t4 (List.mem_of_getElem? (i := 96) rfl)) rfl
theorem m_TuneSetterModel_266 : (.methodLink R_TuneSetterModel 266 y_TuneSetterModel_widthOf : Cond) ∈ WALL := W_of (in_t5 (List.mem_of_getElem? (i := 18) rfl)) rfl
theorem m_TuneSetterModel_269 : (.fieldLink R_TuneSetterModel 269 "TuneSetterModel" "made" "I" : Cond) ∈ WALL := W_of (in_t3 (List.mem_of_getElem? (i := 215) rfl)) rfl
theorem m_TuneSetterModel_279 : (.constantLong R_TuneSetterModel 279 (-1) : Cond) ∈ WALL := W_of (in_t5 (List.mem_of_getElem? (i := 26) rfl)) rfl
theorem m_TuneSetterModel_72 : (.fieldLink R_TuneSetterModel 72 "TuneSetterModel" "bytes" "[I" : Cond) ∈ WALL := W_of (in_t3 (List.mem_of_getElem? (i := 216) rfl)) rfl
theorem m_TuneSetterModel_272 : (.methodLink R_TuneSetterModel 272 y_TuneSetterModel_emit : Cond) ∈ WALL := W_of (in_t5 (List.mem_of_getElem? (i := 37) rfl)) rfl
theorem m_TuneSetterModel_290 : (.methodLink R_TuneSetterModel 290 y_TuneSetterModel_heading : Cond) ∈ WALL := W_of (in_t5 (List.mem_of_getElem? (i := 42) rfl)) rfl
theorem m_TuneSetterModel_275 : (.constantLong R_TuneSetterModel 275 256 : Cond) ∈ WALL := W_of (in_t5 (List.mem_of_getElem? (i := 31) rfl)) rfl
theorem m_TuneSetterModel_277 : (.constantLong R_TuneSetterModel 277 128 : Cond) ∈ WALL := W_of (in_t5 (List.mem_of_getElem? (i := 32) rfl)) rfl
theorem m_TuneSetterModel_281 : (.methodLink R_TuneSetterModel 281 y_TuneSetterModel_order : Cond) ∈ WALL := W_of (in_t5 (List.mem_of_getElem? (i := 27) rfl)) rfl
theorem m_TuneSetterModel_285 : (.methodLink R_TuneSetterModel 285 y_TuneSetterModel_emitGap : Cond) ∈ WALL := W_of (in_t5 (List.mem_of_getElem? (i := 33) rfl)) rfl
theorem m_TuneSetterModel_288 : (.constantLong R_TuneSetterModel 288 2 : Cond) ∈ WALL := W_of (in_t5 (List.mem_of_getElem? (i := 41) rfl)) rfl
theorem m_TuneSetterModel_75 : (.fieldLink R_TuneSetterModel 75 "TuneSetterModel" "cost" "[I" : Cond) ∈ WALL := W_of (in_t3 (List.mem_of_getElem? (i := 217) rfl)) rfl
theorem m_TuneSetterModel_78 : (.fieldLink R_TuneSetterModel 78 "TuneSetterModel" "rows" "[I" : Cond) ∈ WALL := W_of (in_t3 (List.mem_of_getElem? (i := 218) rfl)) rfl
theorem m_TuneSetterModel_293 : (.methodLink R_TuneSetterModel 293 y_TuneSetterModel_broken : Cond) ∈ WALL := W_of (in_t5 (List.mem_of_getElem? (i := 54) rfl)) rfl
theorem m_Tune_3 : (.methodLink R_Tune 3 objectInit : Cond) ∈ WALL := W_of (in_t1 (List.mem_of_getElem? (i := 30) rfl)) rfl
theorem m_PitchFinder_1 : (.methodLink R_PitchFinder 1 objectInit : Cond) ∈ WALL := W_of (in_t1 (List.mem_of_getElem? (i := 90) rfl)) rfl
theorem m_ItemLength_1 : (.methodLink R_ItemLength 1 objectInit : Cond) ∈ WALL := W_of (in_t1 (List.mem_of_getElem? (i := 112) rfl)) rfl
theorem m_Reader_5 : (.methodLink R_Reader 5 objectInit : Cond) ∈ WALL := W_of (in_t1 (List.mem_of_getElem? (i := 24) rfl)) rfl
theorem m_Reader_11 : (.classLink R_Reader 11 R_Tune : Cond) ∈ WALL := W_of (in_t1 (List.mem_of_getElem? (i := 25) rfl)) rfl
theorem mt_Tune : (.instantiable R_Tune 12 : Cond) ∈ WALL := W_of (in_t1 (List.mem_of_getElem? (i := 26) rfl)) rfl
theorem m_Reader_18 : (.classLink R_Reader 18 R_PitchFinder : Cond) ∈ WALL := W_of (in_t1 (List.mem_of_getElem? (i := 85) rfl)) rfl
theorem mt_PitchFinder : (.instantiable R_PitchFinder 5 : Cond) ∈ WALL := W_of (in_t1 (List.mem_of_getElem? (i := 86) rfl)) rfl
theorem m_Reader_25 : (.classLink R_Reader 25 R_ItemLength : Cond) ∈ WALL := W_of (in_t1 (List.mem_of_getElem? (i := 107) rfl)) rfl
theorem mt_ItemLength : (.instantiable R_ItemLength 3 : Cond) ∈ WALL := W_of (in_t1 (List.mem_of_getElem? (i := 108) rfl)) rfl
theorem m_Playing_3 : (.methodLink R_Playing 3 objectInit : Cond) ∈ WALL := W_of (in_t1 (List.mem_of_getElem? (i := 180) rfl)) rfl
theorem m_NoteFile_5 : (.methodLink R_NoteFile 5 objectInit : Cond) ∈ WALL := W_of (in_t1 (List.mem_of_getElem? (i := 226) rfl)) rfl
theorem m_LineBreaker_3 : (.methodLink R_LineBreaker 3 objectInit : Cond) ∈ WALL := W_of (in_t2 (List.mem_of_getElem? (i := 7) rfl)) rfl
theorem m_TuneSetter_1 : (.methodLink R_TuneSetter 1 objectInit : Cond) ∈ WALL := W_of (in_t1 (List.mem_of_getElem? (i := 16) rfl)) rfl
theorem m_TuneSetter_13 : (.classLink R_TuneSetter 13 R_Reader : Cond) ∈ WALL := W_of (in_t1 (List.mem_of_getElem? (i := 19) rfl)) rfl
theorem mt_Reader : (.instantiable R_Reader 16 : Cond) ∈ WALL := W_of (in_t1 (List.mem_of_getElem? (i := 20) rfl)) rfl
theorem m_TuneSetter_20 : (.classLink R_TuneSetter 20 R_Playing : Cond) ∈ WALL := W_of (in_t1 (List.mem_of_getElem? (i := 175) rfl)) rfl
theorem mt_Playing : (.instantiable R_Playing 10 : Cond) ∈ WALL := W_of (in_t1 (List.mem_of_getElem? (i := 176) rfl)) rfl
theorem m_TuneSetter_27 : (.classLink R_TuneSetter 27 R_NoteFile : Cond) ∈ WALL := W_of (in_t1 (List.mem_of_getElem? (i := 221) rfl)) rfl
theorem mt_NoteFile : (.instantiable R_NoteFile 4 : Cond) ∈ WALL := W_of (in_t1 (List.mem_of_getElem? (i := 222) rfl)) rfl
theorem m_TuneSetter_34 : (.classLink R_TuneSetter 34 R_LineBreaker : Cond) ∈ WALL := W_of (in_t2 (List.mem_of_getElem? (i := 2) rfl)) rfl
theorem mt_LineBreaker : (.instantiable R_LineBreaker 2 : Cond) ∈ WALL := W_of (in_t2 (List.mem_of_getElem? (i := 3) rfl)) rfl
theorem m_TuneSetterModel_1 : (.methodLink R_TuneSetterModel 1 objectInit : Cond) ∈ WALL := W_of (in_t3 (List.mem_of_getElem? (i := 172) rfl)) rfl
theorem mn_objectInit : (.instanceMethod objectInit : Cond) ∈ WALL := W_of (in_t1 (List.mem_of_getElem? (i := 17) rfl)) rfl
theorem mc_objectInit : (.code objectInit ⟨#[0xb1]⟩ 1 none : Cond) ∈ WALL := W_of (in_t1 (List.mem_of_getElem? (i := 18) rfl)) rfl
theorem ma_I : (.arrayClass .int : Cond) ∈ WALL := W_of (in_t1 (List.mem_of_getElem? (i := 83) rfl)) rfl
theorem ma_C : (.arrayClass .char : Cond) ∈ WALL := W_of (in_t1 (List.mem_of_getElem? (i := 82) rfl)) rfl
theorem ma_Z : (.arrayClass .boolean : Cond) ∈ WALL := W_of (in_t1 (List.mem_of_getElem? (i := 84) rfl)) rfl
theorem in_TuneSetter : ∀ w ∈ u_ws R_TuneSetter F_TuneSetter 11, w ∈ WALL := by
  intro w h
  obtain ⟨k, hk, rfl⟩ := List.mem_map.mp h
  have hk := List.mem_range.mp hk
  rcases (show k = 0 ∨ k = 1 ∨ k = 2 ∨ k = 3 ∨ k = 4 ∨ k = 5 ∨ k = 6 ∨ k = 7 ∨ k = 8 ∨ k = 9 ∨ k = 10 by omega) with rfl | rfl | rfl | rfl | rfl | rfl | rfl | rfl | rfl | rfl | rfl
  · exact W_of (in_t2 (List.mem_of_getElem? (i := 28) rfl)) rfl
  · exact W_of (in_t2 (List.mem_of_getElem? (i := 30) rfl)) rfl
  · exact W_of (in_t2 (List.mem_of_getElem? (i := 32) rfl)) rfl
  · exact W_of (in_t2 (List.mem_of_getElem? (i := 34) rfl)) rfl
  · exact W_of (in_t2 (List.mem_of_getElem? (i := 36) rfl)) rfl
  · exact W_of (in_t2 (List.mem_of_getElem? (i := 38) rfl)) rfl
  · exact W_of (in_t2 (List.mem_of_getElem? (i := 40) rfl)) rfl
  · exact W_of (in_t2 (List.mem_of_getElem? (i := 42) rfl)) rfl
  · exact W_of (in_t2 (List.mem_of_getElem? (i := 44) rfl)) rfl
  · exact W_of (in_t2 (List.mem_of_getElem? (i := 46) rfl)) rfl
  · exact W_of (in_t2 (List.mem_of_getElem? (i := 48) rfl)) rfl
theorem in_Reader : ∀ w ∈ u_ws R_Reader F_Reader 16, w ∈ WALL := by
  intro w h
  obtain ⟨k, hk, rfl⟩ := List.mem_map.mp h
  have hk := List.mem_range.mp hk
  rcases (show k = 0 ∨ k = 1 ∨ k = 2 ∨ k = 3 ∨ k = 4 ∨ k = 5 ∨ k = 6 ∨ k = 7 ∨ k = 8 ∨ k = 9 ∨ k = 10 ∨ k = 11 ∨ k = 12 ∨ k = 13 ∨ k = 14 ∨ k = 15 by omega) with rfl | rfl | rfl | rfl | rfl | rfl | rfl | rfl | rfl | rfl | rfl | rfl | rfl | rfl | rfl | rfl
  · exact W_of (in_t1 (List.mem_of_getElem? (i := 142) rfl)) rfl
  · exact W_of (in_t1 (List.mem_of_getElem? (i := 144) rfl)) rfl
  · exact W_of (in_t1 (List.mem_of_getElem? (i := 146) rfl)) rfl
  · exact W_of (in_t1 (List.mem_of_getElem? (i := 148) rfl)) rfl
  · exact W_of (in_t1 (List.mem_of_getElem? (i := 150) rfl)) rfl
  · exact W_of (in_t1 (List.mem_of_getElem? (i := 152) rfl)) rfl
  · exact W_of (in_t1 (List.mem_of_getElem? (i := 154) rfl)) rfl
  · exact W_of (in_t1 (List.mem_of_getElem? (i := 156) rfl)) rfl
  · exact W_of (in_t1 (List.mem_of_getElem? (i := 158) rfl)) rfl
  · exact W_of (in_t1 (List.mem_of_getElem? (i := 160) rfl)) rfl
  · exact W_of (in_t1 (List.mem_of_getElem? (i := 162) rfl)) rfl
  · exact W_of (in_t1 (List.mem_of_getElem? (i := 164) rfl)) rfl
  · exact W_of (in_t1 (List.mem_of_getElem? (i := 166) rfl)) rfl
  · exact W_of (in_t1 (List.mem_of_getElem? (i := 168) rfl)) rfl
  · exact W_of (in_t1 (List.mem_of_getElem? (i := 170) rfl)) rfl
  · exact W_of (in_t1 (List.mem_of_getElem? (i := 172) rfl)) rfl
theorem in_Tune : ∀ w ∈ u_ws R_Tune F_Tune 12, w ∈ WALL := by
  intro w h
  obtain ⟨k, hk, rfl⟩ := List.mem_map.mp h
  have hk := List.mem_range.mp hk
  rcases (show k = 0 ∨ k = 1 ∨ k = 2 ∨ k = 3 ∨ k = 4 ∨ k = 5 ∨ k = 6 ∨ k = 7 ∨ k = 8 ∨ k = 9 ∨ k = 10 ∨ k = 11 by omega) with rfl | rfl | rfl | rfl | rfl | rfl | rfl | rfl | rfl | rfl | rfl | rfl
  · exact W_of (in_t1 (List.mem_of_getElem? (i := 57) rfl)) rfl
  · exact W_of (in_t1 (List.mem_of_getElem? (i := 59) rfl)) rfl
  · exact W_of (in_t1 (List.mem_of_getElem? (i := 61) rfl)) rfl
  · exact W_of (in_t1 (List.mem_of_getElem? (i := 63) rfl)) rfl
  · exact W_of (in_t1 (List.mem_of_getElem? (i := 65) rfl)) rfl
  · exact W_of (in_t1 (List.mem_of_getElem? (i := 67) rfl)) rfl
  · exact W_of (in_t1 (List.mem_of_getElem? (i := 69) rfl)) rfl
  · exact W_of (in_t1 (List.mem_of_getElem? (i := 71) rfl)) rfl
  · exact W_of (in_t1 (List.mem_of_getElem? (i := 73) rfl)) rfl
  · exact W_of (in_t1 (List.mem_of_getElem? (i := 75) rfl)) rfl
  · exact W_of (in_t1 (List.mem_of_getElem? (i := 77) rfl)) rfl
  · exact W_of (in_t1 (List.mem_of_getElem? (i := 79) rfl)) rfl
theorem in_PitchFinder : ∀ w ∈ u_ws R_PitchFinder F_PitchFinder 5, w ∈ WALL := by
  intro w h
  obtain ⟨k, hk, rfl⟩ := List.mem_map.mp h
  have hk := List.mem_range.mp hk
  rcases (show k = 0 ∨ k = 1 ∨ k = 2 ∨ k = 3 ∨ k = 4 by omega) with rfl | rfl | rfl | rfl | rfl
  · exact W_of (in_t1 (List.mem_of_getElem? (i := 96) rfl)) rfl
  · exact W_of (in_t1 (List.mem_of_getElem? (i := 98) rfl)) rfl
  · exact W_of (in_t1 (List.mem_of_getElem? (i := 100) rfl)) rfl
  · exact W_of (in_t1 (List.mem_of_getElem? (i := 102) rfl)) rfl
  · exact W_of (in_t1 (List.mem_of_getElem? (i := 104) rfl)) rfl
theorem in_ItemLength : ∀ w ∈ u_ws R_ItemLength F_ItemLength 3, w ∈ WALL := by
  intro w h
  obtain ⟨k, hk, rfl⟩ := List.mem_map.mp h
  have hk := List.mem_range.mp hk
  rcases (show k = 0 ∨ k = 1 ∨ k = 2 by omega) with rfl | rfl | rfl
  · exact W_of (in_t1 (List.mem_of_getElem? (i := 116) rfl)) rfl
  · exact W_of (in_t1 (List.mem_of_getElem? (i := 118) rfl)) rfl
  · exact W_of (in_t1 (List.mem_of_getElem? (i := 120) rfl)) rfl
theorem in_Playing : ∀ w ∈ u_ws R_Playing F_Playing 10, w ∈ WALL := by
  intro w h
  obtain ⟨k, hk, rfl⟩ := List.mem_map.mp h
  have hk := List.mem_range.mp hk
  rcases (show k = 0 ∨ k = 1 ∨ k = 2 ∨ k = 3 ∨ k = 4 ∨ k = 5 ∨ k = 6 ∨ k = 7 ∨ k = 8 ∨ k = 9 by omega) with rfl | rfl | rfl | rfl | rfl | rfl | rfl | rfl | rfl | rfl
  · exact W_of (in_t1 (List.mem_of_getElem? (i := 200) rfl)) rfl
  · exact W_of (in_t1 (List.mem_of_getElem? (i := 202) rfl)) rfl
  · exact W_of (in_t1 (List.mem_of_getElem? (i := 204) rfl)) rfl
  · exact W_of (in_t1 (List.mem_of_getElem? (i := 206) rfl)) rfl
  · exact W_of (in_t1 (List.mem_of_getElem? (i := 208) rfl)) rfl
  · exact W_of (in_t1 (List.mem_of_getElem? (i := 210) rfl)) rfl
  · exact W_of (in_t1 (List.mem_of_getElem? (i := 212) rfl)) rfl
  · exact W_of (in_t1 (List.mem_of_getElem? (i := 214) rfl)) rfl
  · exact W_of (in_t1 (List.mem_of_getElem? (i := 216) rfl)) rfl
  · exact W_of (in_t1 (List.mem_of_getElem? (i := 218) rfl)) rfl
theorem in_NoteFile : ∀ w ∈ u_ws R_NoteFile F_NoteFile 4, w ∈ WALL := by
  intro w h
  obtain ⟨k, hk, rfl⟩ := List.mem_map.mp h
  have hk := List.mem_range.mp hk
  rcases (show k = 0 ∨ k = 1 ∨ k = 2 ∨ k = 3 by omega) with rfl | rfl | rfl | rfl
  · exact W_of (in_t1 (List.mem_of_getElem? (i := 233) rfl)) rfl
  · exact W_of (in_t1 (List.mem_of_getElem? (i := 235) rfl)) rfl
  · exact W_of (in_t1 (List.mem_of_getElem? (i := 237) rfl)) rfl
  · exact W_of (in_t1 (List.mem_of_getElem? (i := 239) rfl)) rfl
theorem in_LineBreaker : ∀ w ∈ u_ws R_LineBreaker F_LineBreaker 2, w ∈ WALL := by
  intro w h
  obtain ⟨k, hk, rfl⟩ := List.mem_map.mp h
  have hk := List.mem_range.mp hk
  rcases (show k = 0 ∨ k = 1 by omega) with rfl | rfl
  · exact W_of (in_t2 (List.mem_of_getElem? (i := 12) rfl)) rfl
  · exact W_of (in_t2 (List.mem_of_getElem? (i := 14) rfl)) rfl
theorem in_TuneSetterModel : ∀ w ∈ u_ws R_TuneSetterModel F_TuneSetterModel 46, w ∈ WALL := by
  intro w h
  obtain ⟨k, hk, rfl⟩ := List.mem_map.mp h
  have hk := List.mem_range.mp hk
  rcases (show k = 0 ∨ k = 1 ∨ k = 2 ∨ k = 3 ∨ k = 4 ∨ k = 5 ∨ k = 6 ∨ k = 7 ∨ k = 8 ∨ k = 9 ∨ k = 10 ∨ k = 11 ∨ k = 12 ∨ k = 13 ∨ k = 14 ∨ k = 15 ∨ k = 16 ∨ k = 17 ∨ k = 18 ∨ k = 19 ∨ k = 20 ∨ k = 21 ∨ k = 22 ∨ k = 23 ∨ k = 24 ∨ k = 25 ∨ k = 26 ∨ k = 27 ∨ k = 28 ∨ k = 29 ∨ k = 30 ∨ k = 31 ∨ k = 32 ∨ k = 33 ∨ k = 34 ∨ k = 35 ∨ k = 36 ∨ k = 37 ∨ k = 38 ∨ k = 39 ∨ k = 40 ∨ k = 41 ∨ k = 42 ∨ k = 43 ∨ k = 44 ∨ k = 45 by omega) with rfl | rfl | rfl | rfl | rfl | rfl | rfl | rfl | rfl | rfl | rfl | rfl | rfl | rfl | rfl | rfl | rfl | rfl | rfl | rfl | rfl | rfl | rfl | rfl | rfl | rfl | rfl | rfl | rfl | rfl | rfl | rfl | rfl | rfl | rfl | rfl | rfl | rfl | rfl | rfl | rfl | rfl | rfl | rfl | rfl | rfl
  · exact W_of (in_t3 (List.mem_of_getElem? (i := 219) rfl)) rfl
  · exact W_of (in_t3 (List.mem_of_getElem? (i := 221) rfl)) rfl
  · exact W_of (in_t3 (List.mem_of_getElem? (i := 223) rfl)) rfl
  · exact W_of (in_t3 (List.mem_of_getElem? (i := 225) rfl)) rfl
  · exact W_of (in_t3 (List.mem_of_getElem? (i := 227) rfl)) rfl
  · exact W_of (in_t3 (List.mem_of_getElem? (i := 229) rfl)) rfl
  · exact W_of (in_t3 (List.mem_of_getElem? (i := 231) rfl)) rfl
  · exact W_of (in_t3 (List.mem_of_getElem? (i := 233) rfl)) rfl
  · exact W_of (in_t3 (List.mem_of_getElem? (i := 235) rfl)) rfl
  · exact W_of (in_t3 (List.mem_of_getElem? (i := 237) rfl)) rfl
  · exact W_of (in_t3 (List.mem_of_getElem? (i := 239) rfl)) rfl
  · exact W_of (in_t4 (List.mem_of_getElem? (i := 1) rfl)) rfl
  · exact W_of (in_t4 (List.mem_of_getElem? (i := 3) rfl)) rfl
  · exact W_of (in_t4 (List.mem_of_getElem? (i := 5) rfl)) rfl
  · exact W_of (in_t4 (List.mem_of_getElem? (i := 7) rfl)) rfl
  · exact W_of (in_t4 (List.mem_of_getElem? (i := 9) rfl)) rfl
  · exact W_of (in_t4 (List.mem_of_getElem? (i := 11) rfl)) rfl
  · exact W_of (in_t4 (List.mem_of_getElem? (i := 13) rfl)) rfl
  · exact W_of (in_t4 (List.mem_of_getElem? (i := 15) rfl)) rfl
  · exact W_of (in_t4 (List.mem_of_getElem? (i := 17) rfl)) rfl
  · exact W_of (in_t4 (List.mem_of_getElem? (i := 19) rfl)) rfl
  · exact W_of (in_t4 (List.mem_of_getElem? (i := 21) rfl)) rfl
  · exact W_of (in_t4 (List.mem_of_getElem? (i := 23) rfl)) rfl
  · exact W_of (in_t4 (List.mem_of_getElem? (i := 25) rfl)) rfl
  · exact W_of (in_t4 (List.mem_of_getElem? (i := 27) rfl)) rfl
  · exact W_of (in_t4 (List.mem_of_getElem? (i := 29) rfl)) rfl
  · exact W_of (in_t4 (List.mem_of_getElem? (i := 31) rfl)) rfl
  · exact W_of (in_t4 (List.mem_of_getElem? (i := 33) rfl)) rfl
  · exact W_of (in_t4 (List.mem_of_getElem? (i := 35) rfl)) rfl
  · exact W_of (in_t4 (List.mem_of_getElem? (i := 37) rfl)) rfl
  · exact W_of (in_t4 (List.mem_of_getElem? (i := 39) rfl)) rfl
  · exact W_of (in_t4 (List.mem_of_getElem? (i := 41) rfl)) rfl
  · exact W_of (in_t4 (List.mem_of_getElem? (i := 43) rfl)) rfl
  · exact W_of (in_t4 (List.mem_of_getElem? (i := 45) rfl)) rfl
  · exact W_of (in_t4 (List.mem_of_getElem? (i := 47) rfl)) rfl
  · exact W_of (in_t4 (List.mem_of_getElem? (i := 49) rfl)) rfl
  · exact W_of (in_t4 (List.mem_of_getElem? (i := 51) rfl)) rfl
  · exact W_of (in_t4 (List.mem_of_getElem? (i := 53) rfl)) rfl
  · exact W_of (in_t4 (List.mem_of_getElem? (i := 55) rfl)) rfl
  · exact W_of (in_t4 (List.mem_of_getElem? (i := 57) rfl)) rfl
  · exact W_of (in_t4 (List.mem_of_getElem? (i := 59) rfl)) rfl
  · exact W_of (in_t4 (List.mem_of_getElem? (i := 61) rfl)) rfl
  · exact W_of (in_t4 (List.mem_of_getElem? (i := 63) rfl)) rfl
  · exact W_of (in_t4 (List.mem_of_getElem? (i := 65) rfl)) rfl
  · exact W_of (in_t4 (List.mem_of_getElem? (i := 67) rfl)) rfl
  · exact W_of (in_t4 (List.mem_of_getElem? (i := 69) rfl)) rfl
