/-! ===== BEGIN words of one list among another's, by their places ===== -/
theorem goodIn_r {big : List Cond} (ws : List Cond) (ps : List Nat) (hp : ws = ps.filterMap (fun i => big[i]?)) (h : ws.all goodWord = true) : GoodIn big ws := by
  intro w hw
  have h1 := List.all_eq_true.mp h w hw
  rw [hp] at hw
  obtain ⟨i, -, hi⟩ := List.mem_filterMap.mp hw
  have hm : w ∈ big := by first | exact List.mem_of_getElem? hi | exact List.getElem?_mem hi
  exact ⟨hm, good_of_word h1⟩
theorem goodIn_app {big a b : List Cond} (ha : GoodIn big a) (hb : GoodIn big b) : GoodIn big (a ++ b) := fun w h => (List.mem_append.mp h).elim (ha w) (hb w)
theorem goodIn_ca {big a b : List Cond} {c : Cond} (ha : GoodIn big (c :: a)) (hb : GoodIn big b) : GoodIn big (c :: (a ++ b)) := fun w h => (List.mem_cons.mp h).elim (fun e => ha w (List.mem_cons.mpr (Or.inl e))) (fun h => (List.mem_append.mp h).elim (fun h => ha w (List.mem_cons.mpr (Or.inr h))) (hb w))
theorem goodIn_sub {big ws : List Cond} (hm : ∀ w ∈ ws, w ∈ big) (h : ws.all goodWord = true) : GoodIn big ws := fun w hw => ⟨hm w hw, good_of_word (List.all_eq_true.mp h w hw)⟩
/-! ===== END ===== -/

/-! ===== BEGIN printed: names, fields, word lists, decode rows ===== -/
def RX0 : String := "PramState$Bear"
def TX0 : u_T := fun k => match k with
  | _ => ("", "", "", false)
def tyX0 : Nat → FieldType := fun k => match k with
  | _ => .int
abbrev wsX00 : List Cond := u_ws RX0 TX0 0
theorem nmX0 : ∀ a, a < 0 → ∀ b, b < 0 → a ≠ b → (TX0 a).2.1 ≠ (TX0 b).2.1 := by decide +kernel
theorem tyX0_ok : ∀ k, k < 0 → parseFieldDescriptor (TX0 k).2.2.1 = some (tyX0 k) := by decide +kernel
abbrev cX0_init : ByteArray := prog_2_method_1_code
def yX0_init : MethodName := ⟨RX0, "<init>", "()V"⟩
abbrev cX0_sleepsIn : ByteArray := prog_2_method_2_code
def yX0_sleepsIn : MethodName := ⟨RX0, "sleepsIn", "(I)Z"⟩
abbrev cX0_criesAwake : ByteArray := prog_2_method_3_code
def yX0_criesAwake : MethodName := ⟨RX0, "criesAwake", "(I)I"⟩
def RX1 : String := "PramState$Court"
def TX1 : u_T := fun k => match k with
  | 0 => ("PramState$Court", "kinds", "[LPramState$Plain;", true)
  | 1 => ("PramState$Court", "kind", "[I", true)
  | 2 => ("PramState$Court", "months", "[I", true)
  | 3 => ("PramState$Court", "home", "[I", true)
  | 4 => ("PramState$Court", "nurse", "[I", true)
  | 5 => ("PramState$Court", "skills", "[I", true)
  | 6 => ("PramState$Court", "noteRow", "[I", true)
  | 7 => ("PramState$Court", "soundRow", "[I", true)
  | 8 => ("PramState$Court", "pastRow", "[I", true)
  | 9 => ("PramState$Court", "infants", "I", false)
  | 10 => ("PramState$Court", "retired", "I", false)
  | 11 => ("PramState$Court", "month", "I", false)
  | 12 => ("PramState$Court", "notes", "I", false)
  | 13 => ("PramState$Court", "sounds", "I", false)
  | _ => ("PramState$Court", "pasts", "I", false)
def tyX1 : Nat → FieldType := fun k => match k with
  | 0 => .array (.object "PramState$Plain")
  | 1 => .array .int
  | 2 => .array .int
  | 3 => .array .int
  | 4 => .array .int
  | 5 => .array .int
  | 6 => .array .int
  | 7 => .array .int
  | 8 => .array .int
  | 9 => .int
  | 10 => .int
  | 11 => .int
  | 12 => .int
  | 13 => .int
  | _ => .int
abbrev wsX10 : List Cond := u_ws RX1 TX1 15
theorem nmX1 : ∀ a, a < 15 → ∀ b, b < 15 → a ≠ b → (TX1 a).2.1 ≠ (TX1 b).2.1 := by decide +kernel
theorem tyX1_ok : ∀ k, k < 15 → parseFieldDescriptor (TX1 k).2.2.1 = some (tyX1 k) := by decide +kernel
abbrev cX1_init : ByteArray := prog_3_method_1_code
def yX1_init : MethodName := ⟨RX1, "<init>", "([LPramState$Plain;)V"⟩
abbrev cX1_begin : ByteArray := prog_3_method_2_code
def yX1_begin : MethodName := ⟨RX1, "begin", "()V"⟩
abbrev cX1_copyFrom : ByteArray := prog_3_method_3_code
def yX1_copyFrom : MethodName := ⟨RX1, "copyFrom", "(LPramState$Court;)V"⟩
abbrev cX1_add : ByteArray := prog_3_method_4_code
def yX1_add : MethodName := ⟨RX1, "add", "(III)V"⟩
abbrev cX1_setSkill : ByteArray := prog_3_method_5_code
def yX1_setSkill : MethodName := ⟨RX1, "setSkill", "(II)V"⟩
abbrev cX1_addNote : ByteArray := prog_3_method_6_code
def yX1_addNote : MethodName := ⟨RX1, "addNote", "(IIIII)V"⟩
abbrev cX1_addSound : ByteArray := prog_3_method_7_code
def yX1_addSound : MethodName := ⟨RX1, "addSound", "(II)V"⟩
abbrev cX1_remember : ByteArray := prog_3_method_8_code
def yX1_remember : MethodName := ⟨RX1, "remember", "()V"⟩
abbrev cX1_recall : ByteArray := prog_3_method_9_code
def yX1_recall : MethodName := ⟨RX1, "recall", "()V"⟩
abbrev cX1_passMonth : ByteArray := prog_3_method_10_code
def yX1_passMonth : MethodName := ⟨RX1, "passMonth", "()V"⟩
abbrev cX1_isRetired : ByteArray := prog_3_method_11_code
def yX1_isRetired : MethodName := ⟨RX1, "isRetired", "(I)Z"⟩
abbrev cX1_walkingAge : ByteArray := prog_3_method_12_code
def yX1_walkingAge : MethodName := ⟨RX1, "walkingAge", "(I)I"⟩
abbrev cX1_isAsleep : ByteArray := prog_3_method_13_code
def yX1_isAsleep : MethodName := ⟨RX1, "isAsleep", "(II)Z"⟩
abbrev cX1_criesAt : ByteArray := prog_3_method_14_code
def yX1_criesAt : MethodName := ⟨RX1, "criesAt", "(III)I"⟩
abbrev cX1_criesAllDay : ByteArray := prog_3_method_15_code
def yX1_criesAllDay : MethodName := ⟨RX1, "criesAllDay", "(II)I"⟩
abbrev cX1_sovereign : ByteArray := prog_3_method_16_code
def yX1_sovereign : MethodName := ⟨RX1, "sovereign", "(I)I"⟩
abbrev cX1_canBeAwakeAt : ByteArray := prog_3_method_17_code
def yX1_canBeAwakeAt : MethodName := ⟨RX1, "canBeAwakeAt", "(III)Z"⟩
abbrev cX1_awakeAt : ByteArray := prog_3_method_18_code
def yX1_awakeAt : MethodName := ⟨RX1, "awakeAt", "(II)I"⟩
abbrev cX1_kindsThatFit : ByteArray := prog_3_method_19_code
def yX1_kindsThatFit : MethodName := ⟨RX1, "kindsThatFit", "(I)I"⟩
abbrev cX1_fitsNotes : ByteArray := prog_3_method_20_code
def yX1_fitsNotes : MethodName := ⟨RX1, "fitsNotes", "(II)Z"⟩
abbrev cX1_manner : ByteArray := prog_3_method_21_code
def yX1_manner : MethodName := ⟨RX1, "manner", "(III)I"⟩
abbrev cX1_mostAlike : ByteArray := prog_3_method_22_code
def yX1_mostAlike : MethodName := ⟨RX1, "mostAlike", "(III)I"⟩
abbrev cX1_mayHaveBeen : ByteArray := prog_3_method_23_code
def yX1_mayHaveBeen : MethodName := ⟨RX1, "mayHaveBeen", "(I)Z"⟩
abbrev cX1_digestFrom : ByteArray := prog_3_method_24_code
def yX1_digestFrom : MethodName := ⟨RX1, "digestFrom", "(J)J"⟩
def RX2 : String := "PramState$CourtText"
def TX2 : u_T := fun k => match k with
  | 0 => ("PramState$CourtText", "draft", "LPramState$Court;", true)
  | 1 => ("PramState$CourtText", "length", "I", false)
  | 2 => ("PramState$CourtText", "bytes", "[B", true)
  | 3 => ("PramState$CourtText", "token", "I", false)
  | 4 => ("PramState$CourtText", "start", "I", false)
  | 5 => ("PramState$CourtText", "behind", "I", false)
  | _ => ("PramState$CourtText", "value", "I", false)
def tyX2 : Nat → FieldType := fun k => match k with
  | 0 => .object "PramState$Court"
  | 1 => .int
  | 2 => .array .byte
  | 3 => .int
  | 4 => .int
  | 5 => .int
  | _ => .int
abbrev wsX20 : List Cond := u_ws RX2 TX2 7
theorem nmX2 : ∀ a, a < 7 → ∀ b, b < 7 → a ≠ b → (TX2 a).2.1 ≠ (TX2 b).2.1 := by decide +kernel
theorem tyX2_ok : ∀ k, k < 7 → parseFieldDescriptor (TX2 k).2.2.1 = some (tyX2 k) := by decide +kernel
abbrev cX2_init : ByteArray := prog_4_method_1_code
def yX2_init : MethodName := ⟨RX2, "<init>", "(LPramState$Court;)V"⟩
abbrev cX2_append : ByteArray := prog_4_method_2_code
def yX2_append : MethodName := ⟨RX2, "append", "(I)V"⟩
abbrev cX2_readCourt : ByteArray := prog_4_method_3_code
def yX2_readCourt : MethodName := ⟨RX2, "readCourt", "()I"⟩
abbrev cX2_readOpening : ByteArray := prog_4_method_4_code
def yX2_readOpening : MethodName := ⟨RX2, "readOpening", "()Z"⟩
abbrev cX2_readItem : ByteArray := prog_4_method_5_code
def yX2_readItem : MethodName := ⟨RX2, "readItem", "()Z"⟩
abbrev cX2_readInfant : ByteArray := prog_4_method_6_code
def yX2_readInfant : MethodName := ⟨RX2, "readInfant", "()Z"⟩
abbrev cX2_readSkill : ByteArray := prog_4_method_7_code
def yX2_readSkill : MethodName := ⟨RX2, "readSkill", "()Z"⟩
abbrev cX2_readNurse : ByteArray := prog_4_method_8_code
def yX2_readNurse : MethodName := ⟨RX2, "readNurse", "()Z"⟩
abbrev cX2_endItem : ByteArray := prog_4_method_9_code
def yX2_endItem : MethodName := ⟨RX2, "endItem", "()Z"⟩
abbrev cX2_number : ByteArray := prog_4_method_10_code
def yX2_number : MethodName := ⟨RX2, "number", "(I)I"⟩
abbrev cX2_isWord : ByteArray := prog_4_method_11_code
def yX2_isWord : MethodName := ⟨RX2, "isWord", "(Ljava/lang/String;)Z"⟩
abbrev cX2_advance : ByteArray := prog_4_method_12_code
def yX2_advance : MethodName := ⟨RX2, "advance", "()V"⟩
abbrev cX2_takeRun : ByteArray := prog_4_method_13_code
def yX2_takeRun : MethodName := ⟨RX2, "takeRun", "(CC)I"⟩
def RX3 : String := "PramState$Early"
def TX3 : u_T := fun k => match k with
  | _ => ("", "", "", false)
def tyX3 : Nat → FieldType := fun k => match k with
  | _ => .int
abbrev wsX30 : List Cond := u_ws RX3 TX3 0
theorem nmX3 : ∀ a, a < 0 → ∀ b, b < 0 → a ≠ b → (TX3 a).2.1 ≠ (TX3 b).2.1 := by decide +kernel
theorem tyX3_ok : ∀ k, k < 0 → parseFieldDescriptor (TX3 k).2.2.1 = some (tyX3 k) := by decide +kernel
abbrev cX3_init : ByteArray := prog_5_method_1_code
def yX3_init : MethodName := ⟨RX3, "<init>", "()V"⟩
abbrev cX3_walksWith : ByteArray := prog_5_method_2_code
def yX3_walksWith : MethodName := ⟨RX3, "walksWith", "()I"⟩
def RX4 : String := "PramState$Late"
def TX4 : u_T := fun k => match k with
  | _ => ("", "", "", false)
def tyX4 : Nat → FieldType := fun k => match k with
  | _ => .int
abbrev wsX40 : List Cond := u_ws RX4 TX4 0
theorem nmX4 : ∀ a, a < 0 → ∀ b, b < 0 → a ≠ b → (TX4 a).2.1 ≠ (TX4 b).2.1 := by decide +kernel
theorem tyX4_ok : ∀ k, k < 0 → parseFieldDescriptor (TX4 k).2.2.1 = some (tyX4 k) := by decide +kernel
abbrev cX4_init : ByteArray := prog_6_method_1_code
def yX4_init : MethodName := ⟨RX4, "<init>", "()V"⟩
abbrev cX4_sleepsIn : ByteArray := prog_6_method_2_code
def yX4_sleepsIn : MethodName := ⟨RX4, "sleepsIn", "(I)Z"⟩
abbrev cX4_walksWith : ByteArray := prog_6_method_3_code
def yX4_walksWith : MethodName := ⟨RX4, "walksWith", "()I"⟩
def RX5 : String := "PramState$NursePlan"
def TX5 : u_T := fun k => match k with
  | 0 => ("PramState$NursePlan", "dues", "[I", true)
  | 1 => ("PramState$NursePlan", "cost", "[I", true)
  | 2 => ("PramState$NursePlan", "rest", "[I", true)
  | _ => ("PramState$NursePlan", "awaiting", "I", false)
def tyX5 : Nat → FieldType := fun k => match k with
  | 0 => .array .int
  | 1 => .array .int
  | 2 => .array .int
  | _ => .int
abbrev wsX50 : List Cond := u_ws RX5 TX5 4
theorem nmX5 : ∀ a, a < 4 → ∀ b, b < 4 → a ≠ b → (TX5 a).2.1 ≠ (TX5 b).2.1 := by decide +kernel
theorem tyX5_ok : ∀ k, k < 4 → parseFieldDescriptor (TX5 k).2.2.1 = some (tyX5 k) := by decide +kernel
abbrev cX5_init : ByteArray := prog_7_method_1_code
def yX5_init : MethodName := ⟨RX5, "<init>", "()V"⟩
abbrev cX5_weigh : ByteArray := prog_7_method_2_code
def yX5_weigh : MethodName := ⟨RX5, "weigh", "(LPramState$Court;)V"⟩
abbrev cX5_least : ByteArray := prog_7_method_3_code
def yX5_least : MethodName := ⟨RX5, "least", "()I"⟩
abbrev cX5_nurseOf : ByteArray := prog_7_method_4_code
def yX5_nurseOf : MethodName := ⟨RX5, "nurseOf", "(I)I"⟩
abbrev cX5_firstBest : ByteArray := prog_7_method_5_code
def yX5_firstBest : MethodName := ⟨RX5, "firstBest", "(II)I"⟩
abbrev cX5_costOf : ByteArray := prog_7_method_6_code
def yX5_costOf : MethodName := ⟨RX5, "costOf", "(III)I"⟩
def RX6 : String := "PramState$Plain"
def TX6 : u_T := fun k => match k with
  | _ => ("", "", "", false)
def tyX6 : Nat → FieldType := fun k => match k with
  | _ => .int
abbrev wsX60 : List Cond := u_ws RX6 TX6 0
theorem nmX6 : ∀ a, a < 0 → ∀ b, b < 0 → a ≠ b → (TX6 a).2.1 ≠ (TX6 b).2.1 := by decide +kernel
theorem tyX6_ok : ∀ k, k < 0 → parseFieldDescriptor (TX6 k).2.2.1 = some (tyX6 k) := by decide +kernel
abbrev cX6_init : ByteArray := prog_8_method_1_code
def yX6_init : MethodName := ⟨RX6, "<init>", "()V"⟩
abbrev cX6_sleepsIn : ByteArray := prog_8_method_2_code
def yX6_sleepsIn : MethodName := ⟨RX6, "sleepsIn", "(I)Z"⟩
abbrev cX6_criesAwake : ByteArray := prog_8_method_3_code
def yX6_criesAwake : MethodName := ⟨RX6, "criesAwake", "(I)I"⟩
abbrev cX6_walksWith : ByteArray := prog_8_method_4_code
def yX6_walksWith : MethodName := ⟨RX6, "walksWith", "()I"⟩
def RX7 : String := "PramState$Teether"
def TX7 : u_T := fun k => match k with
  | _ => ("", "", "", false)
def tyX7 : Nat → FieldType := fun k => match k with
  | _ => .int
abbrev wsX70 : List Cond := u_ws RX7 TX7 0
theorem nmX7 : ∀ a, a < 0 → ∀ b, b < 0 → a ≠ b → (TX7 a).2.1 ≠ (TX7 b).2.1 := by decide +kernel
theorem tyX7_ok : ∀ k, k < 0 → parseFieldDescriptor (TX7 k).2.2.1 = some (tyX7 k) := by decide +kernel
abbrev cX7_init : ByteArray := prog_9_method_1_code
def yX7_init : MethodName := ⟨RX7, "<init>", "()V"⟩
abbrev cX7_sleepsIn : ByteArray := prog_9_method_2_code
def yX7_sleepsIn : MethodName := ⟨RX7, "sleepsIn", "(I)Z"⟩
abbrev cX7_criesAwake : ByteArray := prog_9_method_3_code
def yX7_criesAwake : MethodName := ⟨RX7, "criesAwake", "(I)I"⟩
def RX8 : String := "PramState$Twin"
def TX8 : u_T := fun k => match k with
  | _ => ("", "", "", false)
def tyX8 : Nat → FieldType := fun k => match k with
  | _ => .int
abbrev wsX80 : List Cond := u_ws RX8 TX8 0
theorem nmX8 : ∀ a, a < 0 → ∀ b, b < 0 → a ≠ b → (TX8 a).2.1 ≠ (TX8 b).2.1 := by decide +kernel
theorem tyX8_ok : ∀ k, k < 0 → parseFieldDescriptor (TX8 k).2.2.1 = some (tyX8 k) := by decide +kernel
abbrev cX8_init : ByteArray := prog_10_method_1_code
def yX8_init : MethodName := ⟨RX8, "<init>", "()V"⟩
abbrev cX8_criesAwake : ByteArray := prog_10_method_2_code
def yX8_criesAwake : MethodName := ⟨RX8, "criesAwake", "(I)I"⟩
def RX9 : String := "PramState"
def TX9 : u_T := fun k => match k with
  | 0 => ("PramState", "now", "LPramState$Court;", true)
  | 1 => ("PramState", "images", "[LPramState$Court;", true)
  | 2 => ("PramState", "kept", "[Z", true)
  | 3 => ("PramState", "text", "LPramState$CourtText;", true)
  | 4 => ("PramState", "plan", "LPramState$NursePlan;", true)
  | 5 => ("PramState", "above", "J", false)
  | 6 => ("PramState", "below", "J", false)
  | 7 => ("PramState", "badCalls", "I", false)
  | 8 => ("PramState", "noCalls", "I", false)
  | _ => ("PramState", "fullCalls", "I", false)
def tyX9 : Nat → FieldType := fun k => match k with
  | 0 => .object "PramState$Court"
  | 1 => .array (.object "PramState$Court")
  | 2 => .array .boolean
  | 3 => .object "PramState$CourtText"
  | 4 => .object "PramState$NursePlan"
  | 5 => .long
  | 6 => .long
  | 7 => .int
  | 8 => .int
  | _ => .int
abbrev wsX90 : List Cond := u_ws RX9 TX9 10
theorem nmX9 : ∀ a, a < 10 → ∀ b, b < 10 → a ≠ b → (TX9 a).2.1 ≠ (TX9 b).2.1 := by decide +kernel
theorem tyX9_ok : ∀ k, k < 10 → parseFieldDescriptor (TX9 k).2.2.1 = some (tyX9 k) := by decide +kernel
abbrev cX9_init : ByteArray := prog_1_method_1_code
def yX9_init : MethodName := ⟨RX9, "<init>", "()V"⟩
abbrev cX9_court : ByteArray := prog_1_method_2_code
def yX9_court : MethodName := ⟨RX9, "court", "()I"⟩
abbrev cX9_infant : ByteArray := prog_1_method_3_code
def yX9_infant : MethodName := ⟨RX9, "infant", "(III)I"⟩
abbrev cX9_skill : ByteArray := prog_1_method_4_code
def yX9_skill : MethodName := ⟨RX9, "skill", "(II)I"⟩
abbrev cX9_type : ByteArray := prog_1_method_5_code
def yX9_type : MethodName := ⟨RX9, "type", "(I)I"⟩
abbrev cX9_clear : ByteArray := prog_1_method_6_code
def yX9_clear : MethodName := ⟨RX9, "clear", "()I"⟩
abbrev cX9_read : ByteArray := prog_1_method_7_code
def yX9_read : MethodName := ⟨RX9, "read", "()I"⟩
abbrev cX9_month : ByteArray := prog_1_method_8_code
def yX9_month : MethodName := ⟨RX9, "month", "(I)I"⟩
abbrev cX9_nurse : ByteArray := prog_1_method_9_code
def yX9_nurse : MethodName := ⟨RX9, "nurse", "(II)I"⟩
abbrev cX9_retire : ByteArray := prog_1_method_10_code
def yX9_retire : MethodName := ⟨RX9, "retire", "(I)I"⟩
abbrev cX9_undo : ByteArray := prog_1_method_11_code
def yX9_undo : MethodName := ⟨RX9, "undo", "()I"⟩
abbrev cX9_of : ByteArray := prog_1_method_12_code
def yX9_of : MethodName := ⟨RX9, "of", "(II)I"⟩
abbrev cX9_hour : ByteArray := prog_1_method_13_code
def yX9_hour : MethodName := ⟨RX9, "hour", "(III)I"⟩
abbrev cX9_day : ByteArray := prog_1_method_14_code
def yX9_day : MethodName := ⟨RX9, "day", "(I)I"⟩
abbrev cX9_reign : ByteArray := prog_1_method_15_code
def yX9_reign : MethodName := ⟨RX9, "reign", "(I)I"⟩
abbrev cX9_falls : ByteArray := prog_1_method_16_code
def yX9_falls : MethodName := ⟨RX9, "falls", "()I"⟩
abbrev cX9_line : ByteArray := prog_1_method_17_code
def yX9_line : MethodName := ⟨RX9, "line", "(II)I"⟩
abbrev cX9_meet : ByteArray := prog_1_method_18_code
def yX9_meet : MethodName := ⟨RX9, "meet", "(II)I"⟩
abbrev cX9_congress : ByteArray := prog_1_method_19_code
def yX9_congress : MethodName := ⟨RX9, "congress", "(I)I"⟩
abbrev cX9_nurses : ByteArray := prog_1_method_20_code
def yX9_nurses : MethodName := ⟨RX9, "nurses", "(I)I"⟩
abbrev cX9_visit : ByteArray := prog_1_method_21_code
def yX9_visit : MethodName := ⟨RX9, "visit", "()I"⟩
abbrev cX9_note : ByteArray := prog_1_method_22_code
def yX9_note : MethodName := ⟨RX9, "note", "(IIIII)I"⟩
abbrev cX9_heard : ByteArray := prog_1_method_23_code
def yX9_heard : MethodName := ⟨RX9, "heard", "(II)I"⟩
abbrev cX9_forget : ByteArray := prog_1_method_24_code
def yX9_forget : MethodName := ⟨RX9, "forget", "(I)I"⟩
abbrev cX9_is : ByteArray := prog_1_method_25_code
def yX9_is : MethodName := ⟨RX9, "is", "(I)I"⟩
abbrev cX9_listen : ByteArray := prog_1_method_26_code
def yX9_listen : MethodName := ⟨RX9, "listen", "(I)I"⟩
abbrev cX9_which : ByteArray := prog_1_method_27_code
def yX9_which : MethodName := ⟨RX9, "which", "()I"⟩
abbrev cX9_powers : ByteArray := prog_1_method_28_code
def yX9_powers : MethodName := ⟨RX9, "powers", "(I)I"⟩
abbrev cX9_walks : ByteArray := prog_1_method_29_code
def yX9_walks : MethodName := ⟨RX9, "walks", "(II)I"⟩
abbrev cX9_dynasties : ByteArray := prog_1_method_30_code
def yX9_dynasties : MethodName := ⟨RX9, "dynasties", "(II)I"⟩
abbrev cX9_part : ByteArray := prog_1_method_31_code
def yX9_part : MethodName := ⟨RX9, "part", "(I)J"⟩
abbrev cX9_image : ByteArray := prog_1_method_32_code
def yX9_image : MethodName := ⟨RX9, "image", "(I)I"⟩
abbrev cX9_from : ByteArray := prog_1_method_33_code
def yX9_from : MethodName := ⟨RX9, "from", "(I)I"⟩
abbrev cX9_status : ByteArray := prog_1_method_34_code
def yX9_status : MethodName := ⟨RX9, "status", "(I)I"⟩
abbrev cX9_count : ByteArray := prog_1_method_35_code
def yX9_count : MethodName := ⟨RX9, "count", "(I)I"⟩
abbrev cX9_digest : ByteArray := prog_1_method_36_code
def yX9_digest : MethodName := ⟨RX9, "digest", "()J"⟩
abbrev cX9_bad : ByteArray := prog_1_method_37_code
def yX9_bad : MethodName := ⟨RX9, "bad", "(I)I"⟩
abbrev cX9_no : ByteArray := prog_1_method_38_code
def yX9_no : MethodName := ⟨RX9, "no", "()I"⟩
abbrev cX9_full : ByteArray := prog_1_method_39_code
def yX9_full : MethodName := ⟨RX9, "full", "()I"⟩
abbrev cX9_isInfant : ByteArray := prog_1_method_40_code
def yX9_isInfant : MethodName := ⟨RX9, "isInfant", "(I)Z"⟩
abbrev cX9_tally : ByteArray := prog_1_method_41_code
def yX9_tally : MethodName := ⟨RX9, "tally", "(I)I"⟩
abbrev cX9_within : ByteArray := prog_1_method_42_code
def yX9_within : MethodName := ⟨RX9, "within", "(II)Z"⟩
abbrev cX9_bit : ByteArray := prog_1_method_43_code
def yX9_bit : MethodName := ⟨RX9, "bit", "(Z)I"⟩
abbrev cX9_contentWith : ByteArray := prog_1_method_44_code
def yX9_contentWith : MethodName := ⟨RX9, "contentWith", "(III)Z"⟩
abbrev cX9_gain : ByteArray := prog_1_method_45_code
def yX9_gain : MethodName := ⟨RX9, "gain", "(III)I"⟩
abbrev cX9_setPower : ByteArray := prog_1_method_46_code
def yX9_setPower : MethodName := ⟨RX9, "setPower", "(II)V"⟩
abbrev cX9_commonWithTen : ByteArray := prog_1_method_47_code
def yX9_commonWithTen : MethodName := ⟨RX9, "commonWithTen", "(I)I"⟩
def RX10 : String := "PramStateModel"
def TX10 : u_T := fun k => match k with
  | 0 => ("PramStateModel", "told", "[I", true)
  | 1 => ("PramStateModel", "kept", "[I", true)
  | 2 => ("PramStateModel", "isKept", "[Z", true)
  | 3 => ("PramStateModel", "refused", "[I", true)
  | 4 => ("PramStateModel", "above", "J", false)
  | 5 => ("PramStateModel", "below", "J", false)
  | 6 => ("PramStateModel", "months", "[I", true)
  | 7 => ("PramStateModel", "retired", "I", false)
  | 8 => ("PramStateModel", "heirs", "[I", true)
  | 9 => ("PramStateModel", "lasts", "[I", true)
  | 10 => ("PramStateModel", "manyLine", "I", false)
  | 11 => ("PramStateModel", "cares", "[I", true)
  | 12 => ("PramStateModel", "bestCares", "[I", true)
  | 13 => ("PramStateModel", "ones", "[I", true)
  | 14 => ("PramStateModel", "others", "[I", true)
  | 15 => ("PramStateModel", "bytes", "[I", true)
  | 16 => ("PramStateModel", "bytesLong", "I", false)
  | 17 => ("PramStateModel", "tokenAt", "I", false)
  | 18 => ("PramStateModel", "tokenLong", "I", false)
  | 19 => ("PramStateModel", "token", "I", false)
  | 20 => ("PramStateModel", "value", "I", false)
  | 21 => ("PramStateModel", "anew", "[I", true)
  | _ => ("PramStateModel", "values", "[I", true)
def tyX10 : Nat → FieldType := fun k => match k with
  | 0 => .array .int
  | 1 => .array .int
  | 2 => .array .boolean
  | 3 => .array .int
  | 4 => .long
  | 5 => .long
  | 6 => .array .int
  | 7 => .int
  | 8 => .array .int
  | 9 => .array .int
  | 10 => .int
  | 11 => .array .int
  | 12 => .array .int
  | 13 => .array .int
  | 14 => .array .int
  | 15 => .array .int
  | 16 => .int
  | 17 => .int
  | 18 => .int
  | 19 => .int
  | 20 => .int
  | 21 => .array .int
  | _ => .array .int
abbrev wsX100 : List Cond := u_ws RX10 TX10 23
theorem nmX10 : ∀ a, a < 23 → ∀ b, b < 23 → a ≠ b → (TX10 a).2.1 ≠ (TX10 b).2.1 := by decide +kernel
theorem tyX10_ok : ∀ k, k < 23 → parseFieldDescriptor (TX10 k).2.2.1 = some (tyX10 k) := by decide +kernel
abbrev cX10_init : ByteArray := prog_12_method_1_code
def yX10_init : MethodName := ⟨RX10, "<init>", "()V"⟩
abbrev cX10_in : ByteArray := prog_12_method_3_code
def yX10_in : MethodName := ⟨RX10, "in", "(JJJ)Z"⟩
abbrev cX10_bad : ByteArray := prog_12_method_4_code
def yX10_bad : MethodName := ⟨RX10, "bad", "(I)I"⟩
abbrev cX10_no : ByteArray := prog_12_method_5_code
def yX10_no : MethodName := ⟨RX10, "no", "()I"⟩
abbrev cX10_full : ByteArray := prog_12_method_6_code
def yX10_full : MethodName := ⟨RX10, "full", "()I"⟩
abbrev cX10_bits : ByteArray := prog_12_method_7_code
def yX10_bits : MethodName := ⟨RX10, "bits", "(I)I"⟩
abbrev cX10_has : ByteArray := prog_12_method_8_code
def yX10_has : MethodName := ⟨RX10, "has", "(II)Z"⟩
abbrev cX10_begin : ByteArray := prog_12_method_9_code
def yX10_begin : MethodName := ⟨RX10, "begin", "([I)V"⟩
abbrev cX10_many : ByteArray := prog_12_method_10_code
def yX10_many : MethodName := ⟨RX10, "many", "()I"⟩
abbrev cX10_isInfant : ByteArray := prog_12_method_11_code
def yX10_isInfant : MethodName := ⟨RX10, "isInfant", "(I)Z"⟩
abbrev cX10_isNurse : ByteArray := prog_12_method_12_code
def yX10_isNurse : MethodName := ⟨RX10, "isNurse", "(I)Z"⟩
abbrev cX10_isHour : ByteArray := prog_12_method_13_code
def yX10_isHour : MethodName := ⟨RX10, "isHour", "(I)Z"⟩
abbrev cX10_court : ByteArray := prog_12_method_14_code
def yX10_court : MethodName := ⟨RX10, "court", "()I"⟩
abbrev cX10_layInfant : ByteArray := prog_12_method_15_code
def yX10_layInfant : MethodName := ⟨RX10, "layInfant", "([IIII)V"⟩
abbrev cX10_infant : ByteArray := prog_12_method_16_code
def yX10_infant : MethodName := ⟨RX10, "infant", "(III)I"⟩
abbrev cX10_skill : ByteArray := prog_12_method_17_code
def yX10_skill : MethodName := ⟨RX10, "skill", "(II)I"⟩
abbrev cX10_sleepsAs : ByteArray := prog_12_method_18_code
def yX10_sleepsAs : MethodName := ⟨RX10, "sleepsAs", "(II)Z"⟩
abbrev cX10_criesAs : ByteArray := prog_12_method_19_code
def yX10_criesAs : MethodName := ⟨RX10, "criesAs", "(II)I"⟩
abbrev cX10_walksAs : ByteArray := prog_12_method_20_code
def yX10_walksAs : MethodName := ⟨RX10, "walksAs", "(I)I"⟩
abbrev cX10_kindOf : ByteArray := prog_12_method_21_code
def yX10_kindOf : MethodName := ⟨RX10, "kindOf", "(I)I"⟩
abbrev cX10_isAwake : ByteArray := prog_12_method_22_code
def yX10_isAwake : MethodName := ⟨RX10, "isAwake", "(II)Z"⟩
abbrev cX10_criesBy : ByteArray := prog_12_method_23_code
def yX10_criesBy : MethodName := ⟨RX10, "criesBy", "(II)I"⟩
abbrev cX10_criesIn : ByteArray := prog_12_method_24_code
def yX10_criesIn : MethodName := ⟨RX10, "criesIn", "(II)I"⟩
abbrev cX10_dayBy : ByteArray := prog_12_method_25_code
def yX10_dayBy : MethodName := ⟨RX10, "dayBy", "(II)I"⟩
abbrev cX10_layHand : ByteArray := prog_12_method_26_code
def yX10_layHand : MethodName := ⟨RX10, "layHand", "()V"⟩
abbrev cX10_reigns : ByteArray := prog_12_method_27_code
def yX10_reigns : MethodName := ⟨RX10, "reigns", "()I"⟩
abbrev cX10_reignsNow : ByteArray := prog_12_method_28_code
def yX10_reignsNow : MethodName := ⟨RX10, "reignsNow", "()I"⟩
abbrev cX10_goMonth : ByteArray := prog_12_method_29_code
def yX10_goMonth : MethodName := ⟨RX10, "goMonth", "()V"⟩
abbrev cX10_keep : ByteArray := prog_12_method_30_code
def yX10_keep : MethodName := ⟨RX10, "keep", "()V"⟩
abbrev cX10_month : ByteArray := prog_12_method_31_code
def yX10_month : MethodName := ⟨RX10, "month", "(I)I"⟩
abbrev cX10_nurse : ByteArray := prog_12_method_32_code
def yX10_nurse : MethodName := ⟨RX10, "nurse", "(II)I"⟩
abbrev cX10_retire : ByteArray := prog_12_method_33_code
def yX10_retire : MethodName := ⟨RX10, "retire", "(I)I"⟩
abbrev cX10_undo : ByteArray := prog_12_method_34_code
def yX10_undo : MethodName := ⟨RX10, "undo", "()I"⟩
abbrev cX10_of : ByteArray := prog_12_method_35_code
def yX10_of : MethodName := ⟨RX10, "of", "(II)I"⟩
abbrev cX10_hour : ByteArray := prog_12_method_36_code
def yX10_hour : MethodName := ⟨RX10, "hour", "(III)I"⟩
abbrev cX10_day : ByteArray := prog_12_method_37_code
def yX10_day : MethodName := ⟨RX10, "day", "(I)I"⟩
abbrev cX10_reign : ByteArray := prog_12_method_38_code
def yX10_reign : MethodName := ⟨RX10, "reign", "(I)I"⟩
abbrev cX10_falls : ByteArray := prog_12_method_39_code
def yX10_falls : MethodName := ⟨RX10, "falls", "()I"⟩
abbrev cX10_layLine : ByteArray := prog_12_method_40_code
def yX10_layLine : MethodName := ⟨RX10, "layLine", "()V"⟩
abbrev cX10_line : ByteArray := prog_12_method_41_code
def yX10_line : MethodName := ⟨RX10, "line", "(II)I"⟩
abbrev cX10_far : ByteArray := prog_12_method_42_code
def yX10_far : MethodName := ⟨RX10, "far", "(II)I"⟩
abbrev cX10_canBe : ByteArray := prog_12_method_43_code
def yX10_canBe : MethodName := ⟨RX10, "canBe", "(III)Z"⟩
abbrev cX10_meet : ByteArray := prog_12_method_44_code
def yX10_meet : MethodName := ⟨RX10, "meet", "(II)I"⟩
abbrev cX10_congress : ByteArray := prog_12_method_45_code
def yX10_congress : MethodName := ⟨RX10, "congress", "(I)I"⟩
abbrev cX10_criedBy : ByteArray := prog_12_method_46_code
def yX10_criedBy : MethodName := ⟨RX10, "criedBy", "(I)I"⟩
abbrev cX10_nurses : ByteArray := prog_12_method_47_code
def yX10_nurses : MethodName := ⟨RX10, "nurses", "(I)I"⟩
abbrev cX10_visit : ByteArray := prog_12_method_48_code
def yX10_visit : MethodName := ⟨RX10, "visit", "()I"⟩
abbrev cX10_note : ByteArray := prog_12_method_49_code
def yX10_note : MethodName := ⟨RX10, "note", "(IIIII)I"⟩
abbrev cX10_heard : ByteArray := prog_12_method_50_code
def yX10_heard : MethodName := ⟨RX10, "heard", "(II)I"⟩
abbrev cX10_forget : ByteArray := prog_12_method_51_code
def yX10_forget : MethodName := ⟨RX10, "forget", "(I)I"⟩
abbrev cX10_criesThen : ByteArray := prog_12_method_52_code
def yX10_criesThen : MethodName := ⟨RX10, "criesThen", "(III)I"⟩
abbrev cX10_kindsOf : ByteArray := prog_12_method_53_code
def yX10_kindsOf : MethodName := ⟨RX10, "kindsOf", "(I)I"⟩
abbrev cX10_is : ByteArray := prog_12_method_54_code
def yX10_is : MethodName := ⟨RX10, "is", "(I)I"⟩
abbrev cX10_areAlike : ByteArray := prog_12_method_55_code
def yX10_areAlike : MethodName := ⟨RX10, "areAlike", "(IIII)Z"⟩
abbrev cX10_listen : ByteArray := prog_12_method_56_code
def yX10_listen : MethodName := ⟨RX10, "listen", "(I)I"⟩
abbrev cX10_which : ByteArray := prog_12_method_57_code
def yX10_which : MethodName := ⟨RX10, "which", "()I"⟩
abbrev cX10_powers : ByteArray := prog_12_method_58_code
def yX10_powers : MethodName := ⟨RX10, "powers", "(I)I"⟩
abbrev cX10_fraction : ByteArray := prog_12_method_59_code
def yX10_fraction : MethodName := ⟨RX10, "fraction", "(JJ)V"⟩
abbrev cX10_walks : ByteArray := prog_12_method_60_code
def yX10_walks : MethodName := ⟨RX10, "walks", "(II)I"⟩
abbrev cX10_dynasties : ByteArray := prog_12_method_61_code
def yX10_dynasties : MethodName := ⟨RX10, "dynasties", "(II)I"⟩
abbrev cX10_type : ByteArray := prog_12_method_62_code
def yX10_type : MethodName := ⟨RX10, "type", "(I)I"⟩
abbrev cX10_clear : ByteArray := prog_12_method_63_code
def yX10_clear : MethodName := ⟨RX10, "clear", "()I"⟩
abbrev cX10_isSmall : ByteArray := prog_12_method_64_code
def yX10_isSmall : MethodName := ⟨RX10, "isSmall", "(I)Z"⟩
abbrev cX10_isFigure : ByteArray := prog_12_method_65_code
def yX10_isFigure : MethodName := ⟨RX10, "isFigure", "(I)Z"⟩
abbrev cX10_lookAt : ByteArray := prog_12_method_66_code
def yX10_lookAt : MethodName := ⟨RX10, "lookAt", "(I)V"⟩
abbrev cX10_goBehind : ByteArray := prog_12_method_67_code
def yX10_goBehind : MethodName := ⟨RX10, "goBehind", "()V"⟩
abbrev cX10_spells : ByteArray := prog_12_method_68_code
def yX10_spells : MethodName := ⟨RX10, "spells", "(IIIIIII)Z"⟩
abbrev cX10_takes : ByteArray := prog_12_method_69_code
def yX10_takes : MethodName := ⟨RX10, "takes", "(III)Z"⟩
abbrev cX10_takesInfant : ByteArray := prog_12_method_70_code
def yX10_takesInfant : MethodName := ⟨RX10, "takesInfant", "()Z"⟩
abbrev cX10_takesSkill : ByteArray := prog_12_method_71_code
def yX10_takesSkill : MethodName := ⟨RX10, "takesSkill", "()Z"⟩
abbrev cX10_takesNurse : ByteArray := prog_12_method_72_code
def yX10_takesNurse : MethodName := ⟨RX10, "takesNurse", "()Z"⟩
abbrev cX10_takesItem : ByteArray := prog_12_method_73_code
def yX10_takesItem : MethodName := ⟨RX10, "takesItem", "()Z"⟩
abbrev cX10_read : ByteArray := prog_12_method_74_code
def yX10_read : MethodName := ⟨RX10, "read", "()I"⟩
abbrev cX10_part : ByteArray := prog_12_method_75_code
def yX10_part : MethodName := ⟨RX10, "part", "(I)J"⟩
abbrev cX10_image : ByteArray := prog_12_method_76_code
def yX10_image : MethodName := ⟨RX10, "image", "(I)I"⟩
abbrev cX10_from : ByteArray := prog_12_method_77_code
def yX10_from : MethodName := ⟨RX10, "from", "(I)I"⟩
abbrev cX10_status : ByteArray := prog_12_method_78_code
def yX10_status : MethodName := ⟨RX10, "status", "(I)I"⟩
abbrev cX10_counted : ByteArray := prog_12_method_79_code
def yX10_counted : MethodName := ⟨RX10, "counted", "(I)I"⟩
abbrev cX10_count : ByteArray := prog_12_method_80_code
def yX10_count : MethodName := ⟨RX10, "count", "(I)I"⟩
abbrev cX10_sums : ByteArray := prog_12_method_81_code
def yX10_sums : MethodName := ⟨RX10, "sums", "(JII)J"⟩
abbrev cX10_digest : ByteArray := prog_12_method_82_code
def yX10_digest : MethodName := ⟨RX10, "digest", "()J"⟩
def RJx145de : String := "java/io/Serializable"
def TJx145de : u_T := fun k => match k with
  | _ => ("", "", "", false)
def tyJx145de : Nat → FieldType := fun k => match k with
  | _ => .int
abbrev wsJx145de0 : List Cond := u_ws RJx145de TJx145de 0
theorem nmJx145de : ∀ a, a < 0 → ∀ b, b < 0 → a ≠ b → (TJx145de a).2.1 ≠ (TJx145de b).2.1 := by decide +kernel
theorem tyJx145de_ok : ∀ k, k < 0 → parseFieldDescriptor (TJx145de k).2.2.1 = some (tyJx145de k) := by decide +kernel
def RJx9f9b0 : String := "java/lang/CharSequence"
def TJx9f9b0 : u_T := fun k => match k with
  | _ => ("", "", "", false)
def tyJx9f9b0 : Nat → FieldType := fun k => match k with
  | _ => .int
abbrev wsJx9f9b00 : List Cond := u_ws RJx9f9b0 TJx9f9b0 0
theorem nmJx9f9b0 : ∀ a, a < 0 → ∀ b, b < 0 → a ≠ b → (TJx9f9b0 a).2.1 ≠ (TJx9f9b0 b).2.1 := by decide +kernel
theorem tyJx9f9b0_ok : ∀ k, k < 0 → parseFieldDescriptor (TJx9f9b0 k).2.2.1 = some (tyJx9f9b0 k) := by decide +kernel
def RJxb160c : String := "java/lang/Comparable"
def TJxb160c : u_T := fun k => match k with
  | _ => ("", "", "", false)
def tyJxb160c : Nat → FieldType := fun k => match k with
  | _ => .int
abbrev wsJxb160c0 : List Cond := u_ws RJxb160c TJxb160c 0
theorem nmJxb160c : ∀ a, a < 0 → ∀ b, b < 0 → a ≠ b → (TJxb160c a).2.1 ≠ (TJxb160c b).2.1 := by decide +kernel
theorem tyJxb160c_ok : ∀ k, k < 0 → parseFieldDescriptor (TJxb160c k).2.2.1 = some (tyJxb160c k) := by decide +kernel
def RJ6 : String := "java/lang/Integer"
def TJ6 : u_T := fun k => match k with
  | _ => ("", "", "", false)
def tyJ6 : Nat → FieldType := fun k => match k with
  | _ => .int
abbrev wsJ60 : List Cond := u_ws RJ6 TJ6 0
theorem nmJ6 : ∀ a, a < 0 → ∀ b, b < 0 → a ≠ b → (TJ6 a).2.1 ≠ (TJ6 b).2.1 := by decide +kernel
theorem tyJ6_ok : ∀ k, k < 0 → parseFieldDescriptor (TJ6 k).2.2.1 = some (tyJ6 k) := by decide +kernel
abbrev cJ6_bitCount_0f7a4 : ByteArray := prog_13_method_49_code
def yJ6_bitCount_0f7a4 : MethodName := ⟨RJ6, "bitCount", "(I)I"⟩
def RJ9 : String := "java/lang/Math"
def TJ9 : u_T := fun k => match k with
  | _ => ("", "", "", false)
def tyJ9 : Nat → FieldType := fun k => match k with
  | _ => .int
abbrev wsJ90 : List Cond := u_ws RJ9 TJ9 0
theorem nmJ9 : ∀ a, a < 0 → ∀ b, b < 0 → a ≠ b → (TJ9 a).2.1 ≠ (TJ9 b).2.1 := by decide +kernel
theorem tyJ9_ok : ∀ k, k < 0 → parseFieldDescriptor (TJ9 k).2.2.1 = some (tyJ9 k) := by decide +kernel
abbrev cJ9_abs_0f7a4 : ByteArray := prog_14_method_59_code
def yJ9_abs_0f7a4 : MethodName := ⟨RJ9, "abs", "(I)I"⟩
abbrev cJ9_max_7cf53 : ByteArray := prog_14_method_65_code
def yJ9_max_7cf53 : MethodName := ⟨RJ9, "max", "(II)I"⟩
abbrev cJ9_min_7cf53 : ByteArray := prog_14_method_69_code
def yJ9_min_7cf53 : MethodName := ⟨RJ9, "min", "(II)I"⟩
def RJ0 : String := "java/lang/String"
def TJ0 : u_T := fun k => match k with
  | _ => ("", "", "", false)
def tyJ0 : Nat → FieldType := fun k => match k with
  | _ => .int
abbrev wsJ00 : List Cond := u_ws RJ0 TJ0 0
theorem nmJ0 : ∀ a, a < 0 → ∀ b, b < 0 → a ≠ b → (TJ0 a).2.1 ≠ (TJ0 b).2.1 := by decide +kernel
theorem tyJ0_ok : ∀ k, k < 0 → parseFieldDescriptor (TJ0 k).2.2.1 = some (tyJ0 k) := by decide +kernel
abbrev cJ0_length_8abf5 : ByteArray := prog_15_method_54_code
def yJ0_length_8abf5 : MethodName := ⟨RJ0, "length", "()I"⟩
abbrev cJ0_charAt_5068e : ByteArray := prog_15_method_56_code
def yJ0_charAt_5068e : MethodName := ⟨RJ0, "charAt", "(I)C"⟩
abbrev cJ0_coder_7d493 : ByteArray := prog_15_method_152_code
def yJ0_coder_7d493 : MethodName := ⟨RJ0, "coder", "()B"⟩
abbrev cJ0_isLatin1_aae02 : ByteArray := prog_15_method_154_code
def yJ0_isLatin1_aae02 : MethodName := ⟨RJ0, "isLatin1", "()Z"⟩
abbrev cJ0_checkIndex_df160 : ByteArray := prog_15_method_155_code
def yJ0_checkIndex_df160 : MethodName := ⟨RJ0, "checkIndex", "(II)V"⟩
def RJ1 : String := "java/lang/StringLatin1"
def TJ1 : u_T := fun k => match k with
  | _ => ("", "", "", false)
def tyJ1 : Nat → FieldType := fun k => match k with
  | _ => .int
abbrev wsJ10 : List Cond := u_ws RJ1 TJ1 0
theorem nmJ1 : ∀ a, a < 0 → ∀ b, b < 0 → a ≠ b → (TJ1 a).2.1 ≠ (TJ1 b).2.1 := by decide +kernel
theorem tyJ1_ok : ∀ k, k < 0 → parseFieldDescriptor (TJ1 k).2.2.1 = some (tyJ1 k) := by decide +kernel
abbrev cJ1_charAt_3b067 : ByteArray := prog_16_method_2_code
def yJ1_charAt_3b067 : MethodName := ⟨RJ1, "charAt", "([BI)C"⟩
def RJ2 : String := "java/lang/StringUTF16"
def TJ2 : u_T := fun k => match k with
  | _ => ("", "", "", false)
def tyJ2 : Nat → FieldType := fun k => match k with
  | _ => .int
abbrev wsJ20 : List Cond := u_ws RJ2 TJ2 0
theorem nmJ2 : ∀ a, a < 0 → ∀ b, b < 0 → a ≠ b → (TJ2 a).2.1 ≠ (TJ2 b).2.1 := by decide +kernel
theorem tyJ2_ok : ∀ k, k < 0 → parseFieldDescriptor (TJ2 k).2.2.1 = some (tyJ2 k) := by decide +kernel
abbrev cJ2_getChar_3b067 : ByteArray := prog_17_method_5_code
def yJ2_getChar_3b067 : MethodName := ⟨RJ2, "getChar", "([BI)C"⟩
abbrev cJ2_length_9d52b : ByteArray := prog_17_method_6_code
def yJ2_length_9d52b : MethodName := ⟨RJ2, "length", "([B)I"⟩
abbrev cJ2_charAt_3b067 : ByteArray := prog_17_method_83_code
def yJ2_charAt_3b067 : MethodName := ⟨RJ2, "charAt", "([BI)C"⟩
abbrev cJ2_checkIndex_2214a : ByteArray := prog_17_method_91_code
def yJ2_checkIndex_2214a : MethodName := ⟨RJ2, "checkIndex", "(I[B)V"⟩
def RJ10 : String := "java/lang/System"
def TJ10 : u_T := fun k => match k with
  | _ => ("", "", "", false)
def tyJ10 : Nat → FieldType := fun k => match k with
  | _ => .int
abbrev wsJ100 : List Cond := u_ws RJ10 TJ10 0
theorem nmJ10 : ∀ a, a < 0 → ∀ b, b < 0 → a ≠ b → (TJ10 a).2.1 ≠ (TJ10 b).2.1 := by decide +kernel
theorem tyJ10_ok : ∀ k, k < 0 → parseFieldDescriptor (TJ10 k).2.2.1 = some (tyJ10 k) := by decide +kernel
def RJxfd54e : String := "java/lang/constant/Constable"
def TJxfd54e : u_T := fun k => match k with
  | _ => ("", "", "", false)
def tyJxfd54e : Nat → FieldType := fun k => match k with
  | _ => .int
abbrev wsJxfd54e0 : List Cond := u_ws RJxfd54e TJxfd54e 0
theorem nmJxfd54e : ∀ a, a < 0 → ∀ b, b < 0 → a ≠ b → (TJxfd54e a).2.1 ≠ (TJxfd54e b).2.1 := by decide +kernel
theorem tyJxfd54e_ok : ∀ k, k < 0 → parseFieldDescriptor (TJxfd54e k).2.2.1 = some (tyJxfd54e k) := by decide +kernel
def RJx3cf43 : String := "java/lang/constant/ConstantDesc"
def TJx3cf43 : u_T := fun k => match k with
  | _ => ("", "", "", false)
def tyJx3cf43 : Nat → FieldType := fun k => match k with
  | _ => .int
abbrev wsJx3cf430 : List Cond := u_ws RJx3cf43 TJx3cf43 0
theorem nmJx3cf43 : ∀ a, a < 0 → ∀ b, b < 0 → a ≠ b → (TJx3cf43 a).2.1 ≠ (TJx3cf43 b).2.1 := by decide +kernel
theorem tyJx3cf43_ok : ∀ k, k < 0 → parseFieldDescriptor (TJx3cf43 k).2.2.1 = some (tyJx3cf43 k) := by decide +kernel
def RJ7 : String := "java/util/Arrays"
def TJ7 : u_T := fun k => match k with
  | _ => ("", "", "", false)
def tyJ7 : Nat → FieldType := fun k => match k with
  | _ => .int
abbrev wsJ70 : List Cond := u_ws RJ7 TJ7 0
theorem nmJ7 : ∀ a, a < 0 → ∀ b, b < 0 → a ≠ b → (TJ7 a).2.1 ≠ (TJ7 b).2.1 := by decide +kernel
theorem tyJ7_ok : ∀ k, k < 0 → parseFieldDescriptor (TJ7 k).2.2.1 = some (tyJ7 k) := by decide +kernel
abbrev cJ7_fill_53178 : ByteArray := prog_19_method_103_code
def yJ7_fill_53178 : MethodName := ⟨RJ7, "fill", "([II)V"⟩
def RJ3 : String := "jdk/internal/util/Preconditions"
def TJ3 : u_T := fun k => match k with
  | _ => ("", "", "", false)
def tyJ3 : Nat → FieldType := fun k => match k with
  | _ => .int
abbrev wsJ30 : List Cond := u_ws RJ3 TJ3 0
theorem nmJ3 : ∀ a, a < 0 → ∀ b, b < 0 → a ≠ b → (TJ3 a).2.1 ≠ (TJ3 b).2.1 := by decide +kernel
theorem tyJ3_ok : ∀ k, k < 0 → parseFieldDescriptor (TJ3 k).2.2.1 = some (tyJ3 k) := by decide +kernel
abbrev cJ3_checkIndex_8e157 : ByteArray := prog_20_method_11_code
def yJ3_checkIndex_8e157 : MethodName := ⟨RJ3, "checkIndex", "(IILjava/util/function/BiFunction;)I"⟩
def RL : String := "PramStateLaw"
abbrev cL_law : ByteArray := code
def yL_law : MethodName := ⟨RL, "law", "([I)Z"⟩
def wsA_1 : List Cond := [Cond.classLink RL 7 RX9, Cond.instantiable RX9 10, Cond.initialized RX9, Cond.classLink RL 10 RX10, Cond.instantiable RX10 23, Cond.initialized RX10, Cond.methodLink RL 9 yX9_init, Cond.instanceMethod yX9_init, Cond.code yX9_init cX9_init 2 none, Cond.methodLink RX9 1 objectInit, Cond.instanceMethod objectInit, Cond.code objectInit ⟨#[0xb1]⟩ 1 none, Cond.classLink RX9 7 RX6, Cond.instantiable RX6 0, Cond.initialized RX6, Cond.classLink RX9 10 RX8, Cond.instantiable RX8 0, Cond.initialized RX8, Cond.classLink RX9 13 RX7, Cond.instantiable RX7 0, Cond.initialized RX7, Cond.classLink RX9 16 RX3, Cond.instantiable RX3 0, Cond.initialized RX3]
def wsA_2 : List Cond := [Cond.classLink RX9 19 RX4, Cond.instantiable RX4 0, Cond.initialized RX4, Cond.classLink RX9 22 RX0, Cond.instantiable RX0 0, Cond.initialized RX0, Cond.classLink RX9 25 RX1, Cond.instantiable RX1 15, Cond.initialized RX1, Cond.fieldLink RX9 30 "PramState" "now" "LPramState$Court;", Cond.fieldLink RX9 36 "PramState" "images" "[LPramState$Court;", Cond.arrayClass .boolean, Cond.fieldLink RX9 40 "PramState" "kept" "[Z", Cond.classLink RX9 44 RX2, Cond.instantiable RX2 7, Cond.initialized RX2, Cond.fieldLink RX9 49 "PramState" "text" "LPramState$CourtText;", Cond.classLink RX9 53 RX5, Cond.instantiable RX5 4, Cond.initialized RX5, Cond.fieldLink RX9 56 "PramState" "plan" "LPramState$NursePlan;", Cond.fieldLink RX9 60 "PramState" "above" "J", Cond.fieldLink RX9 64 "PramState" "below" "J", Cond.instanceMethod yX6_init]
def wsA_3 : List Cond := [Cond.code yX6_init cX6_init 1 none, Cond.methodLink RX6 1 objectInit, Cond.instanceMethod yX8_init, Cond.code yX8_init cX8_init 1 none, Cond.instanceMethod yX7_init, Cond.code yX7_init cX7_init 1 none, Cond.instanceMethod yX3_init, Cond.code yX3_init cX3_init 1 none, Cond.instanceMethod yX4_init, Cond.code yX4_init cX4_init 1 none, Cond.instanceMethod yX0_init, Cond.code yX0_init cX0_init 1 none, Cond.methodLink RX9 27 yX1_init, Cond.instanceMethod yX1_init, Cond.code yX1_init cX1_init 2 none, Cond.methodLink RX1 3 objectInit, Cond.arrayClass .int, Cond.fieldLink RX1 9 "PramState$Court" "kind" "[I", Cond.fieldLink RX1 15 "PramState$Court" "months" "[I", Cond.fieldLink RX1 18 "PramState$Court" "home" "[I", Cond.fieldLink RX1 21 "PramState$Court" "nurse" "[I", Cond.fieldLink RX1 24 "PramState$Court" "skills" "[I", Cond.fieldLink RX1 27 "PramState$Court" "noteRow" "[I", Cond.fieldLink RX1 30 "PramState$Court" "soundRow" "[I"]
def wsA_4 : List Cond := [Cond.fieldLink RX1 33 "PramState$Court" "pastRow" "[I", Cond.fieldLink RX1 36 "PramState$Court" "kinds" "[LPramState$Plain;", Cond.methodLink RX9 46 yX2_init, Cond.instanceMethod yX2_init, Cond.code yX2_init cX2_init 2 none, Cond.methodLink RX2 3 objectInit, Cond.arrayClass .byte, Cond.fieldLink RX2 9 "PramState$CourtText" "bytes" "[B", Cond.fieldLink RX2 15 "PramState$CourtText" "draft" "LPramState$Court;", Cond.instanceMethod yX5_init, Cond.code yX5_init cX5_init 1 none, Cond.methodLink RX5 3 objectInit, Cond.fieldLink RX5 9 "PramState$NursePlan" "dues" "[I", Cond.fieldLink RX5 15 "PramState$NursePlan" "cost" "[I", Cond.fieldLink RX5 18 "PramState$NursePlan" "rest" "[I", Cond.methodLink RL 12 yX10_init, Cond.instanceMethod yX10_init, Cond.code yX10_init cX10_init 1 none, Cond.methodLink RX10 1 objectInit, Cond.fieldLink RX10 7 "PramStateModel" "told" "[I", Cond.fieldLink RX10 13 "PramStateModel" "kept" "[I", Cond.fieldLink RX10 16 "PramStateModel" "isKept" "[Z", Cond.fieldLink RX10 20 "PramStateModel" "refused" "[I", Cond.fieldLink RX10 23 "PramStateModel" "below" "J"]
def wsA_5 : List Cond := [Cond.fieldLink RX10 27 "PramStateModel" "months" "[I", Cond.fieldLink RX10 30 "PramStateModel" "heirs" "[I", Cond.fieldLink RX10 33 "PramStateModel" "lasts" "[I", Cond.fieldLink RX10 36 "PramStateModel" "cares" "[I", Cond.fieldLink RX10 39 "PramStateModel" "bestCares" "[I", Cond.fieldLink RX10 42 "PramStateModel" "ones" "[I", Cond.fieldLink RX10 45 "PramStateModel" "others" "[I", Cond.fieldLink RX10 48 "PramStateModel" "bytes" "[I", Cond.fieldLink RX10 51 "PramStateModel" "anew" "[I", Cond.fieldLink RX10 54 "PramStateModel" "values" "[I", Cond.methodLink RX10 57 yX10_begin, Cond.static yX10_begin, Cond.code yX10_begin cX10_begin 2 none, Cond.methodLink RL 13 yX9_court, Cond.instanceMethod yX9_court, Cond.selects RX9 yX9_court yX9_court, Cond.code yX9_court cX9_court 2 (some .int), Cond.fieldLink RX9 67 "PramState$Court" "infants" "I", Cond.methodLink RX9 71 yX1_begin, Cond.instanceMethod yX1_begin, Cond.selects RX1 yX1_begin yX1_begin, Cond.code yX1_begin cX1_begin 1 none, Cond.fieldLink RX1 40 "PramState$Court" "infants" "I", Cond.fieldLink RX1 44 "PramState$Court" "retired" "I"]
def wsA_6 : List Cond := [Cond.fieldLink RX1 47 "PramState$Court" "month" "I", Cond.fieldLink RX1 50 "PramState$Court" "notes" "I", Cond.fieldLink RX1 53 "PramState$Court" "sounds" "I", Cond.fieldLink RX1 56 "PramState$Court" "pasts" "I", Cond.methodLink RX1 59 yJ7_fill_53178, Cond.static yJ7_fill_53178, Cond.initialized RJ7, Cond.code yJ7_fill_53178 cJ7_fill_53178 4 none, Cond.methodLink RL 17 yX10_court, Cond.instanceMethod yX10_court, Cond.selects RX10 yX10_court yX10_court, Cond.code yX10_court cX10_court 2 (some .int), Cond.methodLink RX10 61 yX10_many, Cond.instanceMethod yX10_many, Cond.selects RX10 yX10_many yX10_many, Cond.code yX10_many cX10_many 1 (some .int), Cond.methodLink RL 18 yX9_infant, Cond.instanceMethod yX9_infant, Cond.selects RX9 yX9_infant yX9_infant, Cond.code yX9_infant cX9_infant 4 (some .int), Cond.methodLink RX9 74 yX9_within, Cond.static yX9_within, Cond.code yX9_within cX9_within 2 (some .boolean), Cond.methodLink RX9 78 yX9_bad]
def wsA_7 : List Cond := [Cond.instanceMethod yX9_bad, Cond.selects RX9 yX9_bad yX9_bad, Cond.code yX9_bad cX9_bad 2 (some .int), Cond.fieldLink RX9 235 "PramState" "badCalls" "I", Cond.methodLink RX9 82 yX9_full, Cond.instanceMethod yX9_full, Cond.selects RX9 yX9_full yX9_full, Cond.code yX9_full cX9_full 1 (some .int), Cond.fieldLink RX9 241 "PramState" "fullCalls" "I", Cond.methodLink RX9 86 yX1_add, Cond.instanceMethod yX1_add, Cond.selects RX1 yX1_add yX1_add, Cond.code yX1_add cX1_add 5 none, Cond.methodLink RL 22 yX10_infant, Cond.instanceMethod yX10_infant, Cond.selects RX10 yX10_infant yX10_infant, Cond.code yX10_infant cX10_infant 4 (some .int), Cond.constantLong RX10 69 (5), Cond.constantLong RX10 73 (35), Cond.methodLink RX10 65 yX10_in, Cond.static yX10_in, Cond.code yX10_in cX10_in 6 (some .boolean), Cond.methodLink RX10 75 yX10_bad, Cond.instanceMethod yX10_bad]
def wsA_8 : List Cond := [Cond.selects RX10 yX10_bad yX10_bad, Cond.code yX10_bad cX10_bad 2 (some .int), Cond.methodLink RX10 79 yX10_full, Cond.instanceMethod yX10_full, Cond.selects RX10 yX10_full yX10_full, Cond.code yX10_full cX10_full 1 (some .int), Cond.methodLink RX10 82 yX10_layInfant, Cond.static yX10_layInfant, Cond.code yX10_layInfant cX10_layInfant 5 none, Cond.methodLink RL 23 yX9_skill, Cond.instanceMethod yX9_skill, Cond.selects RX9 yX9_skill yX9_skill, Cond.code yX9_skill cX9_skill 4 (some .int), Cond.fieldLink RX9 90 "PramState$Court" "skills" "[I", Cond.methodLink RX9 94 yX1_setSkill, Cond.instanceMethod yX1_setSkill, Cond.selects RX1 yX1_setSkill yX1_setSkill, Cond.code yX1_setSkill cX1_setSkill 3 none, Cond.methodLink RL 27 yX10_skill, Cond.instanceMethod yX10_skill, Cond.selects RX10 yX10_skill yX10_skill, Cond.code yX10_skill cX10_skill 4 (some .int), Cond.constantLong RX10 90 (9), Cond.methodLink RX10 86 yX10_isNurse]
def wsA_9 : List Cond := [Cond.static yX10_isNurse, Cond.code yX10_isNurse cX10_isNurse 1 (some .boolean), Cond.methodLink RL 28 yX9_type, Cond.instanceMethod yX9_type, Cond.selects RX9 yX9_type yX9_type, Cond.code yX9_type cX9_type 2 (some .int), Cond.fieldLink RX9 98 "PramState$CourtText" "length" "I", Cond.methodLink RX9 101 yX2_append, Cond.instanceMethod yX2_append, Cond.selects RX2 yX2_append yX2_append, Cond.code yX2_append cX2_append 2 none, Cond.fieldLink RX2 19 "PramState$CourtText" "length" "I", Cond.methodLink RL 32 yX10_type, Cond.instanceMethod yX10_type, Cond.selects RX10 yX10_type yX10_type, Cond.code yX10_type cX10_type 2 (some .int), Cond.constantLong RX10 211 (127), Cond.fieldLink RX10 213 "PramStateModel" "bytesLong" "I", Cond.methodLink RL 33 yX9_clear, Cond.instanceMethod yX9_clear, Cond.selects RX9 yX9_clear yX9_clear, Cond.code yX9_clear cX9_clear 2 (some .int), Cond.methodLink RL 36 yX10_clear, Cond.instanceMethod yX10_clear]
def wsA_10 : List Cond := [Cond.selects RX10 yX10_clear yX10_clear, Cond.code yX10_clear cX10_clear 2 (some .int), Cond.methodLink RL 37 yX9_read, Cond.instanceMethod yX9_read, Cond.selects RX9 yX9_read yX9_read, Cond.code yX9_read cX9_read 2 (some .int), Cond.fieldLink RX9 108 "PramState$CourtText" "draft" "LPramState$Court;", Cond.methodLink RX9 105 yX2_readCourt, Cond.instanceMethod yX2_readCourt, Cond.selects RX2 yX2_readCourt yX2_readCourt, Cond.code yX2_readCourt cX2_readCourt 4 (some .int), Cond.fieldLink RX2 23 "PramState$CourtText" "behind" "I", Cond.fieldLink RX2 34 "PramState$CourtText" "token" "I", Cond.fieldLink RX2 44 "PramState$CourtText" "start" "I", Cond.methodLink RX2 26 yX1_begin, Cond.methodLink RX2 31 yX2_advance, Cond.instanceMethod yX2_advance, Cond.selects RX2 yX2_advance yX2_advance, Cond.code yX2_advance cX2_advance 1 none, Cond.fieldLink RX2 89 "PramState$CourtText" "value" "I", Cond.methodLink RX2 101 yX2_takeRun, Cond.instanceMethod yX2_takeRun, Cond.selects RX2 yX2_takeRun yX2_takeRun, Cond.code yX2_takeRun cX2_takeRun 4 (some .int)]
def wsA_11 : List Cond := [Cond.methodLink RX2 37 yX2_readOpening, Cond.instanceMethod yX2_readOpening, Cond.selects RX2 yX2_readOpening yX2_readOpening, Cond.code yX2_readOpening cX2_readOpening 1 (some .boolean), Cond.methodLink RX2 49 yX2_isWord, Cond.instanceMethod yX2_isWord, Cond.selects RX2 yX2_isWord yX2_isWord, Cond.code yX2_isWord cX2_isWord 3 (some .boolean), Cond.methodLink RX2 92 yJ0_length_8abf5, Cond.instanceMethod yJ0_length_8abf5, Cond.selects RJ0 yJ0_length_8abf5 yJ0_length_8abf5, Cond.initialized RJ0, Cond.code yJ0_length_8abf5 cJ0_length_8abf5 1 (some .int), Cond.fieldLink RJ0 9 "java/lang/String" "value" "[B", Cond.methodLink RJ0 335 yJ0_coder_7d493, Cond.instanceMethod yJ0_coder_7d493, Cond.selects RJ0 yJ0_coder_7d493 yJ0_coder_7d493, Cond.code yJ0_coder_7d493 cJ0_coder_7d493 1 (some .byte), Cond.fieldLink RJ0 38 "java/lang/String" "COMPACT_STRINGS" "Z", Cond.fieldLink RJ0 15 "java/lang/String" "coder" "B", Cond.methodLink RX2 97 yJ0_charAt_5068e, Cond.instanceMethod yJ0_charAt_5068e, Cond.selects RJ0 yJ0_charAt_5068e yJ0_charAt_5068e, Cond.code yJ0_charAt_5068e cJ0_charAt_5068e 2 (some .char)]
def wsA_12 : List Cond := [Cond.methodLink RJ0 492 yJ0_isLatin1_aae02, Cond.instanceMethod yJ0_isLatin1_aae02, Cond.selects RJ0 yJ0_isLatin1_aae02 yJ0_isLatin1_aae02, Cond.code yJ0_isLatin1_aae02 cJ0_isLatin1_aae02 1 (some .boolean), Cond.methodLink RJ0 495 yJ1_charAt_3b067, Cond.static yJ1_charAt_3b067, Cond.initialized RJ1, Cond.code yJ1_charAt_3b067 cJ1_charAt_3b067 2 (some .char), Cond.methodLink RJ1 9 yJ0_checkIndex_df160, Cond.static yJ0_checkIndex_df160, Cond.code yJ0_checkIndex_df160 cJ0_checkIndex_df160 2 none, Cond.fieldLink RJ0 1053 "jdk/internal/util/Preconditions" "SIOOBE_FORMATTER" "Ljava/util/function/BiFunction;", Cond.methodLink RJ0 1059 yJ3_checkIndex_8e157, Cond.static yJ3_checkIndex_8e157, Cond.initialized RJ3, Cond.code yJ3_checkIndex_8e157 cJ3_checkIndex_8e157 3 (some .int), Cond.methodLink RJ0 498 yJ2_charAt_3b067, Cond.static yJ2_charAt_3b067, Cond.initialized RJ2, Cond.code yJ2_charAt_3b067 cJ2_charAt_3b067 2 (some .char), Cond.methodLink RJ2 67 yJ2_checkIndex_2214a, Cond.static yJ2_checkIndex_2214a, Cond.code yJ2_checkIndex_2214a cJ2_checkIndex_2214a 2 none, Cond.methodLink RJ2 48 yJ2_length_9d52b]
def wsA_13 : List Cond := [Cond.static yJ2_length_9d52b, Cond.code yJ2_length_9d52b cJ2_length_9d52b 1 (some .int), Cond.methodLink RJ2 414 yJ0_checkIndex_df160, Cond.methodLink RJ2 71 yJ2_getChar_3b067, Cond.static yJ2_getChar_3b067, Cond.code yJ2_getChar_3b067 cJ2_getChar_3b067 2 (some .char), Cond.fieldLink RJ2 44 "java/lang/StringUTF16" "$assertionsDisabled" "Z", Cond.fieldLink RJ2 59 "java/lang/StringUTF16" "HI_BYTE_SHIFT" "I", Cond.fieldLink RJ2 63 "java/lang/StringUTF16" "LO_BYTE_SHIFT" "I", Cond.methodLink RX2 53 yX2_endItem, Cond.instanceMethod yX2_endItem, Cond.selects RX2 yX2_endItem yX2_endItem, Cond.code yX2_endItem cX2_endItem 1 (some .boolean), Cond.methodLink RX2 41 yX2_readItem, Cond.instanceMethod yX2_readItem, Cond.selects RX2 yX2_readItem yX2_readItem, Cond.code yX2_readItem cX2_readItem 1 (some .boolean), Cond.methodLink RX2 58 yX2_readInfant, Cond.instanceMethod yX2_readInfant, Cond.selects RX2 yX2_readInfant yX2_readInfant, Cond.code yX2_readInfant cX2_readInfant 4 (some .boolean), Cond.fieldLink RX2 71 "PramState$Court" "infants" "I", Cond.methodLink RX2 74 yX2_number, Cond.instanceMethod yX2_number]
def wsA_14 : List Cond := [Cond.selects RX2 yX2_number yX2_number, Cond.code yX2_number cX2_number 3 (some .int), Cond.methodLink RX2 78 yX1_add, Cond.methodLink RX2 63 yX2_readSkill, Cond.instanceMethod yX2_readSkill, Cond.selects RX2 yX2_readSkill yX2_readSkill, Cond.code yX2_readSkill cX2_readSkill 3 (some .boolean), Cond.methodLink RX2 82 yX1_setSkill, Cond.methodLink RX2 68 yX2_readNurse, Cond.instanceMethod yX2_readNurse, Cond.selects RX2 yX2_readNurse yX2_readNurse, Cond.code yX2_readNurse cX2_readNurse 3 (some .boolean), Cond.fieldLink RX2 86 "PramState$Court" "nurse" "[I", Cond.methodLink RX9 111 yX1_copyFrom, Cond.instanceMethod yX1_copyFrom, Cond.selects RX1 yX1_copyFrom yX1_copyFrom, Cond.code yX1_copyFrom cX1_copyFrom 2 none, Cond.methodLink RX1 65 arraycopyName, Cond.native arraycopyName, Cond.static arraycopyName, Cond.initialized "java/lang/System", Cond.methodLink RL 40 yX10_read, Cond.instanceMethod yX10_read, Cond.selects RX10 yX10_read yX10_read]
def wsA_15 : List Cond := [Cond.code yX10_read cX10_read 3 (some .int), Cond.fieldLink RX10 224 "PramStateModel" "tokenAt" "I", Cond.fieldLink RX10 230 "PramStateModel" "token" "I", Cond.methodLink RX10 242 yX10_lookAt, Cond.instanceMethod yX10_lookAt, Cond.selects RX10 yX10_lookAt yX10_lookAt, Cond.code yX10_lookAt cX10_lookAt 5 none, Cond.fieldLink RX10 227 "PramStateModel" "tokenLong" "I", Cond.fieldLink RX10 233 "PramStateModel" "value" "I", Cond.methodLink RX10 236 yX10_isSmall, Cond.static yX10_isSmall, Cond.code yX10_isSmall cX10_isSmall 1 (some .boolean), Cond.constantLong RX10 216 (97), Cond.constantLong RX10 218 (122), Cond.methodLink RX10 239 yX10_isFigure, Cond.static yX10_isFigure, Cond.code yX10_isFigure cX10_isFigure 1 (some .boolean), Cond.constantLong RX10 220 (48), Cond.constantLong RX10 222 (57), Cond.methodLink RX10 252 yX10_spells, Cond.instanceMethod yX10_spells, Cond.selects RX10 yX10_spells yX10_spells, Cond.code yX10_spells cX10_spells 10 (some .boolean), Cond.methodLink RX10 246 yX10_goBehind]
def wsA_16 : List Cond := [Cond.instanceMethod yX10_goBehind, Cond.selects RX10 yX10_goBehind yX10_goBehind, Cond.code yX10_goBehind cX10_goBehind 1 none, Cond.methodLink RX10 266 yX10_takesItem, Cond.instanceMethod yX10_takesItem, Cond.selects RX10 yX10_takesItem yX10_takesItem, Cond.code yX10_takesItem cX10_takesItem 1 (some .boolean), Cond.methodLink RX10 256 yX10_takesInfant, Cond.instanceMethod yX10_takesInfant, Cond.selects RX10 yX10_takesInfant yX10_takesInfant, Cond.code yX10_takesInfant cX10_takesInfant 1 (some .boolean), Cond.methodLink RX10 249 yX10_takes, Cond.instanceMethod yX10_takes, Cond.selects RX10 yX10_takes yX10_takes, Cond.code yX10_takes cX10_takes 4 (some .boolean), Cond.methodLink RX10 260 yX10_takesSkill, Cond.instanceMethod yX10_takesSkill, Cond.selects RX10 yX10_takesSkill yX10_takesSkill, Cond.code yX10_takesSkill cX10_takesSkill 1 (some .boolean), Cond.methodLink RX10 263 yX10_takesNurse, Cond.instanceMethod yX10_takesNurse, Cond.selects RX10 yX10_takesNurse yX10_takesNurse, Cond.code yX10_takesNurse cX10_takesNurse 1 (some .boolean), Cond.methodLink RL 41 yX9_month]
def wsA_17 : List Cond := [Cond.instanceMethod yX9_month, Cond.selects RX9 yX9_month yX9_month, Cond.code yX9_month cX9_month 3 (some .int), Cond.methodLink RX9 114 yX1_remember, Cond.instanceMethod yX1_remember, Cond.selects RX1 yX1_remember yX1_remember, Cond.code yX1_remember cX1_remember 2 none, Cond.methodLink RX9 117 yX1_passMonth, Cond.instanceMethod yX1_passMonth, Cond.selects RX1 yX1_passMonth yX1_passMonth, Cond.code yX1_passMonth cX1_passMonth 2 none, Cond.methodLink RX1 71 yX1_isRetired, Cond.instanceMethod yX1_isRetired, Cond.selects RX1 yX1_isRetired yX1_isRetired, Cond.code yX1_isRetired cX1_isRetired 2 (some .boolean), Cond.methodLink RX1 75 yX1_walkingAge, Cond.instanceMethod yX1_walkingAge, Cond.selects RX1 yX1_walkingAge yX1_walkingAge, Cond.code yX1_walkingAge cX1_walkingAge 2 (some .int), Cond.methodLink RX1 79 ⟨"PramState$Plain", "walksWith", "()I"⟩, Cond.sameMethod "PramState$Plain" "PramState$Plain" "walksWith" "()I", Cond.selects RX0 ⟨"PramState$Plain", "walksWith", "()I"⟩ yX6_walksWith, Cond.instanceMethod yX6_walksWith, Cond.code yX6_walksWith cX6_walksWith 1 (some .int)]
def wsA_18 : List Cond := [Cond.instanceMethod ⟨"PramState$Plain", "walksWith", "()I"⟩, Cond.selects RX3 ⟨"PramState$Plain", "walksWith", "()I"⟩ yX3_walksWith, Cond.instanceMethod yX3_walksWith, Cond.code yX3_walksWith cX3_walksWith 1 (some .int), Cond.methodLink RX3 7 yX6_walksWith, Cond.superclass RX3 RX6, Cond.selects RX4 ⟨"PramState$Plain", "walksWith", "()I"⟩ yX4_walksWith, Cond.instanceMethod yX4_walksWith, Cond.code yX4_walksWith cX4_walksWith 1 (some .int), Cond.methodLink RX4 11 yX6_walksWith, Cond.superclass RX4 RX6, Cond.methodLink RX1 79 yX6_walksWith, Cond.selects RX6 yX6_walksWith yX6_walksWith, Cond.selects RX7 ⟨"PramState$Plain", "walksWith", "()I"⟩ yX6_walksWith, Cond.selects RX8 ⟨"PramState$Plain", "walksWith", "()I"⟩ yX6_walksWith, Cond.methodLink RX9 120 yX1_sovereign, Cond.instanceMethod yX1_sovereign, Cond.selects RX1 yX1_sovereign yX1_sovereign, Cond.code yX1_sovereign cX1_sovereign 4 (some .int), Cond.methodLink RL 44 yX10_month, Cond.instanceMethod yX10_month, Cond.selects RX10 yX10_month yX10_month, Cond.code yX10_month cX10_month 3 (some .int), Cond.constantLong RX10 129 (60)]
def wsA_19 : List Cond := [Cond.fieldLink RX10 113 "PramStateModel" "retired" "I", Cond.methodLink RX10 131 yX10_keep, Cond.instanceMethod yX10_keep, Cond.selects RX10 yX10_keep yX10_keep, Cond.code yX10_keep cX10_keep 2 none, Cond.methodLink RX10 120 yX10_layHand, Cond.instanceMethod yX10_layHand, Cond.selects RX10 yX10_layHand yX10_layHand, Cond.code yX10_layHand cX10_layHand 2 none, Cond.methodLink RX10 134 yX10_goMonth, Cond.instanceMethod yX10_goMonth, Cond.selects RX10 yX10_goMonth yX10_goMonth, Cond.code yX10_goMonth cX10_goMonth 2 none, Cond.methodLink RX10 117 yX10_has, Cond.static yX10_has, Cond.code yX10_has cX10_has 2 (some .boolean), Cond.methodLink RX10 96 yX10_kindOf, Cond.instanceMethod yX10_kindOf, Cond.selects RX10 yX10_kindOf yX10_kindOf, Cond.code yX10_kindOf cX10_kindOf 2 (some .int), Cond.methodLink RX10 126 yX10_walksAs, Cond.static yX10_walksAs, Cond.code yX10_walksAs cX10_walksAs 1 (some .int), Cond.methodLink RX10 123 yX10_reigns]
def wsA_20 : List Cond := [Cond.instanceMethod yX10_reigns, Cond.selects RX10 yX10_reigns yX10_reigns, Cond.code yX10_reigns cX10_reigns 4 (some .int), Cond.methodLink RL 45 yX9_nurse, Cond.instanceMethod yX9_nurse, Cond.selects RX9 yX9_nurse yX9_nurse, Cond.code yX9_nurse cX9_nurse 4 (some .int), Cond.fieldLink RX9 127 "PramState$Court" "nurse" "[I", Cond.methodLink RX9 123 yX9_isInfant, Cond.instanceMethod yX9_isInfant, Cond.selects RX9 yX9_isInfant yX9_isInfant, Cond.code yX9_isInfant cX9_isInfant 2 (some .boolean), Cond.methodLink RL 48 yX10_nurse, Cond.instanceMethod yX10_nurse, Cond.selects RX10 yX10_nurse yX10_nurse, Cond.code yX10_nurse cX10_nurse 4 (some .int), Cond.methodLink RX10 137 yX10_isInfant, Cond.instanceMethod yX10_isInfant, Cond.selects RX10 yX10_isInfant yX10_isInfant, Cond.code yX10_isInfant cX10_isInfant 2 (some .boolean), Cond.methodLink RL 49 yX9_retire, Cond.instanceMethod yX9_retire, Cond.selects RX9 yX9_retire yX9_retire, Cond.code yX9_retire cX9_retire 2 (some .int)]
def wsA_21 : List Cond := [Cond.fieldLink RX9 136 "PramState$Court" "retired" "I", Cond.methodLink RX9 130 yX1_isRetired, Cond.methodLink RX9 133 yX9_no, Cond.instanceMethod yX9_no, Cond.selects RX9 yX9_no yX9_no, Cond.code yX9_no cX9_no 1 (some .int), Cond.fieldLink RX9 238 "PramState" "noCalls" "I", Cond.methodLink RX9 139 yJ6_bitCount_0f7a4, Cond.static yJ6_bitCount_0f7a4, Cond.initialized RJ6, Cond.code yJ6_bitCount_0f7a4 cJ6_bitCount_0f7a4 1 (some .int), Cond.constant RJ6 265 (1431655765), Cond.constant RJ6 266 (858993459), Cond.constant RJ6 267 (252645135), Cond.methodLink RL 52 yX10_retire, Cond.instanceMethod yX10_retire, Cond.selects RX10 yX10_retire yX10_retire, Cond.code yX10_retire cX10_retire 2 (some .int), Cond.methodLink RX10 140 yX10_no, Cond.instanceMethod yX10_no, Cond.selects RX10 yX10_no yX10_no, Cond.code yX10_no cX10_no 1 (some .int), Cond.methodLink RX10 143 yX10_bits, Cond.static yX10_bits]
def wsA_22 : List Cond := [Cond.code yX10_bits cX10_bits 3 (some .int), Cond.methodLink RL 53 yX9_undo, Cond.instanceMethod yX9_undo, Cond.selects RX9 yX9_undo yX9_undo, Cond.code yX9_undo cX9_undo 1 (some .int), Cond.fieldLink RX9 144 "PramState$Court" "pasts" "I", Cond.fieldLink RX9 150 "PramState$Court" "month" "I", Cond.methodLink RX9 147 yX1_recall, Cond.instanceMethod yX1_recall, Cond.selects RX1 yX1_recall yX1_recall, Cond.code yX1_recall cX1_recall 2 none, Cond.methodLink RL 56 yX10_undo, Cond.instanceMethod yX10_undo, Cond.selects RX10 yX10_undo yX10_undo, Cond.code yX10_undo cX10_undo 2 (some .int), Cond.methodLink RL 57 yX9_of, Cond.instanceMethod yX9_of, Cond.selects RX9 yX9_of yX9_of, Cond.code yX9_of cX9_of 3 (some .int), Cond.fieldLink RX9 153 "PramState$Court" "kind" "[I", Cond.fieldLink RX9 156 "PramState$Court" "months" "[I", Cond.fieldLink RX9 159 "PramState$Court" "home" "[I", Cond.methodLink RX9 162 yX9_bit, Cond.static yX9_bit]
def wsA_23 : List Cond := [Cond.code yX9_bit cX9_bit 1 (some .int), Cond.methodLink RX9 166 yX1_walkingAge, Cond.methodLink RL 60 yX10_of, Cond.instanceMethod yX10_of, Cond.selects RX10 yX10_of yX10_of, Cond.code yX10_of cX10_of 3 (some .int), Cond.methodLink RL 61 yX9_hour, Cond.instanceMethod yX9_hour, Cond.selects RX9 yX9_hour yX9_hour, Cond.code yX9_hour cX9_hour 4 (some .int), Cond.methodLink RX9 169 yX1_isAsleep, Cond.instanceMethod yX1_isAsleep, Cond.selects RX1 yX1_isAsleep yX1_isAsleep, Cond.code yX1_isAsleep cX1_isAsleep 3 (some .boolean), Cond.methodLink RX1 85 ⟨"PramState$Plain", "sleepsIn", "(I)Z"⟩, Cond.sameMethod "PramState$Plain" "PramState$Plain" "sleepsIn" "(I)Z", Cond.instanceMethod ⟨"PramState$Plain", "sleepsIn", "(I)Z"⟩, Cond.selects RX0 ⟨"PramState$Plain", "sleepsIn", "(I)Z"⟩ yX0_sleepsIn, Cond.instanceMethod yX0_sleepsIn, Cond.code yX0_sleepsIn cX0_sleepsIn 2 (some .boolean), Cond.code yX6_sleepsIn cX6_sleepsIn 2 (some .boolean), Cond.selects RX3 ⟨"PramState$Plain", "sleepsIn", "(I)Z"⟩ yX6_sleepsIn, Cond.instanceMethod yX6_sleepsIn, Cond.selects RX4 ⟨"PramState$Plain", "sleepsIn", "(I)Z"⟩ yX4_sleepsIn]
def wsA_24 : List Cond := [Cond.instanceMethod yX4_sleepsIn, Cond.code yX4_sleepsIn cX4_sleepsIn 2 (some .boolean), Cond.methodLink RX4 7 yX6_sleepsIn, Cond.methodLink RX1 85 yX6_sleepsIn, Cond.selects RX6 yX6_sleepsIn yX6_sleepsIn, Cond.selects RX7 ⟨"PramState$Plain", "sleepsIn", "(I)Z"⟩ yX7_sleepsIn, Cond.instanceMethod yX7_sleepsIn, Cond.code yX7_sleepsIn cX7_sleepsIn 2 (some .boolean), Cond.methodLink RX7 7 yX6_sleepsIn, Cond.superclass RX7 RX6, Cond.selects RX8 ⟨"PramState$Plain", "sleepsIn", "(I)Z"⟩ yX6_sleepsIn, Cond.methodLink RX9 172 yX1_criesAt, Cond.instanceMethod yX1_criesAt, Cond.selects RX1 yX1_criesAt yX1_criesAt, Cond.code yX1_criesAt cX1_criesAt 4 (some .int), Cond.methodLink RX1 95 Lib.Math.max.name, Cond.static Lib.Math.max.name, Cond.initialized "java/lang/Math", Cond.code Lib.Math.max.name Lib.Math.max.code 2 (some .int), Cond.methodLink RX1 88 yX1_isAsleep, Cond.methodLink RX1 92 ⟨"PramState$Plain", "criesAwake", "(I)I"⟩, Cond.sameMethod "PramState$Plain" "PramState$Plain" "criesAwake" "(I)I", Cond.instanceMethod ⟨"PramState$Plain", "criesAwake", "(I)I"⟩, Cond.selects RX0 ⟨"PramState$Plain", "criesAwake", "(I)I"⟩ yX0_criesAwake]
def wsA_25 : List Cond := [Cond.instanceMethod yX0_criesAwake, Cond.code yX0_criesAwake cX0_criesAwake 2 (some .int), Cond.methodLink RX0 11 yX8_criesAwake, Cond.sameMethod "PramState$Twin" "PramState$Twin" "criesAwake" "(I)I", Cond.superclass RX0 RX8, Cond.instanceMethod yX8_criesAwake, Cond.code yX8_criesAwake cX8_criesAwake 2 (some .int), Cond.methodLink RX8 7 yX6_criesAwake, Cond.superclass RX8 RX6, Cond.instanceMethod yX6_criesAwake, Cond.code yX6_criesAwake cX6_criesAwake 2 (some .int), Cond.selects RX3 ⟨"PramState$Plain", "criesAwake", "(I)I"⟩ yX6_criesAwake, Cond.selects RX4 ⟨"PramState$Plain", "criesAwake", "(I)I"⟩ yX6_criesAwake, Cond.methodLink RX1 92 yX6_criesAwake, Cond.selects RX6 yX6_criesAwake yX6_criesAwake, Cond.selects RX7 ⟨"PramState$Plain", "criesAwake", "(I)I"⟩ yX7_criesAwake, Cond.instanceMethod yX7_criesAwake, Cond.code yX7_criesAwake cX7_criesAwake 3 (some .int), Cond.methodLink RX7 11 yX6_criesAwake, Cond.selects RX8 ⟨"PramState$Plain", "criesAwake", "(I)I"⟩ yX8_criesAwake, Cond.methodLink RL 64 yX10_hour, Cond.instanceMethod yX10_hour, Cond.selects RX10 yX10_hour yX10_hour, Cond.code yX10_hour cX10_hour 4 (some .int)]
def wsA_26 : List Cond := [Cond.methodLink RX10 146 yX10_isHour, Cond.static yX10_isHour, Cond.code yX10_isHour cX10_isHour 1 (some .boolean), Cond.constantLong RX10 71 (23), Cond.methodLink RX10 149 yX10_criesIn, Cond.instanceMethod yX10_criesIn, Cond.selects RX10 yX10_criesIn yX10_criesIn, Cond.code yX10_criesIn cX10_criesIn 3 (some .int), Cond.methodLink RX10 107 yX10_isAwake, Cond.instanceMethod yX10_isAwake, Cond.selects RX10 yX10_isAwake yX10_isAwake, Cond.code yX10_isAwake cX10_isAwake 3 (some .boolean), Cond.methodLink RX10 99 yX10_sleepsAs, Cond.static yX10_sleepsAs, Cond.code yX10_sleepsAs cX10_sleepsAs 3 (some .boolean), Cond.methodLink RX10 110 yX10_criesBy, Cond.instanceMethod yX10_criesBy, Cond.selects RX10 yX10_criesBy yX10_criesBy, Cond.code yX10_criesBy cX10_criesBy 4 (some .int), Cond.methodLink RX10 103 yX10_criesAs, Cond.static yX10_criesAs, Cond.code yX10_criesAs cX10_criesAs 3 (some .int), Cond.constantLong RX10 92 (6), Cond.constantLong RX10 94 (11)]
def wsA_27 : List Cond := [Cond.methodLink RL 65 yX9_day, Cond.instanceMethod yX9_day, Cond.selects RX9 yX9_day yX9_day, Cond.code yX9_day cX9_day 2 (some .int), Cond.methodLink RX9 176 yX1_criesAllDay, Cond.instanceMethod yX1_criesAllDay, Cond.selects RX1 yX1_criesAllDay yX1_criesAllDay, Cond.code yX1_criesAllDay cX1_criesAllDay 5 (some .int), Cond.methodLink RX1 101 yX1_criesAt, Cond.methodLink RL 68 yX10_day, Cond.instanceMethod yX10_day, Cond.selects RX10 yX10_day yX10_day, Cond.code yX10_day cX10_day 2 (some .int), Cond.methodLink RX10 152 yX10_dayBy, Cond.instanceMethod yX10_dayBy, Cond.selects RX10 yX10_dayBy yX10_dayBy, Cond.code yX10_dayBy cX10_dayBy 5 (some .int), Cond.methodLink RL 69 yX9_reign, Cond.instanceMethod yX9_reign, Cond.selects RX9 yX9_reign yX9_reign, Cond.code yX9_reign cX9_reign 2 (some .int), Cond.methodLink RL 72 yX10_reign, Cond.instanceMethod yX10_reign, Cond.selects RX10 yX10_reign yX10_reign]
def wsA_28 : List Cond := [Cond.code yX10_reign cX10_reign 3 (some .int), Cond.methodLink RL 73 yX9_falls, Cond.instanceMethod yX9_falls, Cond.selects RX9 yX9_falls yX9_falls, Cond.code yX9_falls cX9_falls 3 (some .int), Cond.methodLink RL 76 yX10_falls, Cond.instanceMethod yX10_falls, Cond.selects RX10 yX10_falls yX10_falls, Cond.code yX10_falls cX10_falls 3 (some .int), Cond.methodLink RX10 155 yX10_reignsNow, Cond.instanceMethod yX10_reignsNow, Cond.selects RX10 yX10_reignsNow yX10_reignsNow, Cond.code yX10_reignsNow cX10_reignsNow 1 (some .int), Cond.methodLink RL 77 yX9_line, Cond.instanceMethod yX9_line, Cond.selects RX9 yX9_line yX9_line, Cond.code yX9_line cX9_line 8 (some .int), Cond.methodLink RL 80 yX10_line, Cond.instanceMethod yX10_line, Cond.selects RX10 yX10_line yX10_line, Cond.code yX10_line cX10_line 3 (some .int), Cond.fieldLink RX10 158 "PramStateModel" "manyLine" "I", Cond.methodLink RX10 161 yX10_layLine, Cond.instanceMethod yX10_layLine]
def wsA_29 : List Cond := [Cond.selects RX10 yX10_layLine yX10_layLine, Cond.code yX10_layLine cX10_layLine 5 none, Cond.methodLink RL 81 yX9_meet, Cond.instanceMethod yX9_meet, Cond.selects RX9 yX9_meet yX9_meet, Cond.code yX9_meet cX9_meet 5 (some .int), Cond.methodLink RX9 180 yX1_canBeAwakeAt, Cond.instanceMethod yX1_canBeAwakeAt, Cond.selects RX1 yX1_canBeAwakeAt yX1_canBeAwakeAt, Cond.code yX1_canBeAwakeAt cX1_canBeAwakeAt 5 (some .boolean), Cond.methodLink RX1 105 Lib.Math.abs.name, Cond.static Lib.Math.abs.name, Cond.code Lib.Math.abs.name Lib.Math.abs.code 1 (some .int), Cond.methodLink RX1 108 Lib.Math.min.name, Cond.static Lib.Math.min.name, Cond.code Lib.Math.min.name Lib.Math.min.code 2 (some .int), Cond.methodLink RL 84 yX10_meet, Cond.instanceMethod yX10_meet, Cond.selects RX10 yX10_meet yX10_meet, Cond.code yX10_meet cX10_meet 5 (some .int), Cond.methodLink RX10 167 yX10_canBe, Cond.instanceMethod yX10_canBe, Cond.selects RX10 yX10_canBe yX10_canBe, Cond.code yX10_canBe cX10_canBe 4 (some .boolean)]
def wsA_30 : List Cond := [Cond.methodLink RX10 164 yX10_far, Cond.static yX10_far, Cond.code yX10_far cX10_far 3 (some .int), Cond.methodLink RL 85 yX9_congress, Cond.instanceMethod yX9_congress, Cond.selects RX9 yX9_congress yX9_congress, Cond.code yX9_congress cX9_congress 7 (some .int), Cond.methodLink RX9 184 yX1_awakeAt, Cond.instanceMethod yX1_awakeAt, Cond.selects RX1 yX1_awakeAt yX1_awakeAt, Cond.code yX1_awakeAt cX1_awakeAt 5 (some .int), Cond.methodLink RX1 111 yX1_canBeAwakeAt, Cond.methodLink RL 88 yX10_congress, Cond.instanceMethod yX10_congress, Cond.selects RX10 yX10_congress yX10_congress, Cond.code yX10_congress cX10_congress 8 (some .int), Cond.methodLink RL 89 yX9_nurses, Cond.instanceMethod yX9_nurses, Cond.selects RX9 yX9_nurses yX9_nurses, Cond.code yX9_nurses cX9_nurses 2 (some .int), Cond.methodLink RX9 187 yX5_weigh, Cond.instanceMethod yX5_weigh, Cond.selects RX5 yX5_weigh yX5_weigh, Cond.code yX5_weigh cX5_weigh 4 none]
def wsA_31 : List Cond := [Cond.fieldLink RX5 21 "PramState$NursePlan" "awaiting" "I", Cond.fieldLink RX5 25 "PramState$Court" "infants" "I", Cond.methodLink RX5 30 yX1_isRetired, Cond.methodLink RX5 34 yX1_criesAllDay, Cond.methodLink RX5 38 yJ6_bitCount_0f7a4, Cond.methodLink RX5 44 yX5_firstBest, Cond.instanceMethod yX5_firstBest, Cond.selects RX5 yX5_firstBest yX5_firstBest, Cond.code yX5_firstBest cX5_firstBest 7 (some .int), Cond.constant RX5 51 (1000000), Cond.methodLink RX5 47 yX5_costOf, Cond.instanceMethod yX5_costOf, Cond.selects RX5 yX5_costOf yX5_costOf, Cond.code yX5_costOf cX5_costOf 4 (some .int), Cond.methodLink RX9 190 yX5_least, Cond.instanceMethod yX5_least, Cond.selects RX5 yX5_least yX5_least, Cond.code yX5_least cX5_least 1 (some .int), Cond.methodLink RX9 193 yX5_nurseOf, Cond.instanceMethod yX5_nurseOf, Cond.selects RX5 yX5_nurseOf yX5_nurseOf, Cond.code yX5_nurseOf cX5_nurseOf 5 (some .int), Cond.methodLink RL 92 yX10_nurses, Cond.instanceMethod yX10_nurses]
def wsA_32 : List Cond := [Cond.selects RX10 yX10_nurses yX10_nurses, Cond.code yX10_nurses cX10_nurses 7 (some .int), Cond.constantLong RX10 172 (-1), Cond.constant RX10 171 (1000000), Cond.methodLink RX10 174 yX10_criedBy, Cond.instanceMethod yX10_criedBy, Cond.selects RX10 yX10_criedBy yX10_criedBy, Cond.code yX10_criedBy cX10_criedBy 8 (some .int), Cond.methodLink RL 93 yX9_visit, Cond.instanceMethod yX9_visit, Cond.selects RX9 yX9_visit yX9_visit, Cond.code yX9_visit cX9_visit 6 (some .int), Cond.methodLink RL 96 yX10_visit, Cond.instanceMethod yX10_visit, Cond.selects RX10 yX10_visit yX10_visit, Cond.code yX10_visit cX10_visit 6 (some .int), Cond.methodLink RL 97 yX9_note, Cond.instanceMethod yX9_note, Cond.selects RX9 yX9_note yX9_note, Cond.code yX9_note cX9_note 6 (some .int), Cond.fieldLink RX9 196 "PramState$Court" "notes" "I", Cond.methodLink RX9 199 yX1_addNote, Cond.instanceMethod yX1_addNote, Cond.selects RX1 yX1_addNote yX1_addNote]
def wsA_33 : List Cond := [Cond.code yX1_addNote cX1_addNote 7 none, Cond.methodLink RL 101 yX10_note, Cond.instanceMethod yX10_note, Cond.selects RX10 yX10_note yX10_note, Cond.code yX10_note cX10_note 7 (some .int), Cond.constantLong RX10 177 (20), Cond.methodLink RL 102 yX9_heard, Cond.instanceMethod yX9_heard, Cond.selects RX9 yX9_heard yX9_heard, Cond.code yX9_heard cX9_heard 3 (some .int), Cond.fieldLink RX9 203 "PramState$Court" "sounds" "I", Cond.methodLink RX9 206 yX1_addSound, Cond.instanceMethod yX1_addSound, Cond.selects RX1 yX1_addSound yX1_addSound, Cond.code yX1_addSound cX1_addSound 4 none, Cond.methodLink RL 105 yX10_heard, Cond.instanceMethod yX10_heard, Cond.selects RX10 yX10_heard yX10_heard, Cond.code yX10_heard cX10_heard 3 (some .int), Cond.methodLink RL 106 yX9_forget, Cond.instanceMethod yX9_forget, Cond.selects RX9 yX9_forget yX9_forget, Cond.code yX9_forget cX9_forget 3 (some .int), Cond.methodLink RL 109 yX10_forget]
def wsA_34 : List Cond := [Cond.instanceMethod yX10_forget, Cond.selects RX10 yX10_forget yX10_forget, Cond.code yX10_forget cX10_forget 3 (some .int), Cond.methodLink RL 110 yX9_is, Cond.instanceMethod yX9_is, Cond.selects RX9 yX9_is yX9_is, Cond.code yX9_is cX9_is 2 (some .int), Cond.methodLink RX9 209 yX1_kindsThatFit, Cond.instanceMethod yX1_kindsThatFit, Cond.selects RX1 yX1_kindsThatFit yX1_kindsThatFit, Cond.code yX1_kindsThatFit cX1_kindsThatFit 4 (some .int), Cond.methodLink RX1 115 yX1_fitsNotes, Cond.instanceMethod yX1_fitsNotes, Cond.selects RX1 yX1_fitsNotes yX1_fitsNotes, Cond.code yX1_fitsNotes cX1_fitsNotes 6 (some .boolean), Cond.methodLink RX1 118 yX1_manner, Cond.instanceMethod yX1_manner, Cond.selects RX1 yX1_manner yX1_manner, Cond.code yX1_manner cX1_manner 4 (some .int), Cond.methodLink RL 113 yX10_is, Cond.instanceMethod yX10_is, Cond.selects RX10 yX10_is yX10_is, Cond.code yX10_is cX10_is 2 (some .int), Cond.methodLink RX10 183 yX10_kindsOf]
def wsA_35 : List Cond := [Cond.instanceMethod yX10_kindsOf, Cond.selects RX10 yX10_kindsOf yX10_kindsOf, Cond.code yX10_kindsOf cX10_kindsOf 8 (some .int), Cond.methodLink RX10 179 yX10_criesThen, Cond.static yX10_criesThen, Cond.code yX10_criesThen cX10_criesThen 3 (some .int), Cond.methodLink RL 114 yX9_listen, Cond.instanceMethod yX9_listen, Cond.selects RX9 yX9_listen yX9_listen, Cond.code yX9_listen cX9_listen 7 (some .int), Cond.methodLink RX9 212 yX1_mostAlike, Cond.instanceMethod yX1_mostAlike, Cond.selects RX1 yX1_mostAlike yX1_mostAlike, Cond.code yX1_mostAlike cX1_mostAlike 8 (some .int), Cond.methodLink RL 117 yX10_listen, Cond.instanceMethod yX10_listen, Cond.selects RX10 yX10_listen yX10_listen, Cond.code yX10_listen cX10_listen 10 (some .int), Cond.methodLink RX10 186 yX10_areAlike, Cond.static yX10_areAlike, Cond.code yX10_areAlike cX10_areAlike 4 (some .boolean), Cond.methodLink RL 118 yX9_which, Cond.instanceMethod yX9_which, Cond.selects RX9 yX9_which yX9_which]
def wsA_36 : List Cond := [Cond.code yX9_which cX9_which 3 (some .int), Cond.methodLink RX9 215 yX1_mayHaveBeen, Cond.instanceMethod yX1_mayHaveBeen, Cond.selects RX1 yX1_mayHaveBeen yX1_mayHaveBeen, Cond.code yX1_mayHaveBeen cX1_mayHaveBeen 4 (some .boolean), Cond.methodLink RL 121 yX10_which, Cond.instanceMethod yX10_which, Cond.selects RX10 yX10_which yX10_which, Cond.code yX10_which cX10_which 5 (some .int), Cond.methodLink RL 122 yX9_powers, Cond.instanceMethod yX9_powers, Cond.selects RX9 yX9_powers yX9_powers, Cond.code yX9_powers cX9_powers 8 (some .int), Cond.methodLink RX9 218 yX9_contentWith, Cond.static yX9_contentWith, Cond.code yX9_contentWith cX9_contentWith 3 (some .boolean), Cond.methodLink RX9 255 yX9_gain, Cond.static yX9_gain, Cond.code yX9_gain cX9_gain 4 (some .int), Cond.methodLink RL 125 yX10_powers, Cond.instanceMethod yX10_powers, Cond.selects RX10 yX10_powers yX10_powers, Cond.code yX10_powers cX10_powers 6 (some .int), Cond.methodLink RL 126 yX9_walks]
def wsA_37 : List Cond := [Cond.instanceMethod yX9_walks, Cond.selects RX9 yX9_walks yX9_walks, Cond.code yX9_walks cX9_walks 4 (some .int), Cond.methodLink RX9 221 yX9_setPower, Cond.instanceMethod yX9_setPower, Cond.selects RX9 yX9_setPower yX9_setPower, Cond.code yX9_setPower cX9_setPower 5 none, Cond.methodLink RX9 258 yX9_commonWithTen, Cond.static yX9_commonWithTen, Cond.code yX9_commonWithTen cX9_commonWithTen 1 (some .int), Cond.methodLink RL 129 yX10_walks, Cond.instanceMethod yX10_walks, Cond.selects RX10 yX10_walks yX10_walks, Cond.code yX10_walks cX10_walks 9 (some .int), Cond.constantLong RX10 193 (10), Cond.methodLink RX10 195 yX10_fraction, Cond.instanceMethod yX10_fraction, Cond.selects RX10 yX10_fraction yX10_fraction, Cond.code yX10_fraction cX10_fraction 11 none, Cond.fieldLink RX10 190 "PramStateModel" "above" "J", Cond.methodLink RL 130 yX9_dynasties, Cond.instanceMethod yX9_dynasties, Cond.selects RX9 yX9_dynasties yX9_dynasties, Cond.code yX9_dynasties cX9_dynasties 11 (some .int)]
def wsA_38 : List Cond := [Cond.constant RX9 224 (999999), Cond.constantLong RX9 225 (1103515245), Cond.constantLong RX9 227 (12345), Cond.constantLong RX9 229 (2147483648), Cond.constantLong RX9 231 (65536), Cond.constantLong RX9 233 (36), Cond.methodLink RL 133 yX10_dynasties, Cond.instanceMethod yX10_dynasties, Cond.selects RX10 yX10_dynasties yX10_dynasties, Cond.code yX10_dynasties cX10_dynasties 8 (some .int), Cond.constantLong RX10 199 (999999), Cond.constantLong RX10 201 (1103515245), Cond.constantLong RX10 203 (12345), Cond.constantLong RX10 205 (2147483648), Cond.constantLong RX10 207 (65536), Cond.constantLong RX10 209 (36), Cond.methodLink RL 134 yX9_part, Cond.instanceMethod yX9_part, Cond.selects RX9 yX9_part yX9_part, Cond.code yX9_part cX9_part 2 (some .long), Cond.methodLink RL 138 yX10_part, Cond.instanceMethod yX10_part, Cond.selects RX10 yX10_part yX10_part, Cond.code yX10_part cX10_part 2 (some .long)]
def wsA_39 : List Cond := [Cond.methodLink RL 139 yX9_image, Cond.instanceMethod yX9_image, Cond.selects RX9 yX9_image yX9_image, Cond.code yX9_image cX9_image 2 (some .int), Cond.methodLink RL 142 yX10_image, Cond.instanceMethod yX10_image, Cond.selects RX10 yX10_image yX10_image, Cond.code yX10_image cX10_image 3 (some .int), Cond.methodLink RL 143 yX9_from, Cond.instanceMethod yX9_from, Cond.selects RX9 yX9_from yX9_from, Cond.code yX9_from cX9_from 2 (some .int), Cond.methodLink RL 146 yX10_from, Cond.instanceMethod yX10_from, Cond.selects RX10 yX10_from yX10_from, Cond.code yX10_from cX10_from 3 (some .int), Cond.methodLink RL 147 yX9_status, Cond.instanceMethod yX9_status, Cond.selects RX9 yX9_status yX9_status, Cond.code yX9_status cX9_status 2 (some .int), Cond.methodLink RL 150 yX10_status, Cond.instanceMethod yX10_status, Cond.selects RX10 yX10_status yX10_status, Cond.code yX10_status cX10_status 2 (some .int)]
def wsA_40 : List Cond := [Cond.constantLong RX10 269 (2), Cond.methodLink RL 151 yX9_count, Cond.instanceMethod yX9_count, Cond.selects RX9 yX9_count yX9_count, Cond.code yX9_count cX9_count 2 (some .int), Cond.methodLink RX9 244 yX9_tally, Cond.instanceMethod yX9_tally, Cond.selects RX9 yX9_tally yX9_tally, Cond.code yX9_tally cX9_tally 2 (some .int), Cond.methodLink RL 154 yX10_count, Cond.instanceMethod yX10_count, Cond.selects RX10 yX10_count yX10_count, Cond.code yX10_count cX10_count 2 (some .int), Cond.methodLink RX10 271 yX10_counted, Cond.instanceMethod yX10_counted, Cond.selects RX10 yX10_counted yX10_counted, Cond.code yX10_counted cX10_counted 2 (some .int), Cond.methodLink RL 155 yX9_digest, Cond.instanceMethod yX9_digest, Cond.selects RX9 yX9_digest yX9_digest, Cond.code yX9_digest cX9_digest 4 (some .long), Cond.constantLong RX9 247 (1423), Cond.constantLong RX9 249 (31), Cond.methodLink RX9 251 yX1_digestFrom]
def wsA_41 : List Cond := [Cond.instanceMethod yX1_digestFrom, Cond.selects RX1 yX1_digestFrom yX1_digestFrom, Cond.code yX1_digestFrom cX1_digestFrom 6 (some .long), Cond.constantLong RX1 121 (31), Cond.methodLink RL 159 yX10_digest, Cond.instanceMethod yX10_digest, Cond.selects RX10 yX10_digest yX10_digest, Cond.code yX10_digest cX10_digest 4 (some .long), Cond.constantLong RX10 276 (1423), Cond.constantLong RX10 274 (31), Cond.methodLink RX10 278 yX10_sums, Cond.instanceMethod yX10_sums, Cond.selects RX10 yX10_sums yX10_sums, Cond.code yX10_sums cX10_sums 8 (some .long), Cond.methodLink RX0 7 ⟨"PramState$Twin", "sleepsIn", "(I)Z"⟩, Cond.sameMethod "PramState$Twin" "PramState$Plain" "sleepsIn" "(I)Z"]
def wsAll : List Cond := (wsA_1 ++ (wsA_2 ++ (wsA_3 ++ (wsA_4 ++ (wsA_5 ++ (wsA_6 ++ (wsA_7 ++ (wsA_8 ++ (wsA_9 ++ (wsA_10 ++ (wsA_11 ++ (wsA_12 ++ (wsA_13 ++ (wsA_14 ++ (wsA_15 ++ (wsA_16 ++ (wsA_17 ++ (wsA_18 ++ (wsA_19 ++ (wsA_20 ++ (wsA_21 ++ (wsA_22 ++ (wsA_23 ++ (wsA_24 ++ (wsA_25 ++ (wsA_26 ++ (wsA_27 ++ (wsA_28 ++ (wsA_29 ++ (wsA_30 ++ (wsA_31 ++ (wsA_32 ++ (wsA_33 ++ (wsA_34 ++ (wsA_35 ++ (wsA_36 ++ (wsA_37 ++ (wsA_38 ++ (wsA_39 ++ (wsA_40 ++ (wsA_41 ++ (wsX00 ++ (wsX10 ++ (wsX20 ++ (wsX30 ++ (wsX40 ++ (wsX50 ++ (wsX60 ++ (wsX70 ++ (wsX80 ++ (wsX90 ++ wsX100)))))))))))))))))))))))))))))))))))))))))))))))))))
theorem in_wsA_1 : ∀ w ∈ wsA_1, w ∈ wsAll := fun _ h => (List.mem_append_left _ h)
theorem in_wsA_2 : ∀ w ∈ wsA_2, w ∈ wsAll := fun _ h => (List.mem_append_right _ (List.mem_append_left _ h))
theorem in_wsA_3 : ∀ w ∈ wsA_3, w ∈ wsAll := fun _ h => (List.mem_append_right _ (List.mem_append_right _ (List.mem_append_left _ h)))
theorem in_wsA_4 : ∀ w ∈ wsA_4, w ∈ wsAll := fun _ h => (List.mem_append_right _ (List.mem_append_right _ (List.mem_append_right _ (List.mem_append_left _ h))))
theorem in_wsA_5 : ∀ w ∈ wsA_5, w ∈ wsAll := fun _ h => (List.mem_append_right _ (List.mem_append_right _ (List.mem_append_right _ (List.mem_append_right _ (List.mem_append_left _ h)))))
theorem in_wsA_6 : ∀ w ∈ wsA_6, w ∈ wsAll := fun _ h => (List.mem_append_right _ (List.mem_append_right _ (List.mem_append_right _ (List.mem_append_right _ (List.mem_append_right _ (List.mem_append_left _ h))))))
theorem in_wsA_7 : ∀ w ∈ wsA_7, w ∈ wsAll := fun _ h => (List.mem_append_right _ (List.mem_append_right _ (List.mem_append_right _ (List.mem_append_right _ (List.mem_append_right _ (List.mem_append_right _ (List.mem_append_left _ h)))))))
theorem in_wsA_8 : ∀ w ∈ wsA_8, w ∈ wsAll := fun _ h => (List.mem_append_right _ (List.mem_append_right _ (List.mem_append_right _ (List.mem_append_right _ (List.mem_append_right _ (List.mem_append_right _ (List.mem_append_right _ (List.mem_append_left _ h))))))))
theorem in_wsA_9 : ∀ w ∈ wsA_9, w ∈ wsAll := fun _ h => (List.mem_append_right _ (List.mem_append_right _ (List.mem_append_right _ (List.mem_append_right _ (List.mem_append_right _ (List.mem_append_right _ (List.mem_append_right _ (List.mem_append_right _ (List.mem_append_left _ h)))))))))
theorem in_wsA_10 : ∀ w ∈ wsA_10, w ∈ wsAll := fun _ h => (List.mem_append_right _ (List.mem_append_right _ (List.mem_append_right _ (List.mem_append_right _ (List.mem_append_right _ (List.mem_append_right _ (List.mem_append_right _ (List.mem_append_right _ (List.mem_append_right _ (List.mem_append_left _ h))))))))))
theorem in_wsA_11 : ∀ w ∈ wsA_11, w ∈ wsAll := fun _ h => (List.mem_append_right _ (List.mem_append_right _ (List.mem_append_right _ (List.mem_append_right _ (List.mem_append_right _ (List.mem_append_right _ (List.mem_append_right _ (List.mem_append_right _ (List.mem_append_right _ (List.mem_append_right _ (List.mem_append_left _ h)))))))))))
theorem in_wsA_12 : ∀ w ∈ wsA_12, w ∈ wsAll := fun _ h => (List.mem_append_right _ (List.mem_append_right _ (List.mem_append_right _ (List.mem_append_right _ (List.mem_append_right _ (List.mem_append_right _ (List.mem_append_right _ (List.mem_append_right _ (List.mem_append_right _ (List.mem_append_right _ (List.mem_append_right _ (List.mem_append_left _ h))))))))))))
theorem in_wsA_13 : ∀ w ∈ wsA_13, w ∈ wsAll := fun _ h => (List.mem_append_right _ (List.mem_append_right _ (List.mem_append_right _ (List.mem_append_right _ (List.mem_append_right _ (List.mem_append_right _ (List.mem_append_right _ (List.mem_append_right _ (List.mem_append_right _ (List.mem_append_right _ (List.mem_append_right _ (List.mem_append_right _ (List.mem_append_left _ h)))))))))))))
theorem in_wsA_14 : ∀ w ∈ wsA_14, w ∈ wsAll := fun _ h => (List.mem_append_right _ (List.mem_append_right _ (List.mem_append_right _ (List.mem_append_right _ (List.mem_append_right _ (List.mem_append_right _ (List.mem_append_right _ (List.mem_append_right _ (List.mem_append_right _ (List.mem_append_right _ (List.mem_append_right _ (List.mem_append_right _ (List.mem_append_right _ (List.mem_append_left _ h))))))))))))))
theorem in_wsA_15 : ∀ w ∈ wsA_15, w ∈ wsAll := fun _ h => (List.mem_append_right _ (List.mem_append_right _ (List.mem_append_right _ (List.mem_append_right _ (List.mem_append_right _ (List.mem_append_right _ (List.mem_append_right _ (List.mem_append_right _ (List.mem_append_right _ (List.mem_append_right _ (List.mem_append_right _ (List.mem_append_right _ (List.mem_append_right _ (List.mem_append_right _ (List.mem_append_left _ h)))))))))))))))
theorem in_wsA_16 : ∀ w ∈ wsA_16, w ∈ wsAll := fun _ h => (List.mem_append_right _ (List.mem_append_right _ (List.mem_append_right _ (List.mem_append_right _ (List.mem_append_right _ (List.mem_append_right _ (List.mem_append_right _ (List.mem_append_right _ (List.mem_append_right _ (List.mem_append_right _ (List.mem_append_right _ (List.mem_append_right _ (List.mem_append_right _ (List.mem_append_right _ (List.mem_append_right _ (List.mem_append_left _ h))))))))))))))))
theorem in_wsA_17 : ∀ w ∈ wsA_17, w ∈ wsAll := fun _ h => (List.mem_append_right _ (List.mem_append_right _ (List.mem_append_right _ (List.mem_append_right _ (List.mem_append_right _ (List.mem_append_right _ (List.mem_append_right _ (List.mem_append_right _ (List.mem_append_right _ (List.mem_append_right _ (List.mem_append_right _ (List.mem_append_right _ (List.mem_append_right _ (List.mem_append_right _ (List.mem_append_right _ (List.mem_append_right _ (List.mem_append_left _ h)))))))))))))))))
theorem in_wsA_18 : ∀ w ∈ wsA_18, w ∈ wsAll := fun _ h => (List.mem_append_right _ (List.mem_append_right _ (List.mem_append_right _ (List.mem_append_right _ (List.mem_append_right _ (List.mem_append_right _ (List.mem_append_right _ (List.mem_append_right _ (List.mem_append_right _ (List.mem_append_right _ (List.mem_append_right _ (List.mem_append_right _ (List.mem_append_right _ (List.mem_append_right _ (List.mem_append_right _ (List.mem_append_right _ (List.mem_append_right _ (List.mem_append_left _ h))))))))))))))))))
theorem in_wsA_19 : ∀ w ∈ wsA_19, w ∈ wsAll := fun _ h => (List.mem_append_right _ (List.mem_append_right _ (List.mem_append_right _ (List.mem_append_right _ (List.mem_append_right _ (List.mem_append_right _ (List.mem_append_right _ (List.mem_append_right _ (List.mem_append_right _ (List.mem_append_right _ (List.mem_append_right _ (List.mem_append_right _ (List.mem_append_right _ (List.mem_append_right _ (List.mem_append_right _ (List.mem_append_right _ (List.mem_append_right _ (List.mem_append_right _ (List.mem_append_left _ h)))))))))))))))))))
theorem in_wsA_20 : ∀ w ∈ wsA_20, w ∈ wsAll := fun _ h => (List.mem_append_right _ (List.mem_append_right _ (List.mem_append_right _ (List.mem_append_right _ (List.mem_append_right _ (List.mem_append_right _ (List.mem_append_right _ (List.mem_append_right _ (List.mem_append_right _ (List.mem_append_right _ (List.mem_append_right _ (List.mem_append_right _ (List.mem_append_right _ (List.mem_append_right _ (List.mem_append_right _ (List.mem_append_right _ (List.mem_append_right _ (List.mem_append_right _ (List.mem_append_right _ (List.mem_append_left _ h))))))))))))))))))))
theorem in_wsA_21 : ∀ w ∈ wsA_21, w ∈ wsAll := fun _ h => (List.mem_append_right _ (List.mem_append_right _ (List.mem_append_right _ (List.mem_append_right _ (List.mem_append_right _ (List.mem_append_right _ (List.mem_append_right _ (List.mem_append_right _ (List.mem_append_right _ (List.mem_append_right _ (List.mem_append_right _ (List.mem_append_right _ (List.mem_append_right _ (List.mem_append_right _ (List.mem_append_right _ (List.mem_append_right _ (List.mem_append_right _ (List.mem_append_right _ (List.mem_append_right _ (List.mem_append_right _ (List.mem_append_left _ h)))))))))))))))))))))
theorem in_wsA_22 : ∀ w ∈ wsA_22, w ∈ wsAll := fun _ h => (List.mem_append_right _ (List.mem_append_right _ (List.mem_append_right _ (List.mem_append_right _ (List.mem_append_right _ (List.mem_append_right _ (List.mem_append_right _ (List.mem_append_right _ (List.mem_append_right _ (List.mem_append_right _ (List.mem_append_right _ (List.mem_append_right _ (List.mem_append_right _ (List.mem_append_right _ (List.mem_append_right _ (List.mem_append_right _ (List.mem_append_right _ (List.mem_append_right _ (List.mem_append_right _ (List.mem_append_right _ (List.mem_append_right _ (List.mem_append_left _ h))))))))))))))))))))))
theorem in_wsA_23 : ∀ w ∈ wsA_23, w ∈ wsAll := fun _ h => (List.mem_append_right _ (List.mem_append_right _ (List.mem_append_right _ (List.mem_append_right _ (List.mem_append_right _ (List.mem_append_right _ (List.mem_append_right _ (List.mem_append_right _ (List.mem_append_right _ (List.mem_append_right _ (List.mem_append_right _ (List.mem_append_right _ (List.mem_append_right _ (List.mem_append_right _ (List.mem_append_right _ (List.mem_append_right _ (List.mem_append_right _ (List.mem_append_right _ (List.mem_append_right _ (List.mem_append_right _ (List.mem_append_right _ (List.mem_append_right _ (List.mem_append_left _ h)))))))))))))))))))))))
theorem in_wsA_24 : ∀ w ∈ wsA_24, w ∈ wsAll := fun _ h => (List.mem_append_right _ (List.mem_append_right _ (List.mem_append_right _ (List.mem_append_right _ (List.mem_append_right _ (List.mem_append_right _ (List.mem_append_right _ (List.mem_append_right _ (List.mem_append_right _ (List.mem_append_right _ (List.mem_append_right _ (List.mem_append_right _ (List.mem_append_right _ (List.mem_append_right _ (List.mem_append_right _ (List.mem_append_right _ (List.mem_append_right _ (List.mem_append_right _ (List.mem_append_right _ (List.mem_append_right _ (List.mem_append_right _ (List.mem_append_right _ (List.mem_append_right _ (List.mem_append_left _ h))))))))))))))))))))))))
theorem in_wsA_25 : ∀ w ∈ wsA_25, w ∈ wsAll := fun _ h => (List.mem_append_right _ (List.mem_append_right _ (List.mem_append_right _ (List.mem_append_right _ (List.mem_append_right _ (List.mem_append_right _ (List.mem_append_right _ (List.mem_append_right _ (List.mem_append_right _ (List.mem_append_right _ (List.mem_append_right _ (List.mem_append_right _ (List.mem_append_right _ (List.mem_append_right _ (List.mem_append_right _ (List.mem_append_right _ (List.mem_append_right _ (List.mem_append_right _ (List.mem_append_right _ (List.mem_append_right _ (List.mem_append_right _ (List.mem_append_right _ (List.mem_append_right _ (List.mem_append_right _ (List.mem_append_left _ h)))))))))))))))))))))))))
theorem in_wsA_26 : ∀ w ∈ wsA_26, w ∈ wsAll := fun _ h => (List.mem_append_right _ (List.mem_append_right _ (List.mem_append_right _ (List.mem_append_right _ (List.mem_append_right _ (List.mem_append_right _ (List.mem_append_right _ (List.mem_append_right _ (List.mem_append_right _ (List.mem_append_right _ (List.mem_append_right _ (List.mem_append_right _ (List.mem_append_right _ (List.mem_append_right _ (List.mem_append_right _ (List.mem_append_right _ (List.mem_append_right _ (List.mem_append_right _ (List.mem_append_right _ (List.mem_append_right _ (List.mem_append_right _ (List.mem_append_right _ (List.mem_append_right _ (List.mem_append_right _ (List.mem_append_right _ (List.mem_append_left _ h))))))))))))))))))))))))))
theorem in_wsA_27 : ∀ w ∈ wsA_27, w ∈ wsAll := fun _ h => (List.mem_append_right _ (List.mem_append_right _ (List.mem_append_right _ (List.mem_append_right _ (List.mem_append_right _ (List.mem_append_right _ (List.mem_append_right _ (List.mem_append_right _ (List.mem_append_right _ (List.mem_append_right _ (List.mem_append_right _ (List.mem_append_right _ (List.mem_append_right _ (List.mem_append_right _ (List.mem_append_right _ (List.mem_append_right _ (List.mem_append_right _ (List.mem_append_right _ (List.mem_append_right _ (List.mem_append_right _ (List.mem_append_right _ (List.mem_append_right _ (List.mem_append_right _ (List.mem_append_right _ (List.mem_append_right _ (List.mem_append_right _ (List.mem_append_left _ h)))))))))))))))))))))))))))
theorem in_wsA_28 : ∀ w ∈ wsA_28, w ∈ wsAll := fun _ h => (List.mem_append_right _ (List.mem_append_right _ (List.mem_append_right _ (List.mem_append_right _ (List.mem_append_right _ (List.mem_append_right _ (List.mem_append_right _ (List.mem_append_right _ (List.mem_append_right _ (List.mem_append_right _ (List.mem_append_right _ (List.mem_append_right _ (List.mem_append_right _ (List.mem_append_right _ (List.mem_append_right _ (List.mem_append_right _ (List.mem_append_right _ (List.mem_append_right _ (List.mem_append_right _ (List.mem_append_right _ (List.mem_append_right _ (List.mem_append_right _ (List.mem_append_right _ (List.mem_append_right _ (List.mem_append_right _ (List.mem_append_right _ (List.mem_append_right _ (List.mem_append_left _ h))))))))))))))))))))))))))))
theorem in_wsA_29 : ∀ w ∈ wsA_29, w ∈ wsAll := fun _ h => (List.mem_append_right _ (List.mem_append_right _ (List.mem_append_right _ (List.mem_append_right _ (List.mem_append_right _ (List.mem_append_right _ (List.mem_append_right _ (List.mem_append_right _ (List.mem_append_right _ (List.mem_append_right _ (List.mem_append_right _ (List.mem_append_right _ (List.mem_append_right _ (List.mem_append_right _ (List.mem_append_right _ (List.mem_append_right _ (List.mem_append_right _ (List.mem_append_right _ (List.mem_append_right _ (List.mem_append_right _ (List.mem_append_right _ (List.mem_append_right _ (List.mem_append_right _ (List.mem_append_right _ (List.mem_append_right _ (List.mem_append_right _ (List.mem_append_right _ (List.mem_append_right _ (List.mem_append_left _ h)))))))))))))))))))))))))))))
theorem in_wsA_30 : ∀ w ∈ wsA_30, w ∈ wsAll := fun _ h => (List.mem_append_right _ (List.mem_append_right _ (List.mem_append_right _ (List.mem_append_right _ (List.mem_append_right _ (List.mem_append_right _ (List.mem_append_right _ (List.mem_append_right _ (List.mem_append_right _ (List.mem_append_right _ (List.mem_append_right _ (List.mem_append_right _ (List.mem_append_right _ (List.mem_append_right _ (List.mem_append_right _ (List.mem_append_right _ (List.mem_append_right _ (List.mem_append_right _ (List.mem_append_right _ (List.mem_append_right _ (List.mem_append_right _ (List.mem_append_right _ (List.mem_append_right _ (List.mem_append_right _ (List.mem_append_right _ (List.mem_append_right _ (List.mem_append_right _ (List.mem_append_right _ (List.mem_append_right _ (List.mem_append_left _ h))))))))))))))))))))))))))))))
theorem in_wsA_31 : ∀ w ∈ wsA_31, w ∈ wsAll := fun _ h => (List.mem_append_right _ (List.mem_append_right _ (List.mem_append_right _ (List.mem_append_right _ (List.mem_append_right _ (List.mem_append_right _ (List.mem_append_right _ (List.mem_append_right _ (List.mem_append_right _ (List.mem_append_right _ (List.mem_append_right _ (List.mem_append_right _ (List.mem_append_right _ (List.mem_append_right _ (List.mem_append_right _ (List.mem_append_right _ (List.mem_append_right _ (List.mem_append_right _ (List.mem_append_right _ (List.mem_append_right _ (List.mem_append_right _ (List.mem_append_right _ (List.mem_append_right _ (List.mem_append_right _ (List.mem_append_right _ (List.mem_append_right _ (List.mem_append_right _ (List.mem_append_right _ (List.mem_append_right _ (List.mem_append_right _ (List.mem_append_left _ h)))))))))))))))))))))))))))))))
theorem in_wsA_32 : ∀ w ∈ wsA_32, w ∈ wsAll := fun _ h => (List.mem_append_right _ (List.mem_append_right _ (List.mem_append_right _ (List.mem_append_right _ (List.mem_append_right _ (List.mem_append_right _ (List.mem_append_right _ (List.mem_append_right _ (List.mem_append_right _ (List.mem_append_right _ (List.mem_append_right _ (List.mem_append_right _ (List.mem_append_right _ (List.mem_append_right _ (List.mem_append_right _ (List.mem_append_right _ (List.mem_append_right _ (List.mem_append_right _ (List.mem_append_right _ (List.mem_append_right _ (List.mem_append_right _ (List.mem_append_right _ (List.mem_append_right _ (List.mem_append_right _ (List.mem_append_right _ (List.mem_append_right _ (List.mem_append_right _ (List.mem_append_right _ (List.mem_append_right _ (List.mem_append_right _ (List.mem_append_right _ (List.mem_append_left _ h))))))))))))))))))))))))))))))))
theorem in_wsA_33 : ∀ w ∈ wsA_33, w ∈ wsAll := fun _ h => (List.mem_append_right _ (List.mem_append_right _ (List.mem_append_right _ (List.mem_append_right _ (List.mem_append_right _ (List.mem_append_right _ (List.mem_append_right _ (List.mem_append_right _ (List.mem_append_right _ (List.mem_append_right _ (List.mem_append_right _ (List.mem_append_right _ (List.mem_append_right _ (List.mem_append_right _ (List.mem_append_right _ (List.mem_append_right _ (List.mem_append_right _ (List.mem_append_right _ (List.mem_append_right _ (List.mem_append_right _ (List.mem_append_right _ (List.mem_append_right _ (List.mem_append_right _ (List.mem_append_right _ (List.mem_append_right _ (List.mem_append_right _ (List.mem_append_right _ (List.mem_append_right _ (List.mem_append_right _ (List.mem_append_right _ (List.mem_append_right _ (List.mem_append_right _ (List.mem_append_left _ h)))))))))))))))))))))))))))))))))
theorem in_wsA_34 : ∀ w ∈ wsA_34, w ∈ wsAll := fun _ h => (List.mem_append_right _ (List.mem_append_right _ (List.mem_append_right _ (List.mem_append_right _ (List.mem_append_right _ (List.mem_append_right _ (List.mem_append_right _ (List.mem_append_right _ (List.mem_append_right _ (List.mem_append_right _ (List.mem_append_right _ (List.mem_append_right _ (List.mem_append_right _ (List.mem_append_right _ (List.mem_append_right _ (List.mem_append_right _ (List.mem_append_right _ (List.mem_append_right _ (List.mem_append_right _ (List.mem_append_right _ (List.mem_append_right _ (List.mem_append_right _ (List.mem_append_right _ (List.mem_append_right _ (List.mem_append_right _ (List.mem_append_right _ (List.mem_append_right _ (List.mem_append_right _ (List.mem_append_right _ (List.mem_append_right _ (List.mem_append_right _ (List.mem_append_right _ (List.mem_append_right _ (List.mem_append_left _ h))))))))))))))))))))))))))))))))))
theorem in_wsA_35 : ∀ w ∈ wsA_35, w ∈ wsAll := fun _ h => (List.mem_append_right _ (List.mem_append_right _ (List.mem_append_right _ (List.mem_append_right _ (List.mem_append_right _ (List.mem_append_right _ (List.mem_append_right _ (List.mem_append_right _ (List.mem_append_right _ (List.mem_append_right _ (List.mem_append_right _ (List.mem_append_right _ (List.mem_append_right _ (List.mem_append_right _ (List.mem_append_right _ (List.mem_append_right _ (List.mem_append_right _ (List.mem_append_right _ (List.mem_append_right _ (List.mem_append_right _ (List.mem_append_right _ (List.mem_append_right _ (List.mem_append_right _ (List.mem_append_right _ (List.mem_append_right _ (List.mem_append_right _ (List.mem_append_right _ (List.mem_append_right _ (List.mem_append_right _ (List.mem_append_right _ (List.mem_append_right _ (List.mem_append_right _ (List.mem_append_right _ (List.mem_append_right _ (List.mem_append_left _ h)))))))))))))))))))))))))))))))))))
theorem in_wsA_36 : ∀ w ∈ wsA_36, w ∈ wsAll := fun _ h => (List.mem_append_right _ (List.mem_append_right _ (List.mem_append_right _ (List.mem_append_right _ (List.mem_append_right _ (List.mem_append_right _ (List.mem_append_right _ (List.mem_append_right _ (List.mem_append_right _ (List.mem_append_right _ (List.mem_append_right _ (List.mem_append_right _ (List.mem_append_right _ (List.mem_append_right _ (List.mem_append_right _ (List.mem_append_right _ (List.mem_append_right _ (List.mem_append_right _ (List.mem_append_right _ (List.mem_append_right _ (List.mem_append_right _ (List.mem_append_right _ (List.mem_append_right _ (List.mem_append_right _ (List.mem_append_right _ (List.mem_append_right _ (List.mem_append_right _ (List.mem_append_right _ (List.mem_append_right _ (List.mem_append_right _ (List.mem_append_right _ (List.mem_append_right _ (List.mem_append_right _ (List.mem_append_right _ (List.mem_append_right _ (List.mem_append_left _ h))))))))))))))))))))))))))))))))))))
theorem in_wsA_37 : ∀ w ∈ wsA_37, w ∈ wsAll := fun _ h => (List.mem_append_right _ (List.mem_append_right _ (List.mem_append_right _ (List.mem_append_right _ (List.mem_append_right _ (List.mem_append_right _ (List.mem_append_right _ (List.mem_append_right _ (List.mem_append_right _ (List.mem_append_right _ (List.mem_append_right _ (List.mem_append_right _ (List.mem_append_right _ (List.mem_append_right _ (List.mem_append_right _ (List.mem_append_right _ (List.mem_append_right _ (List.mem_append_right _ (List.mem_append_right _ (List.mem_append_right _ (List.mem_append_right _ (List.mem_append_right _ (List.mem_append_right _ (List.mem_append_right _ (List.mem_append_right _ (List.mem_append_right _ (List.mem_append_right _ (List.mem_append_right _ (List.mem_append_right _ (List.mem_append_right _ (List.mem_append_right _ (List.mem_append_right _ (List.mem_append_right _ (List.mem_append_right _ (List.mem_append_right _ (List.mem_append_right _ (List.mem_append_left _ h)))))))))))))))))))))))))))))))))))))
theorem in_wsA_38 : ∀ w ∈ wsA_38, w ∈ wsAll := fun _ h => (List.mem_append_right _ (List.mem_append_right _ (List.mem_append_right _ (List.mem_append_right _ (List.mem_append_right _ (List.mem_append_right _ (List.mem_append_right _ (List.mem_append_right _ (List.mem_append_right _ (List.mem_append_right _ (List.mem_append_right _ (List.mem_append_right _ (List.mem_append_right _ (List.mem_append_right _ (List.mem_append_right _ (List.mem_append_right _ (List.mem_append_right _ (List.mem_append_right _ (List.mem_append_right _ (List.mem_append_right _ (List.mem_append_right _ (List.mem_append_right _ (List.mem_append_right _ (List.mem_append_right _ (List.mem_append_right _ (List.mem_append_right _ (List.mem_append_right _ (List.mem_append_right _ (List.mem_append_right _ (List.mem_append_right _ (List.mem_append_right _ (List.mem_append_right _ (List.mem_append_right _ (List.mem_append_right _ (List.mem_append_right _ (List.mem_append_right _ (List.mem_append_right _ (List.mem_append_left _ h))))))))))))))))))))))))))))))))))))))
theorem in_wsA_39 : ∀ w ∈ wsA_39, w ∈ wsAll := fun _ h => (List.mem_append_right _ (List.mem_append_right _ (List.mem_append_right _ (List.mem_append_right _ (List.mem_append_right _ (List.mem_append_right _ (List.mem_append_right _ (List.mem_append_right _ (List.mem_append_right _ (List.mem_append_right _ (List.mem_append_right _ (List.mem_append_right _ (List.mem_append_right _ (List.mem_append_right _ (List.mem_append_right _ (List.mem_append_right _ (List.mem_append_right _ (List.mem_append_right _ (List.mem_append_right _ (List.mem_append_right _ (List.mem_append_right _ (List.mem_append_right _ (List.mem_append_right _ (List.mem_append_right _ (List.mem_append_right _ (List.mem_append_right _ (List.mem_append_right _ (List.mem_append_right _ (List.mem_append_right _ (List.mem_append_right _ (List.mem_append_right _ (List.mem_append_right _ (List.mem_append_right _ (List.mem_append_right _ (List.mem_append_right _ (List.mem_append_right _ (List.mem_append_right _ (List.mem_append_right _ (List.mem_append_left _ h)))))))))))))))))))))))))))))))))))))))
theorem in_wsA_40 : ∀ w ∈ wsA_40, w ∈ wsAll := fun _ h => (List.mem_append_right _ (List.mem_append_right _ (List.mem_append_right _ (List.mem_append_right _ (List.mem_append_right _ (List.mem_append_right _ (List.mem_append_right _ (List.mem_append_right _ (List.mem_append_right _ (List.mem_append_right _ (List.mem_append_right _ (List.mem_append_right _ (List.mem_append_right _ (List.mem_append_right _ (List.mem_append_right _ (List.mem_append_right _ (List.mem_append_right _ (List.mem_append_right _ (List.mem_append_right _ (List.mem_append_right _ (List.mem_append_right _ (List.mem_append_right _ (List.mem_append_right _ (List.mem_append_right _ (List.mem_append_right _ (List.mem_append_right _ (List.mem_append_right _ (List.mem_append_right _ (List.mem_append_right _ (List.mem_append_right _ (List.mem_append_right _ (List.mem_append_right _ (List.mem_append_right _ (List.mem_append_right _ (List.mem_append_right _ (List.mem_append_right _ (List.mem_append_right _ (List.mem_append_right _ (List.mem_append_right _ (List.mem_append_left _ h))))))))))))))))))))))))))))))))))))))))
theorem in_wsA_41 : ∀ w ∈ wsA_41, w ∈ wsAll := fun _ h => (List.mem_append_right _ (List.mem_append_right _ (List.mem_append_right _ (List.mem_append_right _ (List.mem_append_right _ (List.mem_append_right _ (List.mem_append_right _ (List.mem_append_right _ (List.mem_append_right _ (List.mem_append_right _ (List.mem_append_right _ (List.mem_append_right _ (List.mem_append_right _ (List.mem_append_right _ (List.mem_append_right _ (List.mem_append_right _ (List.mem_append_right _ (List.mem_append_right _ (List.mem_append_right _ (List.mem_append_right _ (List.mem_append_right _ (List.mem_append_right _ (List.mem_append_right _ (List.mem_append_right _ (List.mem_append_right _ (List.mem_append_right _ (List.mem_append_right _ (List.mem_append_right _ (List.mem_append_right _ (List.mem_append_right _ (List.mem_append_right _ (List.mem_append_right _ (List.mem_append_right _ (List.mem_append_right _ (List.mem_append_right _ (List.mem_append_right _ (List.mem_append_right _ (List.mem_append_right _ (List.mem_append_right _ (List.mem_append_right _ (List.mem_append_left _ h)))))))))))))))))))))))))))))))))))))))))
theorem in_wsX00 : ∀ w ∈ wsX00, w ∈ wsAll := fun _ h => (List.mem_append_right _ (List.mem_append_right _ (List.mem_append_right _ (List.mem_append_right _ (List.mem_append_right _ (List.mem_append_right _ (List.mem_append_right _ (List.mem_append_right _ (List.mem_append_right _ (List.mem_append_right _ (List.mem_append_right _ (List.mem_append_right _ (List.mem_append_right _ (List.mem_append_right _ (List.mem_append_right _ (List.mem_append_right _ (List.mem_append_right _ (List.mem_append_right _ (List.mem_append_right _ (List.mem_append_right _ (List.mem_append_right _ (List.mem_append_right _ (List.mem_append_right _ (List.mem_append_right _ (List.mem_append_right _ (List.mem_append_right _ (List.mem_append_right _ (List.mem_append_right _ (List.mem_append_right _ (List.mem_append_right _ (List.mem_append_right _ (List.mem_append_right _ (List.mem_append_right _ (List.mem_append_right _ (List.mem_append_right _ (List.mem_append_right _ (List.mem_append_right _ (List.mem_append_right _ (List.mem_append_right _ (List.mem_append_right _ (List.mem_append_right _ (List.mem_append_left _ h))))))))))))))))))))))))))))))))))))))))))
theorem in_wsX10 : ∀ w ∈ wsX10, w ∈ wsAll := fun _ h => (List.mem_append_right _ (List.mem_append_right _ (List.mem_append_right _ (List.mem_append_right _ (List.mem_append_right _ (List.mem_append_right _ (List.mem_append_right _ (List.mem_append_right _ (List.mem_append_right _ (List.mem_append_right _ (List.mem_append_right _ (List.mem_append_right _ (List.mem_append_right _ (List.mem_append_right _ (List.mem_append_right _ (List.mem_append_right _ (List.mem_append_right _ (List.mem_append_right _ (List.mem_append_right _ (List.mem_append_right _ (List.mem_append_right _ (List.mem_append_right _ (List.mem_append_right _ (List.mem_append_right _ (List.mem_append_right _ (List.mem_append_right _ (List.mem_append_right _ (List.mem_append_right _ (List.mem_append_right _ (List.mem_append_right _ (List.mem_append_right _ (List.mem_append_right _ (List.mem_append_right _ (List.mem_append_right _ (List.mem_append_right _ (List.mem_append_right _ (List.mem_append_right _ (List.mem_append_right _ (List.mem_append_right _ (List.mem_append_right _ (List.mem_append_right _ (List.mem_append_right _ (List.mem_append_left _ h)))))))))))))))))))))))))))))))))))))))))))
theorem in_wsX20 : ∀ w ∈ wsX20, w ∈ wsAll := fun _ h => (List.mem_append_right _ (List.mem_append_right _ (List.mem_append_right _ (List.mem_append_right _ (List.mem_append_right _ (List.mem_append_right _ (List.mem_append_right _ (List.mem_append_right _ (List.mem_append_right _ (List.mem_append_right _ (List.mem_append_right _ (List.mem_append_right _ (List.mem_append_right _ (List.mem_append_right _ (List.mem_append_right _ (List.mem_append_right _ (List.mem_append_right _ (List.mem_append_right _ (List.mem_append_right _ (List.mem_append_right _ (List.mem_append_right _ (List.mem_append_right _ (List.mem_append_right _ (List.mem_append_right _ (List.mem_append_right _ (List.mem_append_right _ (List.mem_append_right _ (List.mem_append_right _ (List.mem_append_right _ (List.mem_append_right _ (List.mem_append_right _ (List.mem_append_right _ (List.mem_append_right _ (List.mem_append_right _ (List.mem_append_right _ (List.mem_append_right _ (List.mem_append_right _ (List.mem_append_right _ (List.mem_append_right _ (List.mem_append_right _ (List.mem_append_right _ (List.mem_append_right _ (List.mem_append_right _ (List.mem_append_left _ h))))))))))))))))))))))))))))))))))))))))))))
theorem in_wsX30 : ∀ w ∈ wsX30, w ∈ wsAll := fun _ h => (List.mem_append_right _ (List.mem_append_right _ (List.mem_append_right _ (List.mem_append_right _ (List.mem_append_right _ (List.mem_append_right _ (List.mem_append_right _ (List.mem_append_right _ (List.mem_append_right _ (List.mem_append_right _ (List.mem_append_right _ (List.mem_append_right _ (List.mem_append_right _ (List.mem_append_right _ (List.mem_append_right _ (List.mem_append_right _ (List.mem_append_right _ (List.mem_append_right _ (List.mem_append_right _ (List.mem_append_right _ (List.mem_append_right _ (List.mem_append_right _ (List.mem_append_right _ (List.mem_append_right _ (List.mem_append_right _ (List.mem_append_right _ (List.mem_append_right _ (List.mem_append_right _ (List.mem_append_right _ (List.mem_append_right _ (List.mem_append_right _ (List.mem_append_right _ (List.mem_append_right _ (List.mem_append_right _ (List.mem_append_right _ (List.mem_append_right _ (List.mem_append_right _ (List.mem_append_right _ (List.mem_append_right _ (List.mem_append_right _ (List.mem_append_right _ (List.mem_append_right _ (List.mem_append_right _ (List.mem_append_right _ (List.mem_append_left _ h)))))))))))))))))))))))))))))))))))))))))))))
theorem in_wsX40 : ∀ w ∈ wsX40, w ∈ wsAll := fun _ h => (List.mem_append_right _ (List.mem_append_right _ (List.mem_append_right _ (List.mem_append_right _ (List.mem_append_right _ (List.mem_append_right _ (List.mem_append_right _ (List.mem_append_right _ (List.mem_append_right _ (List.mem_append_right _ (List.mem_append_right _ (List.mem_append_right _ (List.mem_append_right _ (List.mem_append_right _ (List.mem_append_right _ (List.mem_append_right _ (List.mem_append_right _ (List.mem_append_right _ (List.mem_append_right _ (List.mem_append_right _ (List.mem_append_right _ (List.mem_append_right _ (List.mem_append_right _ (List.mem_append_right _ (List.mem_append_right _ (List.mem_append_right _ (List.mem_append_right _ (List.mem_append_right _ (List.mem_append_right _ (List.mem_append_right _ (List.mem_append_right _ (List.mem_append_right _ (List.mem_append_right _ (List.mem_append_right _ (List.mem_append_right _ (List.mem_append_right _ (List.mem_append_right _ (List.mem_append_right _ (List.mem_append_right _ (List.mem_append_right _ (List.mem_append_right _ (List.mem_append_right _ (List.mem_append_right _ (List.mem_append_right _ (List.mem_append_right _ (List.mem_append_left _ h))))))))))))))))))))))))))))))))))))))))))))))
theorem in_wsX50 : ∀ w ∈ wsX50, w ∈ wsAll := fun _ h => (List.mem_append_right _ (List.mem_append_right _ (List.mem_append_right _ (List.mem_append_right _ (List.mem_append_right _ (List.mem_append_right _ (List.mem_append_right _ (List.mem_append_right _ (List.mem_append_right _ (List.mem_append_right _ (List.mem_append_right _ (List.mem_append_right _ (List.mem_append_right _ (List.mem_append_right _ (List.mem_append_right _ (List.mem_append_right _ (List.mem_append_right _ (List.mem_append_right _ (List.mem_append_right _ (List.mem_append_right _ (List.mem_append_right _ (List.mem_append_right _ (List.mem_append_right _ (List.mem_append_right _ (List.mem_append_right _ (List.mem_append_right _ (List.mem_append_right _ (List.mem_append_right _ (List.mem_append_right _ (List.mem_append_right _ (List.mem_append_right _ (List.mem_append_right _ (List.mem_append_right _ (List.mem_append_right _ (List.mem_append_right _ (List.mem_append_right _ (List.mem_append_right _ (List.mem_append_right _ (List.mem_append_right _ (List.mem_append_right _ (List.mem_append_right _ (List.mem_append_right _ (List.mem_append_right _ (List.mem_append_right _ (List.mem_append_right _ (List.mem_append_right _ (List.mem_append_left _ h)))))))))))))))))))))))))))))))))))))))))))))))
theorem in_wsX60 : ∀ w ∈ wsX60, w ∈ wsAll := fun _ h => (List.mem_append_right _ (List.mem_append_right _ (List.mem_append_right _ (List.mem_append_right _ (List.mem_append_right _ (List.mem_append_right _ (List.mem_append_right _ (List.mem_append_right _ (List.mem_append_right _ (List.mem_append_right _ (List.mem_append_right _ (List.mem_append_right _ (List.mem_append_right _ (List.mem_append_right _ (List.mem_append_right _ (List.mem_append_right _ (List.mem_append_right _ (List.mem_append_right _ (List.mem_append_right _ (List.mem_append_right _ (List.mem_append_right _ (List.mem_append_right _ (List.mem_append_right _ (List.mem_append_right _ (List.mem_append_right _ (List.mem_append_right _ (List.mem_append_right _ (List.mem_append_right _ (List.mem_append_right _ (List.mem_append_right _ (List.mem_append_right _ (List.mem_append_right _ (List.mem_append_right _ (List.mem_append_right _ (List.mem_append_right _ (List.mem_append_right _ (List.mem_append_right _ (List.mem_append_right _ (List.mem_append_right _ (List.mem_append_right _ (List.mem_append_right _ (List.mem_append_right _ (List.mem_append_right _ (List.mem_append_right _ (List.mem_append_right _ (List.mem_append_right _ (List.mem_append_right _ (List.mem_append_left _ h))))))))))))))))))))))))))))))))))))))))))))))))
theorem in_wsX70 : ∀ w ∈ wsX70, w ∈ wsAll := fun _ h => (List.mem_append_right _ (List.mem_append_right _ (List.mem_append_right _ (List.mem_append_right _ (List.mem_append_right _ (List.mem_append_right _ (List.mem_append_right _ (List.mem_append_right _ (List.mem_append_right _ (List.mem_append_right _ (List.mem_append_right _ (List.mem_append_right _ (List.mem_append_right _ (List.mem_append_right _ (List.mem_append_right _ (List.mem_append_right _ (List.mem_append_right _ (List.mem_append_right _ (List.mem_append_right _ (List.mem_append_right _ (List.mem_append_right _ (List.mem_append_right _ (List.mem_append_right _ (List.mem_append_right _ (List.mem_append_right _ (List.mem_append_right _ (List.mem_append_right _ (List.mem_append_right _ (List.mem_append_right _ (List.mem_append_right _ (List.mem_append_right _ (List.mem_append_right _ (List.mem_append_right _ (List.mem_append_right _ (List.mem_append_right _ (List.mem_append_right _ (List.mem_append_right _ (List.mem_append_right _ (List.mem_append_right _ (List.mem_append_right _ (List.mem_append_right _ (List.mem_append_right _ (List.mem_append_right _ (List.mem_append_right _ (List.mem_append_right _ (List.mem_append_right _ (List.mem_append_right _ (List.mem_append_right _ (List.mem_append_left _ h)))))))))))))))))))))))))))))))))))))))))))))))))
theorem in_wsX80 : ∀ w ∈ wsX80, w ∈ wsAll := fun _ h => (List.mem_append_right _ (List.mem_append_right _ (List.mem_append_right _ (List.mem_append_right _ (List.mem_append_right _ (List.mem_append_right _ (List.mem_append_right _ (List.mem_append_right _ (List.mem_append_right _ (List.mem_append_right _ (List.mem_append_right _ (List.mem_append_right _ (List.mem_append_right _ (List.mem_append_right _ (List.mem_append_right _ (List.mem_append_right _ (List.mem_append_right _ (List.mem_append_right _ (List.mem_append_right _ (List.mem_append_right _ (List.mem_append_right _ (List.mem_append_right _ (List.mem_append_right _ (List.mem_append_right _ (List.mem_append_right _ (List.mem_append_right _ (List.mem_append_right _ (List.mem_append_right _ (List.mem_append_right _ (List.mem_append_right _ (List.mem_append_right _ (List.mem_append_right _ (List.mem_append_right _ (List.mem_append_right _ (List.mem_append_right _ (List.mem_append_right _ (List.mem_append_right _ (List.mem_append_right _ (List.mem_append_right _ (List.mem_append_right _ (List.mem_append_right _ (List.mem_append_right _ (List.mem_append_right _ (List.mem_append_right _ (List.mem_append_right _ (List.mem_append_right _ (List.mem_append_right _ (List.mem_append_right _ (List.mem_append_right _ (List.mem_append_left _ h))))))))))))))))))))))))))))))))))))))))))))))))))
theorem in_wsX90 : ∀ w ∈ wsX90, w ∈ wsAll := fun _ h => (List.mem_append_right _ (List.mem_append_right _ (List.mem_append_right _ (List.mem_append_right _ (List.mem_append_right _ (List.mem_append_right _ (List.mem_append_right _ (List.mem_append_right _ (List.mem_append_right _ (List.mem_append_right _ (List.mem_append_right _ (List.mem_append_right _ (List.mem_append_right _ (List.mem_append_right _ (List.mem_append_right _ (List.mem_append_right _ (List.mem_append_right _ (List.mem_append_right _ (List.mem_append_right _ (List.mem_append_right _ (List.mem_append_right _ (List.mem_append_right _ (List.mem_append_right _ (List.mem_append_right _ (List.mem_append_right _ (List.mem_append_right _ (List.mem_append_right _ (List.mem_append_right _ (List.mem_append_right _ (List.mem_append_right _ (List.mem_append_right _ (List.mem_append_right _ (List.mem_append_right _ (List.mem_append_right _ (List.mem_append_right _ (List.mem_append_right _ (List.mem_append_right _ (List.mem_append_right _ (List.mem_append_right _ (List.mem_append_right _ (List.mem_append_right _ (List.mem_append_right _ (List.mem_append_right _ (List.mem_append_right _ (List.mem_append_right _ (List.mem_append_right _ (List.mem_append_right _ (List.mem_append_right _ (List.mem_append_right _ (List.mem_append_right _ (List.mem_append_left _ h)))))))))))))))))))))))))))))))))))))))))))))))))))
theorem in_wsX100 : ∀ w ∈ wsX100, w ∈ wsAll := fun _ h => (List.mem_append_right _ (List.mem_append_right _ (List.mem_append_right _ (List.mem_append_right _ (List.mem_append_right _ (List.mem_append_right _ (List.mem_append_right _ (List.mem_append_right _ (List.mem_append_right _ (List.mem_append_right _ (List.mem_append_right _ (List.mem_append_right _ (List.mem_append_right _ (List.mem_append_right _ (List.mem_append_right _ (List.mem_append_right _ (List.mem_append_right _ (List.mem_append_right _ (List.mem_append_right _ (List.mem_append_right _ (List.mem_append_right _ (List.mem_append_right _ (List.mem_append_right _ (List.mem_append_right _ (List.mem_append_right _ (List.mem_append_right _ (List.mem_append_right _ (List.mem_append_right _ (List.mem_append_right _ (List.mem_append_right _ (List.mem_append_right _ (List.mem_append_right _ (List.mem_append_right _ (List.mem_append_right _ (List.mem_append_right _ (List.mem_append_right _ (List.mem_append_right _ (List.mem_append_right _ (List.mem_append_right _ (List.mem_append_right _ (List.mem_append_right _ (List.mem_append_right _ (List.mem_append_right _ (List.mem_append_right _ (List.mem_append_right _ (List.mem_append_right _ (List.mem_append_right _ (List.mem_append_right _ (List.mem_append_right _ (List.mem_append_right _ (List.mem_append_right _ h)))))))))))))))))))))))))))))))))))))))))))))))))))
theorem q_0 : Cond.classLink RL 7 RX9 ∈ wsAll := in_wsA_1 _ (List.mem_of_getElem? (i := 0) rfl)
theorem q_1 : Cond.instantiable RX9 10 ∈ wsAll := in_wsA_1 _ (List.mem_of_getElem? (i := 1) rfl)
theorem q_2 : Cond.initialized RX9 ∈ wsAll := in_wsA_1 _ (List.mem_of_getElem? (i := 2) rfl)
theorem q_3 : Cond.classLink RL 10 RX10 ∈ wsAll := in_wsA_1 _ (List.mem_of_getElem? (i := 3) rfl)
theorem q_4 : Cond.instantiable RX10 23 ∈ wsAll := in_wsA_1 _ (List.mem_of_getElem? (i := 4) rfl)
theorem q_5 : Cond.initialized RX10 ∈ wsAll := in_wsA_1 _ (List.mem_of_getElem? (i := 5) rfl)
theorem q_6 : Cond.methodLink RL 9 yX9_init ∈ wsAll := in_wsA_1 _ (List.mem_of_getElem? (i := 6) rfl)
theorem q_7 : Cond.instanceMethod yX9_init ∈ wsAll := in_wsA_1 _ (List.mem_of_getElem? (i := 7) rfl)
theorem q_8 : Cond.code yX9_init cX9_init 2 none ∈ wsAll := in_wsA_1 _ (List.mem_of_getElem? (i := 8) rfl)
theorem q_9 : Cond.methodLink RX9 1 objectInit ∈ wsAll := in_wsA_1 _ (List.mem_of_getElem? (i := 9) rfl)
theorem q_10 : Cond.instanceMethod objectInit ∈ wsAll := in_wsA_1 _ (List.mem_of_getElem? (i := 10) rfl)
theorem q_11 : Cond.code objectInit ⟨#[0xb1]⟩ 1 none ∈ wsAll := in_wsA_1 _ (List.mem_of_getElem? (i := 11) rfl)
theorem q_12 : Cond.classLink RX9 7 RX6 ∈ wsAll := in_wsA_1 _ (List.mem_of_getElem? (i := 12) rfl)
theorem q_13 : Cond.instantiable RX6 0 ∈ wsAll := in_wsA_1 _ (List.mem_of_getElem? (i := 13) rfl)
theorem q_14 : Cond.initialized RX6 ∈ wsAll := in_wsA_1 _ (List.mem_of_getElem? (i := 14) rfl)
theorem q_15 : Cond.classLink RX9 10 RX8 ∈ wsAll := in_wsA_1 _ (List.mem_of_getElem? (i := 15) rfl)
theorem q_16 : Cond.instantiable RX8 0 ∈ wsAll := in_wsA_1 _ (List.mem_of_getElem? (i := 16) rfl)
theorem q_17 : Cond.initialized RX8 ∈ wsAll := in_wsA_1 _ (List.mem_of_getElem? (i := 17) rfl)
theorem q_18 : Cond.classLink RX9 13 RX7 ∈ wsAll := in_wsA_1 _ (List.mem_of_getElem? (i := 18) rfl)
theorem q_19 : Cond.instantiable RX7 0 ∈ wsAll := in_wsA_1 _ (List.mem_of_getElem? (i := 19) rfl)
theorem q_20 : Cond.initialized RX7 ∈ wsAll := in_wsA_1 _ (List.mem_of_getElem? (i := 20) rfl)
theorem q_21 : Cond.classLink RX9 16 RX3 ∈ wsAll := in_wsA_1 _ (List.mem_of_getElem? (i := 21) rfl)
theorem q_22 : Cond.instantiable RX3 0 ∈ wsAll := in_wsA_1 _ (List.mem_of_getElem? (i := 22) rfl)
theorem q_23 : Cond.initialized RX3 ∈ wsAll := in_wsA_1 _ (List.mem_of_getElem? (i := 23) rfl)
theorem q_24 : Cond.classLink RX9 19 RX4 ∈ wsAll := in_wsA_2 _ (List.mem_of_getElem? (i := 0) rfl)
theorem q_25 : Cond.instantiable RX4 0 ∈ wsAll := in_wsA_2 _ (List.mem_of_getElem? (i := 1) rfl)
theorem q_26 : Cond.initialized RX4 ∈ wsAll := in_wsA_2 _ (List.mem_of_getElem? (i := 2) rfl)
theorem q_27 : Cond.classLink RX9 22 RX0 ∈ wsAll := in_wsA_2 _ (List.mem_of_getElem? (i := 3) rfl)
theorem q_28 : Cond.instantiable RX0 0 ∈ wsAll := in_wsA_2 _ (List.mem_of_getElem? (i := 4) rfl)
theorem q_29 : Cond.initialized RX0 ∈ wsAll := in_wsA_2 _ (List.mem_of_getElem? (i := 5) rfl)
theorem q_30 : Cond.classLink RX9 25 RX1 ∈ wsAll := in_wsA_2 _ (List.mem_of_getElem? (i := 6) rfl)
theorem q_31 : Cond.instantiable RX1 15 ∈ wsAll := in_wsA_2 _ (List.mem_of_getElem? (i := 7) rfl)
theorem q_32 : Cond.initialized RX1 ∈ wsAll := in_wsA_2 _ (List.mem_of_getElem? (i := 8) rfl)
theorem q_33 : Cond.fieldLink RX9 30 "PramState" "now" "LPramState$Court;" ∈ wsAll := in_wsA_2 _ (List.mem_of_getElem? (i := 9) rfl)
theorem q_34 : Cond.fieldLink RX9 36 "PramState" "images" "[LPramState$Court;" ∈ wsAll := in_wsA_2 _ (List.mem_of_getElem? (i := 10) rfl)
theorem q_35 : Cond.arrayClass .boolean ∈ wsAll := in_wsA_2 _ (List.mem_of_getElem? (i := 11) rfl)
theorem q_36 : Cond.fieldLink RX9 40 "PramState" "kept" "[Z" ∈ wsAll := in_wsA_2 _ (List.mem_of_getElem? (i := 12) rfl)
theorem q_37 : Cond.classLink RX9 44 RX2 ∈ wsAll := in_wsA_2 _ (List.mem_of_getElem? (i := 13) rfl)
theorem q_38 : Cond.instantiable RX2 7 ∈ wsAll := in_wsA_2 _ (List.mem_of_getElem? (i := 14) rfl)
theorem q_39 : Cond.initialized RX2 ∈ wsAll := in_wsA_2 _ (List.mem_of_getElem? (i := 15) rfl)
theorem q_40 : Cond.fieldLink RX9 49 "PramState" "text" "LPramState$CourtText;" ∈ wsAll := in_wsA_2 _ (List.mem_of_getElem? (i := 16) rfl)
theorem q_41 : Cond.classLink RX9 53 RX5 ∈ wsAll := in_wsA_2 _ (List.mem_of_getElem? (i := 17) rfl)
theorem q_42 : Cond.instantiable RX5 4 ∈ wsAll := in_wsA_2 _ (List.mem_of_getElem? (i := 18) rfl)
theorem q_43 : Cond.initialized RX5 ∈ wsAll := in_wsA_2 _ (List.mem_of_getElem? (i := 19) rfl)
theorem q_44 : Cond.fieldLink RX9 56 "PramState" "plan" "LPramState$NursePlan;" ∈ wsAll := in_wsA_2 _ (List.mem_of_getElem? (i := 20) rfl)
theorem q_45 : Cond.fieldLink RX9 60 "PramState" "above" "J" ∈ wsAll := in_wsA_2 _ (List.mem_of_getElem? (i := 21) rfl)
theorem q_46 : Cond.fieldLink RX9 64 "PramState" "below" "J" ∈ wsAll := in_wsA_2 _ (List.mem_of_getElem? (i := 22) rfl)
theorem q_47 : Cond.instanceMethod yX6_init ∈ wsAll := in_wsA_2 _ (List.mem_of_getElem? (i := 23) rfl)
theorem q_48 : Cond.code yX6_init cX6_init 1 none ∈ wsAll := in_wsA_3 _ (List.mem_of_getElem? (i := 0) rfl)
theorem q_49 : Cond.methodLink RX6 1 objectInit ∈ wsAll := in_wsA_3 _ (List.mem_of_getElem? (i := 1) rfl)
theorem q_50 : Cond.instanceMethod yX8_init ∈ wsAll := in_wsA_3 _ (List.mem_of_getElem? (i := 2) rfl)
theorem q_51 : Cond.code yX8_init cX8_init 1 none ∈ wsAll := in_wsA_3 _ (List.mem_of_getElem? (i := 3) rfl)
theorem q_52 : Cond.instanceMethod yX7_init ∈ wsAll := in_wsA_3 _ (List.mem_of_getElem? (i := 4) rfl)
theorem q_53 : Cond.code yX7_init cX7_init 1 none ∈ wsAll := in_wsA_3 _ (List.mem_of_getElem? (i := 5) rfl)
theorem q_54 : Cond.instanceMethod yX3_init ∈ wsAll := in_wsA_3 _ (List.mem_of_getElem? (i := 6) rfl)
theorem q_55 : Cond.code yX3_init cX3_init 1 none ∈ wsAll := in_wsA_3 _ (List.mem_of_getElem? (i := 7) rfl)
theorem q_56 : Cond.instanceMethod yX4_init ∈ wsAll := in_wsA_3 _ (List.mem_of_getElem? (i := 8) rfl)
theorem q_57 : Cond.code yX4_init cX4_init 1 none ∈ wsAll := in_wsA_3 _ (List.mem_of_getElem? (i := 9) rfl)
theorem q_58 : Cond.instanceMethod yX0_init ∈ wsAll := in_wsA_3 _ (List.mem_of_getElem? (i := 10) rfl)
theorem q_59 : Cond.code yX0_init cX0_init 1 none ∈ wsAll := in_wsA_3 _ (List.mem_of_getElem? (i := 11) rfl)
theorem q_60 : Cond.methodLink RX9 27 yX1_init ∈ wsAll := in_wsA_3 _ (List.mem_of_getElem? (i := 12) rfl)
theorem q_61 : Cond.instanceMethod yX1_init ∈ wsAll := in_wsA_3 _ (List.mem_of_getElem? (i := 13) rfl)
theorem q_62 : Cond.code yX1_init cX1_init 2 none ∈ wsAll := in_wsA_3 _ (List.mem_of_getElem? (i := 14) rfl)
theorem q_63 : Cond.methodLink RX1 3 objectInit ∈ wsAll := in_wsA_3 _ (List.mem_of_getElem? (i := 15) rfl)
theorem q_64 : Cond.arrayClass .int ∈ wsAll := in_wsA_3 _ (List.mem_of_getElem? (i := 16) rfl)
theorem q_65 : Cond.fieldLink RX1 9 "PramState$Court" "kind" "[I" ∈ wsAll := in_wsA_3 _ (List.mem_of_getElem? (i := 17) rfl)
theorem q_66 : Cond.fieldLink RX1 15 "PramState$Court" "months" "[I" ∈ wsAll := in_wsA_3 _ (List.mem_of_getElem? (i := 18) rfl)
theorem q_67 : Cond.fieldLink RX1 18 "PramState$Court" "home" "[I" ∈ wsAll := in_wsA_3 _ (List.mem_of_getElem? (i := 19) rfl)
theorem q_68 : Cond.fieldLink RX1 21 "PramState$Court" "nurse" "[I" ∈ wsAll := in_wsA_3 _ (List.mem_of_getElem? (i := 20) rfl)
theorem q_69 : Cond.fieldLink RX1 24 "PramState$Court" "skills" "[I" ∈ wsAll := in_wsA_3 _ (List.mem_of_getElem? (i := 21) rfl)
theorem q_70 : Cond.fieldLink RX1 27 "PramState$Court" "noteRow" "[I" ∈ wsAll := in_wsA_3 _ (List.mem_of_getElem? (i := 22) rfl)
theorem q_71 : Cond.fieldLink RX1 30 "PramState$Court" "soundRow" "[I" ∈ wsAll := in_wsA_3 _ (List.mem_of_getElem? (i := 23) rfl)
theorem q_72 : Cond.fieldLink RX1 33 "PramState$Court" "pastRow" "[I" ∈ wsAll := in_wsA_4 _ (List.mem_of_getElem? (i := 0) rfl)
theorem q_73 : Cond.fieldLink RX1 36 "PramState$Court" "kinds" "[LPramState$Plain;" ∈ wsAll := in_wsA_4 _ (List.mem_of_getElem? (i := 1) rfl)
theorem q_74 : Cond.methodLink RX9 46 yX2_init ∈ wsAll := in_wsA_4 _ (List.mem_of_getElem? (i := 2) rfl)
theorem q_75 : Cond.instanceMethod yX2_init ∈ wsAll := in_wsA_4 _ (List.mem_of_getElem? (i := 3) rfl)
theorem q_76 : Cond.code yX2_init cX2_init 2 none ∈ wsAll := in_wsA_4 _ (List.mem_of_getElem? (i := 4) rfl)
theorem q_77 : Cond.methodLink RX2 3 objectInit ∈ wsAll := in_wsA_4 _ (List.mem_of_getElem? (i := 5) rfl)
theorem q_78 : Cond.arrayClass .byte ∈ wsAll := in_wsA_4 _ (List.mem_of_getElem? (i := 6) rfl)
theorem q_79 : Cond.fieldLink RX2 9 "PramState$CourtText" "bytes" "[B" ∈ wsAll := in_wsA_4 _ (List.mem_of_getElem? (i := 7) rfl)
theorem q_80 : Cond.fieldLink RX2 15 "PramState$CourtText" "draft" "LPramState$Court;" ∈ wsAll := in_wsA_4 _ (List.mem_of_getElem? (i := 8) rfl)
theorem q_81 : Cond.instanceMethod yX5_init ∈ wsAll := in_wsA_4 _ (List.mem_of_getElem? (i := 9) rfl)
theorem q_82 : Cond.code yX5_init cX5_init 1 none ∈ wsAll := in_wsA_4 _ (List.mem_of_getElem? (i := 10) rfl)
theorem q_83 : Cond.methodLink RX5 3 objectInit ∈ wsAll := in_wsA_4 _ (List.mem_of_getElem? (i := 11) rfl)
theorem q_84 : Cond.fieldLink RX5 9 "PramState$NursePlan" "dues" "[I" ∈ wsAll := in_wsA_4 _ (List.mem_of_getElem? (i := 12) rfl)
theorem q_85 : Cond.fieldLink RX5 15 "PramState$NursePlan" "cost" "[I" ∈ wsAll := in_wsA_4 _ (List.mem_of_getElem? (i := 13) rfl)
theorem q_86 : Cond.fieldLink RX5 18 "PramState$NursePlan" "rest" "[I" ∈ wsAll := in_wsA_4 _ (List.mem_of_getElem? (i := 14) rfl)
theorem q_87 : Cond.methodLink RL 12 yX10_init ∈ wsAll := in_wsA_4 _ (List.mem_of_getElem? (i := 15) rfl)
theorem q_88 : Cond.instanceMethod yX10_init ∈ wsAll := in_wsA_4 _ (List.mem_of_getElem? (i := 16) rfl)
theorem q_89 : Cond.code yX10_init cX10_init 1 none ∈ wsAll := in_wsA_4 _ (List.mem_of_getElem? (i := 17) rfl)
theorem q_90 : Cond.methodLink RX10 1 objectInit ∈ wsAll := in_wsA_4 _ (List.mem_of_getElem? (i := 18) rfl)
theorem q_91 : Cond.fieldLink RX10 7 "PramStateModel" "told" "[I" ∈ wsAll := in_wsA_4 _ (List.mem_of_getElem? (i := 19) rfl)
theorem q_92 : Cond.fieldLink RX10 13 "PramStateModel" "kept" "[I" ∈ wsAll := in_wsA_4 _ (List.mem_of_getElem? (i := 20) rfl)
theorem q_93 : Cond.fieldLink RX10 16 "PramStateModel" "isKept" "[Z" ∈ wsAll := in_wsA_4 _ (List.mem_of_getElem? (i := 21) rfl)
theorem q_94 : Cond.fieldLink RX10 20 "PramStateModel" "refused" "[I" ∈ wsAll := in_wsA_4 _ (List.mem_of_getElem? (i := 22) rfl)
theorem q_95 : Cond.fieldLink RX10 23 "PramStateModel" "below" "J" ∈ wsAll := in_wsA_4 _ (List.mem_of_getElem? (i := 23) rfl)
theorem q_96 : Cond.fieldLink RX10 27 "PramStateModel" "months" "[I" ∈ wsAll := in_wsA_5 _ (List.mem_of_getElem? (i := 0) rfl)
theorem q_97 : Cond.fieldLink RX10 30 "PramStateModel" "heirs" "[I" ∈ wsAll := in_wsA_5 _ (List.mem_of_getElem? (i := 1) rfl)
theorem q_98 : Cond.fieldLink RX10 33 "PramStateModel" "lasts" "[I" ∈ wsAll := in_wsA_5 _ (List.mem_of_getElem? (i := 2) rfl)
theorem q_99 : Cond.fieldLink RX10 36 "PramStateModel" "cares" "[I" ∈ wsAll := in_wsA_5 _ (List.mem_of_getElem? (i := 3) rfl)
theorem q_100 : Cond.fieldLink RX10 39 "PramStateModel" "bestCares" "[I" ∈ wsAll := in_wsA_5 _ (List.mem_of_getElem? (i := 4) rfl)
theorem q_101 : Cond.fieldLink RX10 42 "PramStateModel" "ones" "[I" ∈ wsAll := in_wsA_5 _ (List.mem_of_getElem? (i := 5) rfl)
theorem q_102 : Cond.fieldLink RX10 45 "PramStateModel" "others" "[I" ∈ wsAll := in_wsA_5 _ (List.mem_of_getElem? (i := 6) rfl)
theorem q_103 : Cond.fieldLink RX10 48 "PramStateModel" "bytes" "[I" ∈ wsAll := in_wsA_5 _ (List.mem_of_getElem? (i := 7) rfl)
theorem q_104 : Cond.fieldLink RX10 51 "PramStateModel" "anew" "[I" ∈ wsAll := in_wsA_5 _ (List.mem_of_getElem? (i := 8) rfl)
theorem q_105 : Cond.fieldLink RX10 54 "PramStateModel" "values" "[I" ∈ wsAll := in_wsA_5 _ (List.mem_of_getElem? (i := 9) rfl)
theorem q_106 : Cond.methodLink RX10 57 yX10_begin ∈ wsAll := in_wsA_5 _ (List.mem_of_getElem? (i := 10) rfl)
theorem q_107 : Cond.static yX10_begin ∈ wsAll := in_wsA_5 _ (List.mem_of_getElem? (i := 11) rfl)
theorem q_108 : Cond.code yX10_begin cX10_begin 2 none ∈ wsAll := in_wsA_5 _ (List.mem_of_getElem? (i := 12) rfl)
theorem q_109 : Cond.methodLink RL 13 yX9_court ∈ wsAll := in_wsA_5 _ (List.mem_of_getElem? (i := 13) rfl)
theorem q_110 : Cond.instanceMethod yX9_court ∈ wsAll := in_wsA_5 _ (List.mem_of_getElem? (i := 14) rfl)
theorem q_111 : Cond.selects RX9 yX9_court yX9_court ∈ wsAll := in_wsA_5 _ (List.mem_of_getElem? (i := 15) rfl)
theorem q_112 : Cond.code yX9_court cX9_court 2 (some .int) ∈ wsAll := in_wsA_5 _ (List.mem_of_getElem? (i := 16) rfl)
theorem q_113 : Cond.fieldLink RX9 67 "PramState$Court" "infants" "I" ∈ wsAll := in_wsA_5 _ (List.mem_of_getElem? (i := 17) rfl)
theorem q_114 : Cond.methodLink RX9 71 yX1_begin ∈ wsAll := in_wsA_5 _ (List.mem_of_getElem? (i := 18) rfl)
theorem q_115 : Cond.instanceMethod yX1_begin ∈ wsAll := in_wsA_5 _ (List.mem_of_getElem? (i := 19) rfl)
theorem q_116 : Cond.selects RX1 yX1_begin yX1_begin ∈ wsAll := in_wsA_5 _ (List.mem_of_getElem? (i := 20) rfl)
theorem q_117 : Cond.code yX1_begin cX1_begin 1 none ∈ wsAll := in_wsA_5 _ (List.mem_of_getElem? (i := 21) rfl)
theorem q_118 : Cond.fieldLink RX1 40 "PramState$Court" "infants" "I" ∈ wsAll := in_wsA_5 _ (List.mem_of_getElem? (i := 22) rfl)
theorem q_119 : Cond.fieldLink RX1 44 "PramState$Court" "retired" "I" ∈ wsAll := in_wsA_5 _ (List.mem_of_getElem? (i := 23) rfl)
theorem q_120 : Cond.fieldLink RX1 47 "PramState$Court" "month" "I" ∈ wsAll := in_wsA_6 _ (List.mem_of_getElem? (i := 0) rfl)
theorem q_121 : Cond.fieldLink RX1 50 "PramState$Court" "notes" "I" ∈ wsAll := in_wsA_6 _ (List.mem_of_getElem? (i := 1) rfl)
theorem q_122 : Cond.fieldLink RX1 53 "PramState$Court" "sounds" "I" ∈ wsAll := in_wsA_6 _ (List.mem_of_getElem? (i := 2) rfl)
theorem q_123 : Cond.fieldLink RX1 56 "PramState$Court" "pasts" "I" ∈ wsAll := in_wsA_6 _ (List.mem_of_getElem? (i := 3) rfl)
theorem q_124 : Cond.methodLink RX1 59 yJ7_fill_53178 ∈ wsAll := in_wsA_6 _ (List.mem_of_getElem? (i := 4) rfl)
theorem q_125 : Cond.static yJ7_fill_53178 ∈ wsAll := in_wsA_6 _ (List.mem_of_getElem? (i := 5) rfl)
theorem q_126 : Cond.initialized RJ7 ∈ wsAll := in_wsA_6 _ (List.mem_of_getElem? (i := 6) rfl)
theorem q_127 : Cond.code yJ7_fill_53178 cJ7_fill_53178 4 none ∈ wsAll := in_wsA_6 _ (List.mem_of_getElem? (i := 7) rfl)
theorem q_128 : Cond.methodLink RL 17 yX10_court ∈ wsAll := in_wsA_6 _ (List.mem_of_getElem? (i := 8) rfl)
theorem q_129 : Cond.instanceMethod yX10_court ∈ wsAll := in_wsA_6 _ (List.mem_of_getElem? (i := 9) rfl)
theorem q_130 : Cond.selects RX10 yX10_court yX10_court ∈ wsAll := in_wsA_6 _ (List.mem_of_getElem? (i := 10) rfl)
theorem q_131 : Cond.code yX10_court cX10_court 2 (some .int) ∈ wsAll := in_wsA_6 _ (List.mem_of_getElem? (i := 11) rfl)
theorem q_132 : Cond.methodLink RX10 61 yX10_many ∈ wsAll := in_wsA_6 _ (List.mem_of_getElem? (i := 12) rfl)
theorem q_133 : Cond.instanceMethod yX10_many ∈ wsAll := in_wsA_6 _ (List.mem_of_getElem? (i := 13) rfl)
theorem q_134 : Cond.selects RX10 yX10_many yX10_many ∈ wsAll := in_wsA_6 _ (List.mem_of_getElem? (i := 14) rfl)
theorem q_135 : Cond.code yX10_many cX10_many 1 (some .int) ∈ wsAll := in_wsA_6 _ (List.mem_of_getElem? (i := 15) rfl)
theorem q_136 : Cond.methodLink RL 18 yX9_infant ∈ wsAll := in_wsA_6 _ (List.mem_of_getElem? (i := 16) rfl)
theorem q_137 : Cond.instanceMethod yX9_infant ∈ wsAll := in_wsA_6 _ (List.mem_of_getElem? (i := 17) rfl)
theorem q_138 : Cond.selects RX9 yX9_infant yX9_infant ∈ wsAll := in_wsA_6 _ (List.mem_of_getElem? (i := 18) rfl)
theorem q_139 : Cond.code yX9_infant cX9_infant 4 (some .int) ∈ wsAll := in_wsA_6 _ (List.mem_of_getElem? (i := 19) rfl)
theorem q_140 : Cond.methodLink RX9 74 yX9_within ∈ wsAll := in_wsA_6 _ (List.mem_of_getElem? (i := 20) rfl)
theorem q_141 : Cond.static yX9_within ∈ wsAll := in_wsA_6 _ (List.mem_of_getElem? (i := 21) rfl)
theorem q_142 : Cond.code yX9_within cX9_within 2 (some .boolean) ∈ wsAll := in_wsA_6 _ (List.mem_of_getElem? (i := 22) rfl)
theorem q_143 : Cond.methodLink RX9 78 yX9_bad ∈ wsAll := in_wsA_6 _ (List.mem_of_getElem? (i := 23) rfl)
theorem q_144 : Cond.instanceMethod yX9_bad ∈ wsAll := in_wsA_7 _ (List.mem_of_getElem? (i := 0) rfl)
theorem q_145 : Cond.selects RX9 yX9_bad yX9_bad ∈ wsAll := in_wsA_7 _ (List.mem_of_getElem? (i := 1) rfl)
theorem q_146 : Cond.code yX9_bad cX9_bad 2 (some .int) ∈ wsAll := in_wsA_7 _ (List.mem_of_getElem? (i := 2) rfl)
theorem q_147 : Cond.fieldLink RX9 235 "PramState" "badCalls" "I" ∈ wsAll := in_wsA_7 _ (List.mem_of_getElem? (i := 3) rfl)
theorem q_148 : Cond.methodLink RX9 82 yX9_full ∈ wsAll := in_wsA_7 _ (List.mem_of_getElem? (i := 4) rfl)
theorem q_149 : Cond.instanceMethod yX9_full ∈ wsAll := in_wsA_7 _ (List.mem_of_getElem? (i := 5) rfl)
theorem q_150 : Cond.selects RX9 yX9_full yX9_full ∈ wsAll := in_wsA_7 _ (List.mem_of_getElem? (i := 6) rfl)
theorem q_151 : Cond.code yX9_full cX9_full 1 (some .int) ∈ wsAll := in_wsA_7 _ (List.mem_of_getElem? (i := 7) rfl)
theorem q_152 : Cond.fieldLink RX9 241 "PramState" "fullCalls" "I" ∈ wsAll := in_wsA_7 _ (List.mem_of_getElem? (i := 8) rfl)
theorem q_153 : Cond.methodLink RX9 86 yX1_add ∈ wsAll := in_wsA_7 _ (List.mem_of_getElem? (i := 9) rfl)
theorem q_154 : Cond.instanceMethod yX1_add ∈ wsAll := in_wsA_7 _ (List.mem_of_getElem? (i := 10) rfl)
theorem q_155 : Cond.selects RX1 yX1_add yX1_add ∈ wsAll := in_wsA_7 _ (List.mem_of_getElem? (i := 11) rfl)
theorem q_156 : Cond.code yX1_add cX1_add 5 none ∈ wsAll := in_wsA_7 _ (List.mem_of_getElem? (i := 12) rfl)
theorem q_157 : Cond.methodLink RL 22 yX10_infant ∈ wsAll := in_wsA_7 _ (List.mem_of_getElem? (i := 13) rfl)
theorem q_158 : Cond.instanceMethod yX10_infant ∈ wsAll := in_wsA_7 _ (List.mem_of_getElem? (i := 14) rfl)
theorem q_159 : Cond.selects RX10 yX10_infant yX10_infant ∈ wsAll := in_wsA_7 _ (List.mem_of_getElem? (i := 15) rfl)
theorem q_160 : Cond.code yX10_infant cX10_infant 4 (some .int) ∈ wsAll := in_wsA_7 _ (List.mem_of_getElem? (i := 16) rfl)
theorem q_161 : Cond.constantLong RX10 69 (5) ∈ wsAll := in_wsA_7 _ (List.mem_of_getElem? (i := 17) rfl)
theorem q_162 : Cond.constantLong RX10 73 (35) ∈ wsAll := in_wsA_7 _ (List.mem_of_getElem? (i := 18) rfl)
theorem q_163 : Cond.methodLink RX10 65 yX10_in ∈ wsAll := in_wsA_7 _ (List.mem_of_getElem? (i := 19) rfl)
theorem q_164 : Cond.static yX10_in ∈ wsAll := in_wsA_7 _ (List.mem_of_getElem? (i := 20) rfl)
theorem q_165 : Cond.code yX10_in cX10_in 6 (some .boolean) ∈ wsAll := in_wsA_7 _ (List.mem_of_getElem? (i := 21) rfl)
theorem q_166 : Cond.methodLink RX10 75 yX10_bad ∈ wsAll := in_wsA_7 _ (List.mem_of_getElem? (i := 22) rfl)
theorem q_167 : Cond.instanceMethod yX10_bad ∈ wsAll := in_wsA_7 _ (List.mem_of_getElem? (i := 23) rfl)
theorem q_168 : Cond.selects RX10 yX10_bad yX10_bad ∈ wsAll := in_wsA_8 _ (List.mem_of_getElem? (i := 0) rfl)
theorem q_169 : Cond.code yX10_bad cX10_bad 2 (some .int) ∈ wsAll := in_wsA_8 _ (List.mem_of_getElem? (i := 1) rfl)
theorem q_170 : Cond.methodLink RX10 79 yX10_full ∈ wsAll := in_wsA_8 _ (List.mem_of_getElem? (i := 2) rfl)
theorem q_171 : Cond.instanceMethod yX10_full ∈ wsAll := in_wsA_8 _ (List.mem_of_getElem? (i := 3) rfl)
theorem q_172 : Cond.selects RX10 yX10_full yX10_full ∈ wsAll := in_wsA_8 _ (List.mem_of_getElem? (i := 4) rfl)
theorem q_173 : Cond.code yX10_full cX10_full 1 (some .int) ∈ wsAll := in_wsA_8 _ (List.mem_of_getElem? (i := 5) rfl)
theorem q_174 : Cond.methodLink RX10 82 yX10_layInfant ∈ wsAll := in_wsA_8 _ (List.mem_of_getElem? (i := 6) rfl)
theorem q_175 : Cond.static yX10_layInfant ∈ wsAll := in_wsA_8 _ (List.mem_of_getElem? (i := 7) rfl)
theorem q_176 : Cond.code yX10_layInfant cX10_layInfant 5 none ∈ wsAll := in_wsA_8 _ (List.mem_of_getElem? (i := 8) rfl)
theorem q_177 : Cond.methodLink RL 23 yX9_skill ∈ wsAll := in_wsA_8 _ (List.mem_of_getElem? (i := 9) rfl)
theorem q_178 : Cond.instanceMethod yX9_skill ∈ wsAll := in_wsA_8 _ (List.mem_of_getElem? (i := 10) rfl)
theorem q_179 : Cond.selects RX9 yX9_skill yX9_skill ∈ wsAll := in_wsA_8 _ (List.mem_of_getElem? (i := 11) rfl)
theorem q_180 : Cond.code yX9_skill cX9_skill 4 (some .int) ∈ wsAll := in_wsA_8 _ (List.mem_of_getElem? (i := 12) rfl)
theorem q_181 : Cond.fieldLink RX9 90 "PramState$Court" "skills" "[I" ∈ wsAll := in_wsA_8 _ (List.mem_of_getElem? (i := 13) rfl)
theorem q_182 : Cond.methodLink RX9 94 yX1_setSkill ∈ wsAll := in_wsA_8 _ (List.mem_of_getElem? (i := 14) rfl)
theorem q_183 : Cond.instanceMethod yX1_setSkill ∈ wsAll := in_wsA_8 _ (List.mem_of_getElem? (i := 15) rfl)
theorem q_184 : Cond.selects RX1 yX1_setSkill yX1_setSkill ∈ wsAll := in_wsA_8 _ (List.mem_of_getElem? (i := 16) rfl)
theorem q_185 : Cond.code yX1_setSkill cX1_setSkill 3 none ∈ wsAll := in_wsA_8 _ (List.mem_of_getElem? (i := 17) rfl)
theorem q_186 : Cond.methodLink RL 27 yX10_skill ∈ wsAll := in_wsA_8 _ (List.mem_of_getElem? (i := 18) rfl)
theorem q_187 : Cond.instanceMethod yX10_skill ∈ wsAll := in_wsA_8 _ (List.mem_of_getElem? (i := 19) rfl)
theorem q_188 : Cond.selects RX10 yX10_skill yX10_skill ∈ wsAll := in_wsA_8 _ (List.mem_of_getElem? (i := 20) rfl)
theorem q_189 : Cond.code yX10_skill cX10_skill 4 (some .int) ∈ wsAll := in_wsA_8 _ (List.mem_of_getElem? (i := 21) rfl)
theorem q_190 : Cond.constantLong RX10 90 (9) ∈ wsAll := in_wsA_8 _ (List.mem_of_getElem? (i := 22) rfl)
theorem q_191 : Cond.methodLink RX10 86 yX10_isNurse ∈ wsAll := in_wsA_8 _ (List.mem_of_getElem? (i := 23) rfl)
theorem q_192 : Cond.static yX10_isNurse ∈ wsAll := in_wsA_9 _ (List.mem_of_getElem? (i := 0) rfl)
theorem q_193 : Cond.code yX10_isNurse cX10_isNurse 1 (some .boolean) ∈ wsAll := in_wsA_9 _ (List.mem_of_getElem? (i := 1) rfl)
theorem q_194 : Cond.methodLink RL 28 yX9_type ∈ wsAll := in_wsA_9 _ (List.mem_of_getElem? (i := 2) rfl)
theorem q_195 : Cond.instanceMethod yX9_type ∈ wsAll := in_wsA_9 _ (List.mem_of_getElem? (i := 3) rfl)
theorem q_196 : Cond.selects RX9 yX9_type yX9_type ∈ wsAll := in_wsA_9 _ (List.mem_of_getElem? (i := 4) rfl)
theorem q_197 : Cond.code yX9_type cX9_type 2 (some .int) ∈ wsAll := in_wsA_9 _ (List.mem_of_getElem? (i := 5) rfl)
theorem q_198 : Cond.fieldLink RX9 98 "PramState$CourtText" "length" "I" ∈ wsAll := in_wsA_9 _ (List.mem_of_getElem? (i := 6) rfl)
theorem q_199 : Cond.methodLink RX9 101 yX2_append ∈ wsAll := in_wsA_9 _ (List.mem_of_getElem? (i := 7) rfl)
theorem q_200 : Cond.instanceMethod yX2_append ∈ wsAll := in_wsA_9 _ (List.mem_of_getElem? (i := 8) rfl)
theorem q_201 : Cond.selects RX2 yX2_append yX2_append ∈ wsAll := in_wsA_9 _ (List.mem_of_getElem? (i := 9) rfl)
theorem q_202 : Cond.code yX2_append cX2_append 2 none ∈ wsAll := in_wsA_9 _ (List.mem_of_getElem? (i := 10) rfl)
theorem q_203 : Cond.fieldLink RX2 19 "PramState$CourtText" "length" "I" ∈ wsAll := in_wsA_9 _ (List.mem_of_getElem? (i := 11) rfl)
theorem q_204 : Cond.methodLink RL 32 yX10_type ∈ wsAll := in_wsA_9 _ (List.mem_of_getElem? (i := 12) rfl)
theorem q_205 : Cond.instanceMethod yX10_type ∈ wsAll := in_wsA_9 _ (List.mem_of_getElem? (i := 13) rfl)
theorem q_206 : Cond.selects RX10 yX10_type yX10_type ∈ wsAll := in_wsA_9 _ (List.mem_of_getElem? (i := 14) rfl)
theorem q_207 : Cond.code yX10_type cX10_type 2 (some .int) ∈ wsAll := in_wsA_9 _ (List.mem_of_getElem? (i := 15) rfl)
theorem q_208 : Cond.constantLong RX10 211 (127) ∈ wsAll := in_wsA_9 _ (List.mem_of_getElem? (i := 16) rfl)
theorem q_209 : Cond.fieldLink RX10 213 "PramStateModel" "bytesLong" "I" ∈ wsAll := in_wsA_9 _ (List.mem_of_getElem? (i := 17) rfl)
theorem q_210 : Cond.methodLink RL 33 yX9_clear ∈ wsAll := in_wsA_9 _ (List.mem_of_getElem? (i := 18) rfl)
theorem q_211 : Cond.instanceMethod yX9_clear ∈ wsAll := in_wsA_9 _ (List.mem_of_getElem? (i := 19) rfl)
theorem q_212 : Cond.selects RX9 yX9_clear yX9_clear ∈ wsAll := in_wsA_9 _ (List.mem_of_getElem? (i := 20) rfl)
theorem q_213 : Cond.code yX9_clear cX9_clear 2 (some .int) ∈ wsAll := in_wsA_9 _ (List.mem_of_getElem? (i := 21) rfl)
theorem q_214 : Cond.methodLink RL 36 yX10_clear ∈ wsAll := in_wsA_9 _ (List.mem_of_getElem? (i := 22) rfl)
theorem q_215 : Cond.instanceMethod yX10_clear ∈ wsAll := in_wsA_9 _ (List.mem_of_getElem? (i := 23) rfl)
theorem q_216 : Cond.selects RX10 yX10_clear yX10_clear ∈ wsAll := in_wsA_10 _ (List.mem_of_getElem? (i := 0) rfl)
theorem q_217 : Cond.code yX10_clear cX10_clear 2 (some .int) ∈ wsAll := in_wsA_10 _ (List.mem_of_getElem? (i := 1) rfl)
theorem q_218 : Cond.methodLink RL 37 yX9_read ∈ wsAll := in_wsA_10 _ (List.mem_of_getElem? (i := 2) rfl)
theorem q_219 : Cond.instanceMethod yX9_read ∈ wsAll := in_wsA_10 _ (List.mem_of_getElem? (i := 3) rfl)
theorem q_220 : Cond.selects RX9 yX9_read yX9_read ∈ wsAll := in_wsA_10 _ (List.mem_of_getElem? (i := 4) rfl)
theorem q_221 : Cond.code yX9_read cX9_read 2 (some .int) ∈ wsAll := in_wsA_10 _ (List.mem_of_getElem? (i := 5) rfl)
theorem q_222 : Cond.fieldLink RX9 108 "PramState$CourtText" "draft" "LPramState$Court;" ∈ wsAll := in_wsA_10 _ (List.mem_of_getElem? (i := 6) rfl)
theorem q_223 : Cond.methodLink RX9 105 yX2_readCourt ∈ wsAll := in_wsA_10 _ (List.mem_of_getElem? (i := 7) rfl)
theorem q_224 : Cond.instanceMethod yX2_readCourt ∈ wsAll := in_wsA_10 _ (List.mem_of_getElem? (i := 8) rfl)
theorem q_225 : Cond.selects RX2 yX2_readCourt yX2_readCourt ∈ wsAll := in_wsA_10 _ (List.mem_of_getElem? (i := 9) rfl)
theorem q_226 : Cond.code yX2_readCourt cX2_readCourt 4 (some .int) ∈ wsAll := in_wsA_10 _ (List.mem_of_getElem? (i := 10) rfl)
theorem q_227 : Cond.fieldLink RX2 23 "PramState$CourtText" "behind" "I" ∈ wsAll := in_wsA_10 _ (List.mem_of_getElem? (i := 11) rfl)
theorem q_228 : Cond.fieldLink RX2 34 "PramState$CourtText" "token" "I" ∈ wsAll := in_wsA_10 _ (List.mem_of_getElem? (i := 12) rfl)
theorem q_229 : Cond.fieldLink RX2 44 "PramState$CourtText" "start" "I" ∈ wsAll := in_wsA_10 _ (List.mem_of_getElem? (i := 13) rfl)
theorem q_230 : Cond.methodLink RX2 26 yX1_begin ∈ wsAll := in_wsA_10 _ (List.mem_of_getElem? (i := 14) rfl)
theorem q_231 : Cond.methodLink RX2 31 yX2_advance ∈ wsAll := in_wsA_10 _ (List.mem_of_getElem? (i := 15) rfl)
theorem q_232 : Cond.instanceMethod yX2_advance ∈ wsAll := in_wsA_10 _ (List.mem_of_getElem? (i := 16) rfl)
theorem q_233 : Cond.selects RX2 yX2_advance yX2_advance ∈ wsAll := in_wsA_10 _ (List.mem_of_getElem? (i := 17) rfl)
theorem q_234 : Cond.code yX2_advance cX2_advance 1 none ∈ wsAll := in_wsA_10 _ (List.mem_of_getElem? (i := 18) rfl)
theorem q_235 : Cond.fieldLink RX2 89 "PramState$CourtText" "value" "I" ∈ wsAll := in_wsA_10 _ (List.mem_of_getElem? (i := 19) rfl)
theorem q_236 : Cond.methodLink RX2 101 yX2_takeRun ∈ wsAll := in_wsA_10 _ (List.mem_of_getElem? (i := 20) rfl)
theorem q_237 : Cond.instanceMethod yX2_takeRun ∈ wsAll := in_wsA_10 _ (List.mem_of_getElem? (i := 21) rfl)
theorem q_238 : Cond.selects RX2 yX2_takeRun yX2_takeRun ∈ wsAll := in_wsA_10 _ (List.mem_of_getElem? (i := 22) rfl)
theorem q_239 : Cond.code yX2_takeRun cX2_takeRun 4 (some .int) ∈ wsAll := in_wsA_10 _ (List.mem_of_getElem? (i := 23) rfl)
theorem q_240 : Cond.methodLink RX2 37 yX2_readOpening ∈ wsAll := in_wsA_11 _ (List.mem_of_getElem? (i := 0) rfl)
theorem q_241 : Cond.instanceMethod yX2_readOpening ∈ wsAll := in_wsA_11 _ (List.mem_of_getElem? (i := 1) rfl)
theorem q_242 : Cond.selects RX2 yX2_readOpening yX2_readOpening ∈ wsAll := in_wsA_11 _ (List.mem_of_getElem? (i := 2) rfl)
theorem q_243 : Cond.code yX2_readOpening cX2_readOpening 1 (some .boolean) ∈ wsAll := in_wsA_11 _ (List.mem_of_getElem? (i := 3) rfl)
theorem q_244 : Cond.methodLink RX2 49 yX2_isWord ∈ wsAll := in_wsA_11 _ (List.mem_of_getElem? (i := 4) rfl)
theorem q_245 : Cond.instanceMethod yX2_isWord ∈ wsAll := in_wsA_11 _ (List.mem_of_getElem? (i := 5) rfl)
theorem q_246 : Cond.selects RX2 yX2_isWord yX2_isWord ∈ wsAll := in_wsA_11 _ (List.mem_of_getElem? (i := 6) rfl)
theorem q_247 : Cond.code yX2_isWord cX2_isWord 3 (some .boolean) ∈ wsAll := in_wsA_11 _ (List.mem_of_getElem? (i := 7) rfl)
theorem q_248 : Cond.methodLink RX2 92 yJ0_length_8abf5 ∈ wsAll := in_wsA_11 _ (List.mem_of_getElem? (i := 8) rfl)
theorem q_249 : Cond.instanceMethod yJ0_length_8abf5 ∈ wsAll := in_wsA_11 _ (List.mem_of_getElem? (i := 9) rfl)
theorem q_250 : Cond.selects RJ0 yJ0_length_8abf5 yJ0_length_8abf5 ∈ wsAll := in_wsA_11 _ (List.mem_of_getElem? (i := 10) rfl)
theorem q_251 : Cond.initialized RJ0 ∈ wsAll := in_wsA_11 _ (List.mem_of_getElem? (i := 11) rfl)
theorem q_252 : Cond.code yJ0_length_8abf5 cJ0_length_8abf5 1 (some .int) ∈ wsAll := in_wsA_11 _ (List.mem_of_getElem? (i := 12) rfl)
theorem q_253 : Cond.fieldLink RJ0 9 "java/lang/String" "value" "[B" ∈ wsAll := in_wsA_11 _ (List.mem_of_getElem? (i := 13) rfl)
theorem q_254 : Cond.methodLink RJ0 335 yJ0_coder_7d493 ∈ wsAll := in_wsA_11 _ (List.mem_of_getElem? (i := 14) rfl)
theorem q_255 : Cond.instanceMethod yJ0_coder_7d493 ∈ wsAll := in_wsA_11 _ (List.mem_of_getElem? (i := 15) rfl)
theorem q_256 : Cond.selects RJ0 yJ0_coder_7d493 yJ0_coder_7d493 ∈ wsAll := in_wsA_11 _ (List.mem_of_getElem? (i := 16) rfl)
theorem q_257 : Cond.code yJ0_coder_7d493 cJ0_coder_7d493 1 (some .byte) ∈ wsAll := in_wsA_11 _ (List.mem_of_getElem? (i := 17) rfl)
theorem q_258 : Cond.fieldLink RJ0 38 "java/lang/String" "COMPACT_STRINGS" "Z" ∈ wsAll := in_wsA_11 _ (List.mem_of_getElem? (i := 18) rfl)
theorem q_259 : Cond.fieldLink RJ0 15 "java/lang/String" "coder" "B" ∈ wsAll := in_wsA_11 _ (List.mem_of_getElem? (i := 19) rfl)
theorem q_260 : Cond.methodLink RX2 97 yJ0_charAt_5068e ∈ wsAll := in_wsA_11 _ (List.mem_of_getElem? (i := 20) rfl)
theorem q_261 : Cond.instanceMethod yJ0_charAt_5068e ∈ wsAll := in_wsA_11 _ (List.mem_of_getElem? (i := 21) rfl)
theorem q_262 : Cond.selects RJ0 yJ0_charAt_5068e yJ0_charAt_5068e ∈ wsAll := in_wsA_11 _ (List.mem_of_getElem? (i := 22) rfl)
theorem q_263 : Cond.code yJ0_charAt_5068e cJ0_charAt_5068e 2 (some .char) ∈ wsAll := in_wsA_11 _ (List.mem_of_getElem? (i := 23) rfl)
theorem q_264 : Cond.methodLink RJ0 492 yJ0_isLatin1_aae02 ∈ wsAll := in_wsA_12 _ (List.mem_of_getElem? (i := 0) rfl)
theorem q_265 : Cond.instanceMethod yJ0_isLatin1_aae02 ∈ wsAll := in_wsA_12 _ (List.mem_of_getElem? (i := 1) rfl)
theorem q_266 : Cond.selects RJ0 yJ0_isLatin1_aae02 yJ0_isLatin1_aae02 ∈ wsAll := in_wsA_12 _ (List.mem_of_getElem? (i := 2) rfl)
theorem q_267 : Cond.code yJ0_isLatin1_aae02 cJ0_isLatin1_aae02 1 (some .boolean) ∈ wsAll := in_wsA_12 _ (List.mem_of_getElem? (i := 3) rfl)
theorem q_268 : Cond.methodLink RJ0 495 yJ1_charAt_3b067 ∈ wsAll := in_wsA_12 _ (List.mem_of_getElem? (i := 4) rfl)
theorem q_269 : Cond.static yJ1_charAt_3b067 ∈ wsAll := in_wsA_12 _ (List.mem_of_getElem? (i := 5) rfl)
theorem q_270 : Cond.initialized RJ1 ∈ wsAll := in_wsA_12 _ (List.mem_of_getElem? (i := 6) rfl)
theorem q_271 : Cond.code yJ1_charAt_3b067 cJ1_charAt_3b067 2 (some .char) ∈ wsAll := in_wsA_12 _ (List.mem_of_getElem? (i := 7) rfl)
theorem q_272 : Cond.methodLink RJ1 9 yJ0_checkIndex_df160 ∈ wsAll := in_wsA_12 _ (List.mem_of_getElem? (i := 8) rfl)
theorem q_273 : Cond.static yJ0_checkIndex_df160 ∈ wsAll := in_wsA_12 _ (List.mem_of_getElem? (i := 9) rfl)
theorem q_274 : Cond.code yJ0_checkIndex_df160 cJ0_checkIndex_df160 2 none ∈ wsAll := in_wsA_12 _ (List.mem_of_getElem? (i := 10) rfl)
theorem q_275 : Cond.fieldLink RJ0 1053 "jdk/internal/util/Preconditions" "SIOOBE_FORMATTER" "Ljava/util/function/BiFunction;" ∈ wsAll := in_wsA_12 _ (List.mem_of_getElem? (i := 11) rfl)
theorem q_276 : Cond.methodLink RJ0 1059 yJ3_checkIndex_8e157 ∈ wsAll := in_wsA_12 _ (List.mem_of_getElem? (i := 12) rfl)
theorem q_277 : Cond.static yJ3_checkIndex_8e157 ∈ wsAll := in_wsA_12 _ (List.mem_of_getElem? (i := 13) rfl)
theorem q_278 : Cond.initialized RJ3 ∈ wsAll := in_wsA_12 _ (List.mem_of_getElem? (i := 14) rfl)
theorem q_279 : Cond.code yJ3_checkIndex_8e157 cJ3_checkIndex_8e157 3 (some .int) ∈ wsAll := in_wsA_12 _ (List.mem_of_getElem? (i := 15) rfl)
theorem q_280 : Cond.methodLink RJ0 498 yJ2_charAt_3b067 ∈ wsAll := in_wsA_12 _ (List.mem_of_getElem? (i := 16) rfl)
theorem q_281 : Cond.static yJ2_charAt_3b067 ∈ wsAll := in_wsA_12 _ (List.mem_of_getElem? (i := 17) rfl)
theorem q_282 : Cond.initialized RJ2 ∈ wsAll := in_wsA_12 _ (List.mem_of_getElem? (i := 18) rfl)
theorem q_283 : Cond.code yJ2_charAt_3b067 cJ2_charAt_3b067 2 (some .char) ∈ wsAll := in_wsA_12 _ (List.mem_of_getElem? (i := 19) rfl)
theorem q_284 : Cond.methodLink RJ2 67 yJ2_checkIndex_2214a ∈ wsAll := in_wsA_12 _ (List.mem_of_getElem? (i := 20) rfl)
theorem q_285 : Cond.static yJ2_checkIndex_2214a ∈ wsAll := in_wsA_12 _ (List.mem_of_getElem? (i := 21) rfl)
theorem q_286 : Cond.code yJ2_checkIndex_2214a cJ2_checkIndex_2214a 2 none ∈ wsAll := in_wsA_12 _ (List.mem_of_getElem? (i := 22) rfl)
theorem q_287 : Cond.methodLink RJ2 48 yJ2_length_9d52b ∈ wsAll := in_wsA_12 _ (List.mem_of_getElem? (i := 23) rfl)
theorem q_288 : Cond.static yJ2_length_9d52b ∈ wsAll := in_wsA_13 _ (List.mem_of_getElem? (i := 0) rfl)
theorem q_289 : Cond.code yJ2_length_9d52b cJ2_length_9d52b 1 (some .int) ∈ wsAll := in_wsA_13 _ (List.mem_of_getElem? (i := 1) rfl)
theorem q_290 : Cond.methodLink RJ2 414 yJ0_checkIndex_df160 ∈ wsAll := in_wsA_13 _ (List.mem_of_getElem? (i := 2) rfl)
theorem q_291 : Cond.methodLink RJ2 71 yJ2_getChar_3b067 ∈ wsAll := in_wsA_13 _ (List.mem_of_getElem? (i := 3) rfl)
theorem q_292 : Cond.static yJ2_getChar_3b067 ∈ wsAll := in_wsA_13 _ (List.mem_of_getElem? (i := 4) rfl)
theorem q_293 : Cond.code yJ2_getChar_3b067 cJ2_getChar_3b067 2 (some .char) ∈ wsAll := in_wsA_13 _ (List.mem_of_getElem? (i := 5) rfl)
theorem q_294 : Cond.fieldLink RJ2 44 "java/lang/StringUTF16" "$assertionsDisabled" "Z" ∈ wsAll := in_wsA_13 _ (List.mem_of_getElem? (i := 6) rfl)
theorem q_295 : Cond.fieldLink RJ2 59 "java/lang/StringUTF16" "HI_BYTE_SHIFT" "I" ∈ wsAll := in_wsA_13 _ (List.mem_of_getElem? (i := 7) rfl)
theorem q_296 : Cond.fieldLink RJ2 63 "java/lang/StringUTF16" "LO_BYTE_SHIFT" "I" ∈ wsAll := in_wsA_13 _ (List.mem_of_getElem? (i := 8) rfl)
theorem q_297 : Cond.methodLink RX2 53 yX2_endItem ∈ wsAll := in_wsA_13 _ (List.mem_of_getElem? (i := 9) rfl)
theorem q_298 : Cond.instanceMethod yX2_endItem ∈ wsAll := in_wsA_13 _ (List.mem_of_getElem? (i := 10) rfl)
theorem q_299 : Cond.selects RX2 yX2_endItem yX2_endItem ∈ wsAll := in_wsA_13 _ (List.mem_of_getElem? (i := 11) rfl)
theorem q_300 : Cond.code yX2_endItem cX2_endItem 1 (some .boolean) ∈ wsAll := in_wsA_13 _ (List.mem_of_getElem? (i := 12) rfl)
theorem q_301 : Cond.methodLink RX2 41 yX2_readItem ∈ wsAll := in_wsA_13 _ (List.mem_of_getElem? (i := 13) rfl)
theorem q_302 : Cond.instanceMethod yX2_readItem ∈ wsAll := in_wsA_13 _ (List.mem_of_getElem? (i := 14) rfl)
theorem q_303 : Cond.selects RX2 yX2_readItem yX2_readItem ∈ wsAll := in_wsA_13 _ (List.mem_of_getElem? (i := 15) rfl)
theorem q_304 : Cond.code yX2_readItem cX2_readItem 1 (some .boolean) ∈ wsAll := in_wsA_13 _ (List.mem_of_getElem? (i := 16) rfl)
theorem q_305 : Cond.methodLink RX2 58 yX2_readInfant ∈ wsAll := in_wsA_13 _ (List.mem_of_getElem? (i := 17) rfl)
theorem q_306 : Cond.instanceMethod yX2_readInfant ∈ wsAll := in_wsA_13 _ (List.mem_of_getElem? (i := 18) rfl)
theorem q_307 : Cond.selects RX2 yX2_readInfant yX2_readInfant ∈ wsAll := in_wsA_13 _ (List.mem_of_getElem? (i := 19) rfl)
theorem q_308 : Cond.code yX2_readInfant cX2_readInfant 4 (some .boolean) ∈ wsAll := in_wsA_13 _ (List.mem_of_getElem? (i := 20) rfl)
theorem q_309 : Cond.fieldLink RX2 71 "PramState$Court" "infants" "I" ∈ wsAll := in_wsA_13 _ (List.mem_of_getElem? (i := 21) rfl)
theorem q_310 : Cond.methodLink RX2 74 yX2_number ∈ wsAll := in_wsA_13 _ (List.mem_of_getElem? (i := 22) rfl)
theorem q_311 : Cond.instanceMethod yX2_number ∈ wsAll := in_wsA_13 _ (List.mem_of_getElem? (i := 23) rfl)
theorem q_312 : Cond.selects RX2 yX2_number yX2_number ∈ wsAll := in_wsA_14 _ (List.mem_of_getElem? (i := 0) rfl)
theorem q_313 : Cond.code yX2_number cX2_number 3 (some .int) ∈ wsAll := in_wsA_14 _ (List.mem_of_getElem? (i := 1) rfl)
theorem q_314 : Cond.methodLink RX2 78 yX1_add ∈ wsAll := in_wsA_14 _ (List.mem_of_getElem? (i := 2) rfl)
theorem q_315 : Cond.methodLink RX2 63 yX2_readSkill ∈ wsAll := in_wsA_14 _ (List.mem_of_getElem? (i := 3) rfl)
theorem q_316 : Cond.instanceMethod yX2_readSkill ∈ wsAll := in_wsA_14 _ (List.mem_of_getElem? (i := 4) rfl)
theorem q_317 : Cond.selects RX2 yX2_readSkill yX2_readSkill ∈ wsAll := in_wsA_14 _ (List.mem_of_getElem? (i := 5) rfl)
theorem q_318 : Cond.code yX2_readSkill cX2_readSkill 3 (some .boolean) ∈ wsAll := in_wsA_14 _ (List.mem_of_getElem? (i := 6) rfl)
theorem q_319 : Cond.methodLink RX2 82 yX1_setSkill ∈ wsAll := in_wsA_14 _ (List.mem_of_getElem? (i := 7) rfl)
theorem q_320 : Cond.methodLink RX2 68 yX2_readNurse ∈ wsAll := in_wsA_14 _ (List.mem_of_getElem? (i := 8) rfl)
theorem q_321 : Cond.instanceMethod yX2_readNurse ∈ wsAll := in_wsA_14 _ (List.mem_of_getElem? (i := 9) rfl)
theorem q_322 : Cond.selects RX2 yX2_readNurse yX2_readNurse ∈ wsAll := in_wsA_14 _ (List.mem_of_getElem? (i := 10) rfl)
theorem q_323 : Cond.code yX2_readNurse cX2_readNurse 3 (some .boolean) ∈ wsAll := in_wsA_14 _ (List.mem_of_getElem? (i := 11) rfl)
theorem q_324 : Cond.fieldLink RX2 86 "PramState$Court" "nurse" "[I" ∈ wsAll := in_wsA_14 _ (List.mem_of_getElem? (i := 12) rfl)
theorem q_325 : Cond.methodLink RX9 111 yX1_copyFrom ∈ wsAll := in_wsA_14 _ (List.mem_of_getElem? (i := 13) rfl)
theorem q_326 : Cond.instanceMethod yX1_copyFrom ∈ wsAll := in_wsA_14 _ (List.mem_of_getElem? (i := 14) rfl)
theorem q_327 : Cond.selects RX1 yX1_copyFrom yX1_copyFrom ∈ wsAll := in_wsA_14 _ (List.mem_of_getElem? (i := 15) rfl)
theorem q_328 : Cond.code yX1_copyFrom cX1_copyFrom 2 none ∈ wsAll := in_wsA_14 _ (List.mem_of_getElem? (i := 16) rfl)
theorem q_329 : Cond.methodLink RX1 65 arraycopyName ∈ wsAll := in_wsA_14 _ (List.mem_of_getElem? (i := 17) rfl)
theorem q_330 : Cond.native arraycopyName ∈ wsAll := in_wsA_14 _ (List.mem_of_getElem? (i := 18) rfl)
theorem q_331 : Cond.static arraycopyName ∈ wsAll := in_wsA_14 _ (List.mem_of_getElem? (i := 19) rfl)
theorem q_332 : Cond.initialized "java/lang/System" ∈ wsAll := in_wsA_14 _ (List.mem_of_getElem? (i := 20) rfl)
theorem q_333 : Cond.methodLink RL 40 yX10_read ∈ wsAll := in_wsA_14 _ (List.mem_of_getElem? (i := 21) rfl)
theorem q_334 : Cond.instanceMethod yX10_read ∈ wsAll := in_wsA_14 _ (List.mem_of_getElem? (i := 22) rfl)
theorem q_335 : Cond.selects RX10 yX10_read yX10_read ∈ wsAll := in_wsA_14 _ (List.mem_of_getElem? (i := 23) rfl)
theorem q_336 : Cond.code yX10_read cX10_read 3 (some .int) ∈ wsAll := in_wsA_15 _ (List.mem_of_getElem? (i := 0) rfl)
theorem q_337 : Cond.fieldLink RX10 224 "PramStateModel" "tokenAt" "I" ∈ wsAll := in_wsA_15 _ (List.mem_of_getElem? (i := 1) rfl)
theorem q_338 : Cond.fieldLink RX10 230 "PramStateModel" "token" "I" ∈ wsAll := in_wsA_15 _ (List.mem_of_getElem? (i := 2) rfl)
theorem q_339 : Cond.methodLink RX10 242 yX10_lookAt ∈ wsAll := in_wsA_15 _ (List.mem_of_getElem? (i := 3) rfl)
theorem q_340 : Cond.instanceMethod yX10_lookAt ∈ wsAll := in_wsA_15 _ (List.mem_of_getElem? (i := 4) rfl)
theorem q_341 : Cond.selects RX10 yX10_lookAt yX10_lookAt ∈ wsAll := in_wsA_15 _ (List.mem_of_getElem? (i := 5) rfl)
theorem q_342 : Cond.code yX10_lookAt cX10_lookAt 5 none ∈ wsAll := in_wsA_15 _ (List.mem_of_getElem? (i := 6) rfl)
theorem q_343 : Cond.fieldLink RX10 227 "PramStateModel" "tokenLong" "I" ∈ wsAll := in_wsA_15 _ (List.mem_of_getElem? (i := 7) rfl)
theorem q_344 : Cond.fieldLink RX10 233 "PramStateModel" "value" "I" ∈ wsAll := in_wsA_15 _ (List.mem_of_getElem? (i := 8) rfl)
theorem q_345 : Cond.methodLink RX10 236 yX10_isSmall ∈ wsAll := in_wsA_15 _ (List.mem_of_getElem? (i := 9) rfl)
theorem q_346 : Cond.static yX10_isSmall ∈ wsAll := in_wsA_15 _ (List.mem_of_getElem? (i := 10) rfl)
theorem q_347 : Cond.code yX10_isSmall cX10_isSmall 1 (some .boolean) ∈ wsAll := in_wsA_15 _ (List.mem_of_getElem? (i := 11) rfl)
theorem q_348 : Cond.constantLong RX10 216 (97) ∈ wsAll := in_wsA_15 _ (List.mem_of_getElem? (i := 12) rfl)
theorem q_349 : Cond.constantLong RX10 218 (122) ∈ wsAll := in_wsA_15 _ (List.mem_of_getElem? (i := 13) rfl)
theorem q_350 : Cond.methodLink RX10 239 yX10_isFigure ∈ wsAll := in_wsA_15 _ (List.mem_of_getElem? (i := 14) rfl)
theorem q_351 : Cond.static yX10_isFigure ∈ wsAll := in_wsA_15 _ (List.mem_of_getElem? (i := 15) rfl)
theorem q_352 : Cond.code yX10_isFigure cX10_isFigure 1 (some .boolean) ∈ wsAll := in_wsA_15 _ (List.mem_of_getElem? (i := 16) rfl)
theorem q_353 : Cond.constantLong RX10 220 (48) ∈ wsAll := in_wsA_15 _ (List.mem_of_getElem? (i := 17) rfl)
theorem q_354 : Cond.constantLong RX10 222 (57) ∈ wsAll := in_wsA_15 _ (List.mem_of_getElem? (i := 18) rfl)
theorem q_355 : Cond.methodLink RX10 252 yX10_spells ∈ wsAll := in_wsA_15 _ (List.mem_of_getElem? (i := 19) rfl)
theorem q_356 : Cond.instanceMethod yX10_spells ∈ wsAll := in_wsA_15 _ (List.mem_of_getElem? (i := 20) rfl)
theorem q_357 : Cond.selects RX10 yX10_spells yX10_spells ∈ wsAll := in_wsA_15 _ (List.mem_of_getElem? (i := 21) rfl)
theorem q_358 : Cond.code yX10_spells cX10_spells 10 (some .boolean) ∈ wsAll := in_wsA_15 _ (List.mem_of_getElem? (i := 22) rfl)
theorem q_359 : Cond.methodLink RX10 246 yX10_goBehind ∈ wsAll := in_wsA_15 _ (List.mem_of_getElem? (i := 23) rfl)
theorem q_360 : Cond.instanceMethod yX10_goBehind ∈ wsAll := in_wsA_16 _ (List.mem_of_getElem? (i := 0) rfl)
theorem q_361 : Cond.selects RX10 yX10_goBehind yX10_goBehind ∈ wsAll := in_wsA_16 _ (List.mem_of_getElem? (i := 1) rfl)
theorem q_362 : Cond.code yX10_goBehind cX10_goBehind 1 none ∈ wsAll := in_wsA_16 _ (List.mem_of_getElem? (i := 2) rfl)
theorem q_363 : Cond.methodLink RX10 266 yX10_takesItem ∈ wsAll := in_wsA_16 _ (List.mem_of_getElem? (i := 3) rfl)
theorem q_364 : Cond.instanceMethod yX10_takesItem ∈ wsAll := in_wsA_16 _ (List.mem_of_getElem? (i := 4) rfl)
theorem q_365 : Cond.selects RX10 yX10_takesItem yX10_takesItem ∈ wsAll := in_wsA_16 _ (List.mem_of_getElem? (i := 5) rfl)
theorem q_366 : Cond.code yX10_takesItem cX10_takesItem 1 (some .boolean) ∈ wsAll := in_wsA_16 _ (List.mem_of_getElem? (i := 6) rfl)
theorem q_367 : Cond.methodLink RX10 256 yX10_takesInfant ∈ wsAll := in_wsA_16 _ (List.mem_of_getElem? (i := 7) rfl)
theorem q_368 : Cond.instanceMethod yX10_takesInfant ∈ wsAll := in_wsA_16 _ (List.mem_of_getElem? (i := 8) rfl)
theorem q_369 : Cond.selects RX10 yX10_takesInfant yX10_takesInfant ∈ wsAll := in_wsA_16 _ (List.mem_of_getElem? (i := 9) rfl)
theorem q_370 : Cond.code yX10_takesInfant cX10_takesInfant 1 (some .boolean) ∈ wsAll := in_wsA_16 _ (List.mem_of_getElem? (i := 10) rfl)
theorem q_371 : Cond.methodLink RX10 249 yX10_takes ∈ wsAll := in_wsA_16 _ (List.mem_of_getElem? (i := 11) rfl)
theorem q_372 : Cond.instanceMethod yX10_takes ∈ wsAll := in_wsA_16 _ (List.mem_of_getElem? (i := 12) rfl)
theorem q_373 : Cond.selects RX10 yX10_takes yX10_takes ∈ wsAll := in_wsA_16 _ (List.mem_of_getElem? (i := 13) rfl)
theorem q_374 : Cond.code yX10_takes cX10_takes 4 (some .boolean) ∈ wsAll := in_wsA_16 _ (List.mem_of_getElem? (i := 14) rfl)
theorem q_375 : Cond.methodLink RX10 260 yX10_takesSkill ∈ wsAll := in_wsA_16 _ (List.mem_of_getElem? (i := 15) rfl)
theorem q_376 : Cond.instanceMethod yX10_takesSkill ∈ wsAll := in_wsA_16 _ (List.mem_of_getElem? (i := 16) rfl)
theorem q_377 : Cond.selects RX10 yX10_takesSkill yX10_takesSkill ∈ wsAll := in_wsA_16 _ (List.mem_of_getElem? (i := 17) rfl)
theorem q_378 : Cond.code yX10_takesSkill cX10_takesSkill 1 (some .boolean) ∈ wsAll := in_wsA_16 _ (List.mem_of_getElem? (i := 18) rfl)
theorem q_379 : Cond.methodLink RX10 263 yX10_takesNurse ∈ wsAll := in_wsA_16 _ (List.mem_of_getElem? (i := 19) rfl)
theorem q_380 : Cond.instanceMethod yX10_takesNurse ∈ wsAll := in_wsA_16 _ (List.mem_of_getElem? (i := 20) rfl)
theorem q_381 : Cond.selects RX10 yX10_takesNurse yX10_takesNurse ∈ wsAll := in_wsA_16 _ (List.mem_of_getElem? (i := 21) rfl)
theorem q_382 : Cond.code yX10_takesNurse cX10_takesNurse 1 (some .boolean) ∈ wsAll := in_wsA_16 _ (List.mem_of_getElem? (i := 22) rfl)
theorem q_383 : Cond.methodLink RL 41 yX9_month ∈ wsAll := in_wsA_16 _ (List.mem_of_getElem? (i := 23) rfl)
theorem q_384 : Cond.instanceMethod yX9_month ∈ wsAll := in_wsA_17 _ (List.mem_of_getElem? (i := 0) rfl)
theorem q_385 : Cond.selects RX9 yX9_month yX9_month ∈ wsAll := in_wsA_17 _ (List.mem_of_getElem? (i := 1) rfl)
theorem q_386 : Cond.code yX9_month cX9_month 3 (some .int) ∈ wsAll := in_wsA_17 _ (List.mem_of_getElem? (i := 2) rfl)
theorem q_387 : Cond.methodLink RX9 114 yX1_remember ∈ wsAll := in_wsA_17 _ (List.mem_of_getElem? (i := 3) rfl)
theorem q_388 : Cond.instanceMethod yX1_remember ∈ wsAll := in_wsA_17 _ (List.mem_of_getElem? (i := 4) rfl)
theorem q_389 : Cond.selects RX1 yX1_remember yX1_remember ∈ wsAll := in_wsA_17 _ (List.mem_of_getElem? (i := 5) rfl)
theorem q_390 : Cond.code yX1_remember cX1_remember 2 none ∈ wsAll := in_wsA_17 _ (List.mem_of_getElem? (i := 6) rfl)
theorem q_391 : Cond.methodLink RX9 117 yX1_passMonth ∈ wsAll := in_wsA_17 _ (List.mem_of_getElem? (i := 7) rfl)
theorem q_392 : Cond.instanceMethod yX1_passMonth ∈ wsAll := in_wsA_17 _ (List.mem_of_getElem? (i := 8) rfl)
theorem q_393 : Cond.selects RX1 yX1_passMonth yX1_passMonth ∈ wsAll := in_wsA_17 _ (List.mem_of_getElem? (i := 9) rfl)
theorem q_394 : Cond.code yX1_passMonth cX1_passMonth 2 none ∈ wsAll := in_wsA_17 _ (List.mem_of_getElem? (i := 10) rfl)
theorem q_395 : Cond.methodLink RX1 71 yX1_isRetired ∈ wsAll := in_wsA_17 _ (List.mem_of_getElem? (i := 11) rfl)
theorem q_396 : Cond.instanceMethod yX1_isRetired ∈ wsAll := in_wsA_17 _ (List.mem_of_getElem? (i := 12) rfl)
theorem q_397 : Cond.selects RX1 yX1_isRetired yX1_isRetired ∈ wsAll := in_wsA_17 _ (List.mem_of_getElem? (i := 13) rfl)
theorem q_398 : Cond.code yX1_isRetired cX1_isRetired 2 (some .boolean) ∈ wsAll := in_wsA_17 _ (List.mem_of_getElem? (i := 14) rfl)
theorem q_399 : Cond.methodLink RX1 75 yX1_walkingAge ∈ wsAll := in_wsA_17 _ (List.mem_of_getElem? (i := 15) rfl)
theorem q_400 : Cond.instanceMethod yX1_walkingAge ∈ wsAll := in_wsA_17 _ (List.mem_of_getElem? (i := 16) rfl)
theorem q_401 : Cond.selects RX1 yX1_walkingAge yX1_walkingAge ∈ wsAll := in_wsA_17 _ (List.mem_of_getElem? (i := 17) rfl)
theorem q_402 : Cond.code yX1_walkingAge cX1_walkingAge 2 (some .int) ∈ wsAll := in_wsA_17 _ (List.mem_of_getElem? (i := 18) rfl)
theorem q_403 : Cond.methodLink RX1 79 ⟨"PramState$Plain", "walksWith", "()I"⟩ ∈ wsAll := in_wsA_17 _ (List.mem_of_getElem? (i := 19) rfl)
theorem q_404 : Cond.sameMethod "PramState$Plain" "PramState$Plain" "walksWith" "()I" ∈ wsAll := in_wsA_17 _ (List.mem_of_getElem? (i := 20) rfl)
theorem q_405 : Cond.selects RX0 ⟨"PramState$Plain", "walksWith", "()I"⟩ yX6_walksWith ∈ wsAll := in_wsA_17 _ (List.mem_of_getElem? (i := 21) rfl)
theorem q_406 : Cond.instanceMethod yX6_walksWith ∈ wsAll := in_wsA_17 _ (List.mem_of_getElem? (i := 22) rfl)
theorem q_407 : Cond.code yX6_walksWith cX6_walksWith 1 (some .int) ∈ wsAll := in_wsA_17 _ (List.mem_of_getElem? (i := 23) rfl)
theorem q_408 : Cond.instanceMethod ⟨"PramState$Plain", "walksWith", "()I"⟩ ∈ wsAll := in_wsA_18 _ (List.mem_of_getElem? (i := 0) rfl)
theorem q_409 : Cond.selects RX3 ⟨"PramState$Plain", "walksWith", "()I"⟩ yX3_walksWith ∈ wsAll := in_wsA_18 _ (List.mem_of_getElem? (i := 1) rfl)
theorem q_410 : Cond.instanceMethod yX3_walksWith ∈ wsAll := in_wsA_18 _ (List.mem_of_getElem? (i := 2) rfl)
theorem q_411 : Cond.code yX3_walksWith cX3_walksWith 1 (some .int) ∈ wsAll := in_wsA_18 _ (List.mem_of_getElem? (i := 3) rfl)
theorem q_412 : Cond.methodLink RX3 7 yX6_walksWith ∈ wsAll := in_wsA_18 _ (List.mem_of_getElem? (i := 4) rfl)
theorem q_413 : Cond.superclass RX3 RX6 ∈ wsAll := in_wsA_18 _ (List.mem_of_getElem? (i := 5) rfl)
theorem q_414 : Cond.selects RX4 ⟨"PramState$Plain", "walksWith", "()I"⟩ yX4_walksWith ∈ wsAll := in_wsA_18 _ (List.mem_of_getElem? (i := 6) rfl)
theorem q_415 : Cond.instanceMethod yX4_walksWith ∈ wsAll := in_wsA_18 _ (List.mem_of_getElem? (i := 7) rfl)
theorem q_416 : Cond.code yX4_walksWith cX4_walksWith 1 (some .int) ∈ wsAll := in_wsA_18 _ (List.mem_of_getElem? (i := 8) rfl)
theorem q_417 : Cond.methodLink RX4 11 yX6_walksWith ∈ wsAll := in_wsA_18 _ (List.mem_of_getElem? (i := 9) rfl)
theorem q_418 : Cond.superclass RX4 RX6 ∈ wsAll := in_wsA_18 _ (List.mem_of_getElem? (i := 10) rfl)
theorem q_419 : Cond.methodLink RX1 79 yX6_walksWith ∈ wsAll := in_wsA_18 _ (List.mem_of_getElem? (i := 11) rfl)
theorem q_420 : Cond.selects RX6 yX6_walksWith yX6_walksWith ∈ wsAll := in_wsA_18 _ (List.mem_of_getElem? (i := 12) rfl)
theorem q_421 : Cond.selects RX7 ⟨"PramState$Plain", "walksWith", "()I"⟩ yX6_walksWith ∈ wsAll := in_wsA_18 _ (List.mem_of_getElem? (i := 13) rfl)
theorem q_422 : Cond.selects RX8 ⟨"PramState$Plain", "walksWith", "()I"⟩ yX6_walksWith ∈ wsAll := in_wsA_18 _ (List.mem_of_getElem? (i := 14) rfl)
theorem q_423 : Cond.methodLink RX9 120 yX1_sovereign ∈ wsAll := in_wsA_18 _ (List.mem_of_getElem? (i := 15) rfl)
theorem q_424 : Cond.instanceMethod yX1_sovereign ∈ wsAll := in_wsA_18 _ (List.mem_of_getElem? (i := 16) rfl)
theorem q_425 : Cond.selects RX1 yX1_sovereign yX1_sovereign ∈ wsAll := in_wsA_18 _ (List.mem_of_getElem? (i := 17) rfl)
theorem q_426 : Cond.code yX1_sovereign cX1_sovereign 4 (some .int) ∈ wsAll := in_wsA_18 _ (List.mem_of_getElem? (i := 18) rfl)
theorem q_427 : Cond.methodLink RL 44 yX10_month ∈ wsAll := in_wsA_18 _ (List.mem_of_getElem? (i := 19) rfl)
theorem q_428 : Cond.instanceMethod yX10_month ∈ wsAll := in_wsA_18 _ (List.mem_of_getElem? (i := 20) rfl)
theorem q_429 : Cond.selects RX10 yX10_month yX10_month ∈ wsAll := in_wsA_18 _ (List.mem_of_getElem? (i := 21) rfl)
theorem q_430 : Cond.code yX10_month cX10_month 3 (some .int) ∈ wsAll := in_wsA_18 _ (List.mem_of_getElem? (i := 22) rfl)
theorem q_431 : Cond.constantLong RX10 129 (60) ∈ wsAll := in_wsA_18 _ (List.mem_of_getElem? (i := 23) rfl)
theorem q_432 : Cond.fieldLink RX10 113 "PramStateModel" "retired" "I" ∈ wsAll := in_wsA_19 _ (List.mem_of_getElem? (i := 0) rfl)
theorem q_433 : Cond.methodLink RX10 131 yX10_keep ∈ wsAll := in_wsA_19 _ (List.mem_of_getElem? (i := 1) rfl)
theorem q_434 : Cond.instanceMethod yX10_keep ∈ wsAll := in_wsA_19 _ (List.mem_of_getElem? (i := 2) rfl)
theorem q_435 : Cond.selects RX10 yX10_keep yX10_keep ∈ wsAll := in_wsA_19 _ (List.mem_of_getElem? (i := 3) rfl)
theorem q_436 : Cond.code yX10_keep cX10_keep 2 none ∈ wsAll := in_wsA_19 _ (List.mem_of_getElem? (i := 4) rfl)
theorem q_437 : Cond.methodLink RX10 120 yX10_layHand ∈ wsAll := in_wsA_19 _ (List.mem_of_getElem? (i := 5) rfl)
theorem q_438 : Cond.instanceMethod yX10_layHand ∈ wsAll := in_wsA_19 _ (List.mem_of_getElem? (i := 6) rfl)
theorem q_439 : Cond.selects RX10 yX10_layHand yX10_layHand ∈ wsAll := in_wsA_19 _ (List.mem_of_getElem? (i := 7) rfl)
theorem q_440 : Cond.code yX10_layHand cX10_layHand 2 none ∈ wsAll := in_wsA_19 _ (List.mem_of_getElem? (i := 8) rfl)
theorem q_441 : Cond.methodLink RX10 134 yX10_goMonth ∈ wsAll := in_wsA_19 _ (List.mem_of_getElem? (i := 9) rfl)
theorem q_442 : Cond.instanceMethod yX10_goMonth ∈ wsAll := in_wsA_19 _ (List.mem_of_getElem? (i := 10) rfl)
theorem q_443 : Cond.selects RX10 yX10_goMonth yX10_goMonth ∈ wsAll := in_wsA_19 _ (List.mem_of_getElem? (i := 11) rfl)
theorem q_444 : Cond.code yX10_goMonth cX10_goMonth 2 none ∈ wsAll := in_wsA_19 _ (List.mem_of_getElem? (i := 12) rfl)
theorem q_445 : Cond.methodLink RX10 117 yX10_has ∈ wsAll := in_wsA_19 _ (List.mem_of_getElem? (i := 13) rfl)
theorem q_446 : Cond.static yX10_has ∈ wsAll := in_wsA_19 _ (List.mem_of_getElem? (i := 14) rfl)
theorem q_447 : Cond.code yX10_has cX10_has 2 (some .boolean) ∈ wsAll := in_wsA_19 _ (List.mem_of_getElem? (i := 15) rfl)
theorem q_448 : Cond.methodLink RX10 96 yX10_kindOf ∈ wsAll := in_wsA_19 _ (List.mem_of_getElem? (i := 16) rfl)
theorem q_449 : Cond.instanceMethod yX10_kindOf ∈ wsAll := in_wsA_19 _ (List.mem_of_getElem? (i := 17) rfl)
theorem q_450 : Cond.selects RX10 yX10_kindOf yX10_kindOf ∈ wsAll := in_wsA_19 _ (List.mem_of_getElem? (i := 18) rfl)
theorem q_451 : Cond.code yX10_kindOf cX10_kindOf 2 (some .int) ∈ wsAll := in_wsA_19 _ (List.mem_of_getElem? (i := 19) rfl)
theorem q_452 : Cond.methodLink RX10 126 yX10_walksAs ∈ wsAll := in_wsA_19 _ (List.mem_of_getElem? (i := 20) rfl)
theorem q_453 : Cond.static yX10_walksAs ∈ wsAll := in_wsA_19 _ (List.mem_of_getElem? (i := 21) rfl)
theorem q_454 : Cond.code yX10_walksAs cX10_walksAs 1 (some .int) ∈ wsAll := in_wsA_19 _ (List.mem_of_getElem? (i := 22) rfl)
theorem q_455 : Cond.methodLink RX10 123 yX10_reigns ∈ wsAll := in_wsA_19 _ (List.mem_of_getElem? (i := 23) rfl)
theorem q_456 : Cond.instanceMethod yX10_reigns ∈ wsAll := in_wsA_20 _ (List.mem_of_getElem? (i := 0) rfl)
theorem q_457 : Cond.selects RX10 yX10_reigns yX10_reigns ∈ wsAll := in_wsA_20 _ (List.mem_of_getElem? (i := 1) rfl)
theorem q_458 : Cond.code yX10_reigns cX10_reigns 4 (some .int) ∈ wsAll := in_wsA_20 _ (List.mem_of_getElem? (i := 2) rfl)
theorem q_459 : Cond.methodLink RL 45 yX9_nurse ∈ wsAll := in_wsA_20 _ (List.mem_of_getElem? (i := 3) rfl)
theorem q_460 : Cond.instanceMethod yX9_nurse ∈ wsAll := in_wsA_20 _ (List.mem_of_getElem? (i := 4) rfl)
theorem q_461 : Cond.selects RX9 yX9_nurse yX9_nurse ∈ wsAll := in_wsA_20 _ (List.mem_of_getElem? (i := 5) rfl)
theorem q_462 : Cond.code yX9_nurse cX9_nurse 4 (some .int) ∈ wsAll := in_wsA_20 _ (List.mem_of_getElem? (i := 6) rfl)
theorem q_463 : Cond.fieldLink RX9 127 "PramState$Court" "nurse" "[I" ∈ wsAll := in_wsA_20 _ (List.mem_of_getElem? (i := 7) rfl)
theorem q_464 : Cond.methodLink RX9 123 yX9_isInfant ∈ wsAll := in_wsA_20 _ (List.mem_of_getElem? (i := 8) rfl)
theorem q_465 : Cond.instanceMethod yX9_isInfant ∈ wsAll := in_wsA_20 _ (List.mem_of_getElem? (i := 9) rfl)
theorem q_466 : Cond.selects RX9 yX9_isInfant yX9_isInfant ∈ wsAll := in_wsA_20 _ (List.mem_of_getElem? (i := 10) rfl)
theorem q_467 : Cond.code yX9_isInfant cX9_isInfant 2 (some .boolean) ∈ wsAll := in_wsA_20 _ (List.mem_of_getElem? (i := 11) rfl)
theorem q_468 : Cond.methodLink RL 48 yX10_nurse ∈ wsAll := in_wsA_20 _ (List.mem_of_getElem? (i := 12) rfl)
theorem q_469 : Cond.instanceMethod yX10_nurse ∈ wsAll := in_wsA_20 _ (List.mem_of_getElem? (i := 13) rfl)
theorem q_470 : Cond.selects RX10 yX10_nurse yX10_nurse ∈ wsAll := in_wsA_20 _ (List.mem_of_getElem? (i := 14) rfl)
theorem q_471 : Cond.code yX10_nurse cX10_nurse 4 (some .int) ∈ wsAll := in_wsA_20 _ (List.mem_of_getElem? (i := 15) rfl)
theorem q_472 : Cond.methodLink RX10 137 yX10_isInfant ∈ wsAll := in_wsA_20 _ (List.mem_of_getElem? (i := 16) rfl)
theorem q_473 : Cond.instanceMethod yX10_isInfant ∈ wsAll := in_wsA_20 _ (List.mem_of_getElem? (i := 17) rfl)
theorem q_474 : Cond.selects RX10 yX10_isInfant yX10_isInfant ∈ wsAll := in_wsA_20 _ (List.mem_of_getElem? (i := 18) rfl)
theorem q_475 : Cond.code yX10_isInfant cX10_isInfant 2 (some .boolean) ∈ wsAll := in_wsA_20 _ (List.mem_of_getElem? (i := 19) rfl)
theorem q_476 : Cond.methodLink RL 49 yX9_retire ∈ wsAll := in_wsA_20 _ (List.mem_of_getElem? (i := 20) rfl)
theorem q_477 : Cond.instanceMethod yX9_retire ∈ wsAll := in_wsA_20 _ (List.mem_of_getElem? (i := 21) rfl)
theorem q_478 : Cond.selects RX9 yX9_retire yX9_retire ∈ wsAll := in_wsA_20 _ (List.mem_of_getElem? (i := 22) rfl)
theorem q_479 : Cond.code yX9_retire cX9_retire 2 (some .int) ∈ wsAll := in_wsA_20 _ (List.mem_of_getElem? (i := 23) rfl)
theorem q_480 : Cond.fieldLink RX9 136 "PramState$Court" "retired" "I" ∈ wsAll := in_wsA_21 _ (List.mem_of_getElem? (i := 0) rfl)
theorem q_481 : Cond.methodLink RX9 130 yX1_isRetired ∈ wsAll := in_wsA_21 _ (List.mem_of_getElem? (i := 1) rfl)
theorem q_482 : Cond.methodLink RX9 133 yX9_no ∈ wsAll := in_wsA_21 _ (List.mem_of_getElem? (i := 2) rfl)
theorem q_483 : Cond.instanceMethod yX9_no ∈ wsAll := in_wsA_21 _ (List.mem_of_getElem? (i := 3) rfl)
theorem q_484 : Cond.selects RX9 yX9_no yX9_no ∈ wsAll := in_wsA_21 _ (List.mem_of_getElem? (i := 4) rfl)
theorem q_485 : Cond.code yX9_no cX9_no 1 (some .int) ∈ wsAll := in_wsA_21 _ (List.mem_of_getElem? (i := 5) rfl)
theorem q_486 : Cond.fieldLink RX9 238 "PramState" "noCalls" "I" ∈ wsAll := in_wsA_21 _ (List.mem_of_getElem? (i := 6) rfl)
theorem q_487 : Cond.methodLink RX9 139 yJ6_bitCount_0f7a4 ∈ wsAll := in_wsA_21 _ (List.mem_of_getElem? (i := 7) rfl)
theorem q_488 : Cond.static yJ6_bitCount_0f7a4 ∈ wsAll := in_wsA_21 _ (List.mem_of_getElem? (i := 8) rfl)
theorem q_489 : Cond.initialized RJ6 ∈ wsAll := in_wsA_21 _ (List.mem_of_getElem? (i := 9) rfl)
theorem q_490 : Cond.code yJ6_bitCount_0f7a4 cJ6_bitCount_0f7a4 1 (some .int) ∈ wsAll := in_wsA_21 _ (List.mem_of_getElem? (i := 10) rfl)
theorem q_491 : Cond.constant RJ6 265 (1431655765) ∈ wsAll := in_wsA_21 _ (List.mem_of_getElem? (i := 11) rfl)
theorem q_492 : Cond.constant RJ6 266 (858993459) ∈ wsAll := in_wsA_21 _ (List.mem_of_getElem? (i := 12) rfl)
theorem q_493 : Cond.constant RJ6 267 (252645135) ∈ wsAll := in_wsA_21 _ (List.mem_of_getElem? (i := 13) rfl)
theorem q_494 : Cond.methodLink RL 52 yX10_retire ∈ wsAll := in_wsA_21 _ (List.mem_of_getElem? (i := 14) rfl)
theorem q_495 : Cond.instanceMethod yX10_retire ∈ wsAll := in_wsA_21 _ (List.mem_of_getElem? (i := 15) rfl)
theorem q_496 : Cond.selects RX10 yX10_retire yX10_retire ∈ wsAll := in_wsA_21 _ (List.mem_of_getElem? (i := 16) rfl)
theorem q_497 : Cond.code yX10_retire cX10_retire 2 (some .int) ∈ wsAll := in_wsA_21 _ (List.mem_of_getElem? (i := 17) rfl)
theorem q_498 : Cond.methodLink RX10 140 yX10_no ∈ wsAll := in_wsA_21 _ (List.mem_of_getElem? (i := 18) rfl)
theorem q_499 : Cond.instanceMethod yX10_no ∈ wsAll := in_wsA_21 _ (List.mem_of_getElem? (i := 19) rfl)
theorem q_500 : Cond.selects RX10 yX10_no yX10_no ∈ wsAll := in_wsA_21 _ (List.mem_of_getElem? (i := 20) rfl)
theorem q_501 : Cond.code yX10_no cX10_no 1 (some .int) ∈ wsAll := in_wsA_21 _ (List.mem_of_getElem? (i := 21) rfl)
theorem q_502 : Cond.methodLink RX10 143 yX10_bits ∈ wsAll := in_wsA_21 _ (List.mem_of_getElem? (i := 22) rfl)
theorem q_503 : Cond.static yX10_bits ∈ wsAll := in_wsA_21 _ (List.mem_of_getElem? (i := 23) rfl)
theorem q_504 : Cond.code yX10_bits cX10_bits 3 (some .int) ∈ wsAll := in_wsA_22 _ (List.mem_of_getElem? (i := 0) rfl)
theorem q_505 : Cond.methodLink RL 53 yX9_undo ∈ wsAll := in_wsA_22 _ (List.mem_of_getElem? (i := 1) rfl)
theorem q_506 : Cond.instanceMethod yX9_undo ∈ wsAll := in_wsA_22 _ (List.mem_of_getElem? (i := 2) rfl)
theorem q_507 : Cond.selects RX9 yX9_undo yX9_undo ∈ wsAll := in_wsA_22 _ (List.mem_of_getElem? (i := 3) rfl)
theorem q_508 : Cond.code yX9_undo cX9_undo 1 (some .int) ∈ wsAll := in_wsA_22 _ (List.mem_of_getElem? (i := 4) rfl)
theorem q_509 : Cond.fieldLink RX9 144 "PramState$Court" "pasts" "I" ∈ wsAll := in_wsA_22 _ (List.mem_of_getElem? (i := 5) rfl)
theorem q_510 : Cond.fieldLink RX9 150 "PramState$Court" "month" "I" ∈ wsAll := in_wsA_22 _ (List.mem_of_getElem? (i := 6) rfl)
theorem q_511 : Cond.methodLink RX9 147 yX1_recall ∈ wsAll := in_wsA_22 _ (List.mem_of_getElem? (i := 7) rfl)
theorem q_512 : Cond.instanceMethod yX1_recall ∈ wsAll := in_wsA_22 _ (List.mem_of_getElem? (i := 8) rfl)
theorem q_513 : Cond.selects RX1 yX1_recall yX1_recall ∈ wsAll := in_wsA_22 _ (List.mem_of_getElem? (i := 9) rfl)
theorem q_514 : Cond.code yX1_recall cX1_recall 2 none ∈ wsAll := in_wsA_22 _ (List.mem_of_getElem? (i := 10) rfl)
theorem q_515 : Cond.methodLink RL 56 yX10_undo ∈ wsAll := in_wsA_22 _ (List.mem_of_getElem? (i := 11) rfl)
theorem q_516 : Cond.instanceMethod yX10_undo ∈ wsAll := in_wsA_22 _ (List.mem_of_getElem? (i := 12) rfl)
theorem q_517 : Cond.selects RX10 yX10_undo yX10_undo ∈ wsAll := in_wsA_22 _ (List.mem_of_getElem? (i := 13) rfl)
theorem q_518 : Cond.code yX10_undo cX10_undo 2 (some .int) ∈ wsAll := in_wsA_22 _ (List.mem_of_getElem? (i := 14) rfl)
theorem q_519 : Cond.methodLink RL 57 yX9_of ∈ wsAll := in_wsA_22 _ (List.mem_of_getElem? (i := 15) rfl)
theorem q_520 : Cond.instanceMethod yX9_of ∈ wsAll := in_wsA_22 _ (List.mem_of_getElem? (i := 16) rfl)
theorem q_521 : Cond.selects RX9 yX9_of yX9_of ∈ wsAll := in_wsA_22 _ (List.mem_of_getElem? (i := 17) rfl)
theorem q_522 : Cond.code yX9_of cX9_of 3 (some .int) ∈ wsAll := in_wsA_22 _ (List.mem_of_getElem? (i := 18) rfl)
theorem q_523 : Cond.fieldLink RX9 153 "PramState$Court" "kind" "[I" ∈ wsAll := in_wsA_22 _ (List.mem_of_getElem? (i := 19) rfl)
theorem q_524 : Cond.fieldLink RX9 156 "PramState$Court" "months" "[I" ∈ wsAll := in_wsA_22 _ (List.mem_of_getElem? (i := 20) rfl)
theorem q_525 : Cond.fieldLink RX9 159 "PramState$Court" "home" "[I" ∈ wsAll := in_wsA_22 _ (List.mem_of_getElem? (i := 21) rfl)
theorem q_526 : Cond.methodLink RX9 162 yX9_bit ∈ wsAll := in_wsA_22 _ (List.mem_of_getElem? (i := 22) rfl)
theorem q_527 : Cond.static yX9_bit ∈ wsAll := in_wsA_22 _ (List.mem_of_getElem? (i := 23) rfl)
theorem q_528 : Cond.code yX9_bit cX9_bit 1 (some .int) ∈ wsAll := in_wsA_23 _ (List.mem_of_getElem? (i := 0) rfl)
theorem q_529 : Cond.methodLink RX9 166 yX1_walkingAge ∈ wsAll := in_wsA_23 _ (List.mem_of_getElem? (i := 1) rfl)
theorem q_530 : Cond.methodLink RL 60 yX10_of ∈ wsAll := in_wsA_23 _ (List.mem_of_getElem? (i := 2) rfl)
theorem q_531 : Cond.instanceMethod yX10_of ∈ wsAll := in_wsA_23 _ (List.mem_of_getElem? (i := 3) rfl)
theorem q_532 : Cond.selects RX10 yX10_of yX10_of ∈ wsAll := in_wsA_23 _ (List.mem_of_getElem? (i := 4) rfl)
theorem q_533 : Cond.code yX10_of cX10_of 3 (some .int) ∈ wsAll := in_wsA_23 _ (List.mem_of_getElem? (i := 5) rfl)
theorem q_534 : Cond.methodLink RL 61 yX9_hour ∈ wsAll := in_wsA_23 _ (List.mem_of_getElem? (i := 6) rfl)
theorem q_535 : Cond.instanceMethod yX9_hour ∈ wsAll := in_wsA_23 _ (List.mem_of_getElem? (i := 7) rfl)
theorem q_536 : Cond.selects RX9 yX9_hour yX9_hour ∈ wsAll := in_wsA_23 _ (List.mem_of_getElem? (i := 8) rfl)
theorem q_537 : Cond.code yX9_hour cX9_hour 4 (some .int) ∈ wsAll := in_wsA_23 _ (List.mem_of_getElem? (i := 9) rfl)
theorem q_538 : Cond.methodLink RX9 169 yX1_isAsleep ∈ wsAll := in_wsA_23 _ (List.mem_of_getElem? (i := 10) rfl)
theorem q_539 : Cond.instanceMethod yX1_isAsleep ∈ wsAll := in_wsA_23 _ (List.mem_of_getElem? (i := 11) rfl)
theorem q_540 : Cond.selects RX1 yX1_isAsleep yX1_isAsleep ∈ wsAll := in_wsA_23 _ (List.mem_of_getElem? (i := 12) rfl)
theorem q_541 : Cond.code yX1_isAsleep cX1_isAsleep 3 (some .boolean) ∈ wsAll := in_wsA_23 _ (List.mem_of_getElem? (i := 13) rfl)
theorem q_542 : Cond.methodLink RX1 85 ⟨"PramState$Plain", "sleepsIn", "(I)Z"⟩ ∈ wsAll := in_wsA_23 _ (List.mem_of_getElem? (i := 14) rfl)
theorem q_543 : Cond.sameMethod "PramState$Plain" "PramState$Plain" "sleepsIn" "(I)Z" ∈ wsAll := in_wsA_23 _ (List.mem_of_getElem? (i := 15) rfl)
theorem q_544 : Cond.instanceMethod ⟨"PramState$Plain", "sleepsIn", "(I)Z"⟩ ∈ wsAll := in_wsA_23 _ (List.mem_of_getElem? (i := 16) rfl)
theorem q_545 : Cond.selects RX0 ⟨"PramState$Plain", "sleepsIn", "(I)Z"⟩ yX0_sleepsIn ∈ wsAll := in_wsA_23 _ (List.mem_of_getElem? (i := 17) rfl)
theorem q_546 : Cond.instanceMethod yX0_sleepsIn ∈ wsAll := in_wsA_23 _ (List.mem_of_getElem? (i := 18) rfl)
theorem q_547 : Cond.code yX0_sleepsIn cX0_sleepsIn 2 (some .boolean) ∈ wsAll := in_wsA_23 _ (List.mem_of_getElem? (i := 19) rfl)
theorem q_548 : Cond.code yX6_sleepsIn cX6_sleepsIn 2 (some .boolean) ∈ wsAll := in_wsA_23 _ (List.mem_of_getElem? (i := 20) rfl)
theorem q_549 : Cond.selects RX3 ⟨"PramState$Plain", "sleepsIn", "(I)Z"⟩ yX6_sleepsIn ∈ wsAll := in_wsA_23 _ (List.mem_of_getElem? (i := 21) rfl)
theorem q_550 : Cond.instanceMethod yX6_sleepsIn ∈ wsAll := in_wsA_23 _ (List.mem_of_getElem? (i := 22) rfl)
theorem q_551 : Cond.selects RX4 ⟨"PramState$Plain", "sleepsIn", "(I)Z"⟩ yX4_sleepsIn ∈ wsAll := in_wsA_23 _ (List.mem_of_getElem? (i := 23) rfl)
theorem q_552 : Cond.instanceMethod yX4_sleepsIn ∈ wsAll := in_wsA_24 _ (List.mem_of_getElem? (i := 0) rfl)
theorem q_553 : Cond.code yX4_sleepsIn cX4_sleepsIn 2 (some .boolean) ∈ wsAll := in_wsA_24 _ (List.mem_of_getElem? (i := 1) rfl)
theorem q_554 : Cond.methodLink RX4 7 yX6_sleepsIn ∈ wsAll := in_wsA_24 _ (List.mem_of_getElem? (i := 2) rfl)
theorem q_555 : Cond.methodLink RX1 85 yX6_sleepsIn ∈ wsAll := in_wsA_24 _ (List.mem_of_getElem? (i := 3) rfl)
theorem q_556 : Cond.selects RX6 yX6_sleepsIn yX6_sleepsIn ∈ wsAll := in_wsA_24 _ (List.mem_of_getElem? (i := 4) rfl)
theorem q_557 : Cond.selects RX7 ⟨"PramState$Plain", "sleepsIn", "(I)Z"⟩ yX7_sleepsIn ∈ wsAll := in_wsA_24 _ (List.mem_of_getElem? (i := 5) rfl)
theorem q_558 : Cond.instanceMethod yX7_sleepsIn ∈ wsAll := in_wsA_24 _ (List.mem_of_getElem? (i := 6) rfl)
theorem q_559 : Cond.code yX7_sleepsIn cX7_sleepsIn 2 (some .boolean) ∈ wsAll := in_wsA_24 _ (List.mem_of_getElem? (i := 7) rfl)
theorem q_560 : Cond.methodLink RX7 7 yX6_sleepsIn ∈ wsAll := in_wsA_24 _ (List.mem_of_getElem? (i := 8) rfl)
theorem q_561 : Cond.superclass RX7 RX6 ∈ wsAll := in_wsA_24 _ (List.mem_of_getElem? (i := 9) rfl)
theorem q_562 : Cond.selects RX8 ⟨"PramState$Plain", "sleepsIn", "(I)Z"⟩ yX6_sleepsIn ∈ wsAll := in_wsA_24 _ (List.mem_of_getElem? (i := 10) rfl)
theorem q_563 : Cond.methodLink RX9 172 yX1_criesAt ∈ wsAll := in_wsA_24 _ (List.mem_of_getElem? (i := 11) rfl)
theorem q_564 : Cond.instanceMethod yX1_criesAt ∈ wsAll := in_wsA_24 _ (List.mem_of_getElem? (i := 12) rfl)
theorem q_565 : Cond.selects RX1 yX1_criesAt yX1_criesAt ∈ wsAll := in_wsA_24 _ (List.mem_of_getElem? (i := 13) rfl)
theorem q_566 : Cond.code yX1_criesAt cX1_criesAt 4 (some .int) ∈ wsAll := in_wsA_24 _ (List.mem_of_getElem? (i := 14) rfl)
theorem q_567 : Cond.methodLink RX1 95 Lib.Math.max.name ∈ wsAll := in_wsA_24 _ (List.mem_of_getElem? (i := 15) rfl)
theorem q_568 : Cond.static Lib.Math.max.name ∈ wsAll := in_wsA_24 _ (List.mem_of_getElem? (i := 16) rfl)
theorem q_569 : Cond.initialized "java/lang/Math" ∈ wsAll := in_wsA_24 _ (List.mem_of_getElem? (i := 17) rfl)
theorem q_570 : Cond.code Lib.Math.max.name Lib.Math.max.code 2 (some .int) ∈ wsAll := in_wsA_24 _ (List.mem_of_getElem? (i := 18) rfl)
theorem q_571 : Cond.methodLink RX1 88 yX1_isAsleep ∈ wsAll := in_wsA_24 _ (List.mem_of_getElem? (i := 19) rfl)
theorem q_572 : Cond.methodLink RX1 92 ⟨"PramState$Plain", "criesAwake", "(I)I"⟩ ∈ wsAll := in_wsA_24 _ (List.mem_of_getElem? (i := 20) rfl)
theorem q_573 : Cond.sameMethod "PramState$Plain" "PramState$Plain" "criesAwake" "(I)I" ∈ wsAll := in_wsA_24 _ (List.mem_of_getElem? (i := 21) rfl)
theorem q_574 : Cond.instanceMethod ⟨"PramState$Plain", "criesAwake", "(I)I"⟩ ∈ wsAll := in_wsA_24 _ (List.mem_of_getElem? (i := 22) rfl)
theorem q_575 : Cond.selects RX0 ⟨"PramState$Plain", "criesAwake", "(I)I"⟩ yX0_criesAwake ∈ wsAll := in_wsA_24 _ (List.mem_of_getElem? (i := 23) rfl)
theorem q_576 : Cond.instanceMethod yX0_criesAwake ∈ wsAll := in_wsA_25 _ (List.mem_of_getElem? (i := 0) rfl)
theorem q_577 : Cond.code yX0_criesAwake cX0_criesAwake 2 (some .int) ∈ wsAll := in_wsA_25 _ (List.mem_of_getElem? (i := 1) rfl)
theorem q_578 : Cond.methodLink RX0 11 yX8_criesAwake ∈ wsAll := in_wsA_25 _ (List.mem_of_getElem? (i := 2) rfl)
theorem q_579 : Cond.sameMethod "PramState$Twin" "PramState$Twin" "criesAwake" "(I)I" ∈ wsAll := in_wsA_25 _ (List.mem_of_getElem? (i := 3) rfl)
theorem q_580 : Cond.superclass RX0 RX8 ∈ wsAll := in_wsA_25 _ (List.mem_of_getElem? (i := 4) rfl)
theorem q_581 : Cond.instanceMethod yX8_criesAwake ∈ wsAll := in_wsA_25 _ (List.mem_of_getElem? (i := 5) rfl)
theorem q_582 : Cond.code yX8_criesAwake cX8_criesAwake 2 (some .int) ∈ wsAll := in_wsA_25 _ (List.mem_of_getElem? (i := 6) rfl)
theorem q_583 : Cond.methodLink RX8 7 yX6_criesAwake ∈ wsAll := in_wsA_25 _ (List.mem_of_getElem? (i := 7) rfl)
theorem q_584 : Cond.superclass RX8 RX6 ∈ wsAll := in_wsA_25 _ (List.mem_of_getElem? (i := 8) rfl)
theorem q_585 : Cond.instanceMethod yX6_criesAwake ∈ wsAll := in_wsA_25 _ (List.mem_of_getElem? (i := 9) rfl)
theorem q_586 : Cond.code yX6_criesAwake cX6_criesAwake 2 (some .int) ∈ wsAll := in_wsA_25 _ (List.mem_of_getElem? (i := 10) rfl)
theorem q_587 : Cond.selects RX3 ⟨"PramState$Plain", "criesAwake", "(I)I"⟩ yX6_criesAwake ∈ wsAll := in_wsA_25 _ (List.mem_of_getElem? (i := 11) rfl)
theorem q_588 : Cond.selects RX4 ⟨"PramState$Plain", "criesAwake", "(I)I"⟩ yX6_criesAwake ∈ wsAll := in_wsA_25 _ (List.mem_of_getElem? (i := 12) rfl)
theorem q_589 : Cond.methodLink RX1 92 yX6_criesAwake ∈ wsAll := in_wsA_25 _ (List.mem_of_getElem? (i := 13) rfl)
theorem q_590 : Cond.selects RX6 yX6_criesAwake yX6_criesAwake ∈ wsAll := in_wsA_25 _ (List.mem_of_getElem? (i := 14) rfl)
theorem q_591 : Cond.selects RX7 ⟨"PramState$Plain", "criesAwake", "(I)I"⟩ yX7_criesAwake ∈ wsAll := in_wsA_25 _ (List.mem_of_getElem? (i := 15) rfl)
theorem q_592 : Cond.instanceMethod yX7_criesAwake ∈ wsAll := in_wsA_25 _ (List.mem_of_getElem? (i := 16) rfl)
theorem q_593 : Cond.code yX7_criesAwake cX7_criesAwake 3 (some .int) ∈ wsAll := in_wsA_25 _ (List.mem_of_getElem? (i := 17) rfl)
theorem q_594 : Cond.methodLink RX7 11 yX6_criesAwake ∈ wsAll := in_wsA_25 _ (List.mem_of_getElem? (i := 18) rfl)
theorem q_595 : Cond.selects RX8 ⟨"PramState$Plain", "criesAwake", "(I)I"⟩ yX8_criesAwake ∈ wsAll := in_wsA_25 _ (List.mem_of_getElem? (i := 19) rfl)
theorem q_596 : Cond.methodLink RL 64 yX10_hour ∈ wsAll := in_wsA_25 _ (List.mem_of_getElem? (i := 20) rfl)
theorem q_597 : Cond.instanceMethod yX10_hour ∈ wsAll := in_wsA_25 _ (List.mem_of_getElem? (i := 21) rfl)
theorem q_598 : Cond.selects RX10 yX10_hour yX10_hour ∈ wsAll := in_wsA_25 _ (List.mem_of_getElem? (i := 22) rfl)
theorem q_599 : Cond.code yX10_hour cX10_hour 4 (some .int) ∈ wsAll := in_wsA_25 _ (List.mem_of_getElem? (i := 23) rfl)
theorem q_600 : Cond.methodLink RX10 146 yX10_isHour ∈ wsAll := in_wsA_26 _ (List.mem_of_getElem? (i := 0) rfl)
theorem q_601 : Cond.static yX10_isHour ∈ wsAll := in_wsA_26 _ (List.mem_of_getElem? (i := 1) rfl)
theorem q_602 : Cond.code yX10_isHour cX10_isHour 1 (some .boolean) ∈ wsAll := in_wsA_26 _ (List.mem_of_getElem? (i := 2) rfl)
theorem q_603 : Cond.constantLong RX10 71 (23) ∈ wsAll := in_wsA_26 _ (List.mem_of_getElem? (i := 3) rfl)
theorem q_604 : Cond.methodLink RX10 149 yX10_criesIn ∈ wsAll := in_wsA_26 _ (List.mem_of_getElem? (i := 4) rfl)
theorem q_605 : Cond.instanceMethod yX10_criesIn ∈ wsAll := in_wsA_26 _ (List.mem_of_getElem? (i := 5) rfl)
theorem q_606 : Cond.selects RX10 yX10_criesIn yX10_criesIn ∈ wsAll := in_wsA_26 _ (List.mem_of_getElem? (i := 6) rfl)
theorem q_607 : Cond.code yX10_criesIn cX10_criesIn 3 (some .int) ∈ wsAll := in_wsA_26 _ (List.mem_of_getElem? (i := 7) rfl)
theorem q_608 : Cond.methodLink RX10 107 yX10_isAwake ∈ wsAll := in_wsA_26 _ (List.mem_of_getElem? (i := 8) rfl)
theorem q_609 : Cond.instanceMethod yX10_isAwake ∈ wsAll := in_wsA_26 _ (List.mem_of_getElem? (i := 9) rfl)
theorem q_610 : Cond.selects RX10 yX10_isAwake yX10_isAwake ∈ wsAll := in_wsA_26 _ (List.mem_of_getElem? (i := 10) rfl)
theorem q_611 : Cond.code yX10_isAwake cX10_isAwake 3 (some .boolean) ∈ wsAll := in_wsA_26 _ (List.mem_of_getElem? (i := 11) rfl)
theorem q_612 : Cond.methodLink RX10 99 yX10_sleepsAs ∈ wsAll := in_wsA_26 _ (List.mem_of_getElem? (i := 12) rfl)
theorem q_613 : Cond.static yX10_sleepsAs ∈ wsAll := in_wsA_26 _ (List.mem_of_getElem? (i := 13) rfl)
theorem q_614 : Cond.code yX10_sleepsAs cX10_sleepsAs 3 (some .boolean) ∈ wsAll := in_wsA_26 _ (List.mem_of_getElem? (i := 14) rfl)
theorem q_615 : Cond.methodLink RX10 110 yX10_criesBy ∈ wsAll := in_wsA_26 _ (List.mem_of_getElem? (i := 15) rfl)
theorem q_616 : Cond.instanceMethod yX10_criesBy ∈ wsAll := in_wsA_26 _ (List.mem_of_getElem? (i := 16) rfl)
theorem q_617 : Cond.selects RX10 yX10_criesBy yX10_criesBy ∈ wsAll := in_wsA_26 _ (List.mem_of_getElem? (i := 17) rfl)
theorem q_618 : Cond.code yX10_criesBy cX10_criesBy 4 (some .int) ∈ wsAll := in_wsA_26 _ (List.mem_of_getElem? (i := 18) rfl)
theorem q_619 : Cond.methodLink RX10 103 yX10_criesAs ∈ wsAll := in_wsA_26 _ (List.mem_of_getElem? (i := 19) rfl)
theorem q_620 : Cond.static yX10_criesAs ∈ wsAll := in_wsA_26 _ (List.mem_of_getElem? (i := 20) rfl)
theorem q_621 : Cond.code yX10_criesAs cX10_criesAs 3 (some .int) ∈ wsAll := in_wsA_26 _ (List.mem_of_getElem? (i := 21) rfl)
theorem q_622 : Cond.constantLong RX10 92 (6) ∈ wsAll := in_wsA_26 _ (List.mem_of_getElem? (i := 22) rfl)
theorem q_623 : Cond.constantLong RX10 94 (11) ∈ wsAll := in_wsA_26 _ (List.mem_of_getElem? (i := 23) rfl)
theorem q_624 : Cond.methodLink RL 65 yX9_day ∈ wsAll := in_wsA_27 _ (List.mem_of_getElem? (i := 0) rfl)
theorem q_625 : Cond.instanceMethod yX9_day ∈ wsAll := in_wsA_27 _ (List.mem_of_getElem? (i := 1) rfl)
theorem q_626 : Cond.selects RX9 yX9_day yX9_day ∈ wsAll := in_wsA_27 _ (List.mem_of_getElem? (i := 2) rfl)
theorem q_627 : Cond.code yX9_day cX9_day 2 (some .int) ∈ wsAll := in_wsA_27 _ (List.mem_of_getElem? (i := 3) rfl)
theorem q_628 : Cond.methodLink RX9 176 yX1_criesAllDay ∈ wsAll := in_wsA_27 _ (List.mem_of_getElem? (i := 4) rfl)
theorem q_629 : Cond.instanceMethod yX1_criesAllDay ∈ wsAll := in_wsA_27 _ (List.mem_of_getElem? (i := 5) rfl)
theorem q_630 : Cond.selects RX1 yX1_criesAllDay yX1_criesAllDay ∈ wsAll := in_wsA_27 _ (List.mem_of_getElem? (i := 6) rfl)
theorem q_631 : Cond.code yX1_criesAllDay cX1_criesAllDay 5 (some .int) ∈ wsAll := in_wsA_27 _ (List.mem_of_getElem? (i := 7) rfl)
theorem q_632 : Cond.methodLink RX1 101 yX1_criesAt ∈ wsAll := in_wsA_27 _ (List.mem_of_getElem? (i := 8) rfl)
theorem q_633 : Cond.methodLink RL 68 yX10_day ∈ wsAll := in_wsA_27 _ (List.mem_of_getElem? (i := 9) rfl)
theorem q_634 : Cond.instanceMethod yX10_day ∈ wsAll := in_wsA_27 _ (List.mem_of_getElem? (i := 10) rfl)
theorem q_635 : Cond.selects RX10 yX10_day yX10_day ∈ wsAll := in_wsA_27 _ (List.mem_of_getElem? (i := 11) rfl)
theorem q_636 : Cond.code yX10_day cX10_day 2 (some .int) ∈ wsAll := in_wsA_27 _ (List.mem_of_getElem? (i := 12) rfl)
theorem q_637 : Cond.methodLink RX10 152 yX10_dayBy ∈ wsAll := in_wsA_27 _ (List.mem_of_getElem? (i := 13) rfl)
theorem q_638 : Cond.instanceMethod yX10_dayBy ∈ wsAll := in_wsA_27 _ (List.mem_of_getElem? (i := 14) rfl)
theorem q_639 : Cond.selects RX10 yX10_dayBy yX10_dayBy ∈ wsAll := in_wsA_27 _ (List.mem_of_getElem? (i := 15) rfl)
theorem q_640 : Cond.code yX10_dayBy cX10_dayBy 5 (some .int) ∈ wsAll := in_wsA_27 _ (List.mem_of_getElem? (i := 16) rfl)
theorem q_641 : Cond.methodLink RL 69 yX9_reign ∈ wsAll := in_wsA_27 _ (List.mem_of_getElem? (i := 17) rfl)
theorem q_642 : Cond.instanceMethod yX9_reign ∈ wsAll := in_wsA_27 _ (List.mem_of_getElem? (i := 18) rfl)
theorem q_643 : Cond.selects RX9 yX9_reign yX9_reign ∈ wsAll := in_wsA_27 _ (List.mem_of_getElem? (i := 19) rfl)
theorem q_644 : Cond.code yX9_reign cX9_reign 2 (some .int) ∈ wsAll := in_wsA_27 _ (List.mem_of_getElem? (i := 20) rfl)
theorem q_645 : Cond.methodLink RL 72 yX10_reign ∈ wsAll := in_wsA_27 _ (List.mem_of_getElem? (i := 21) rfl)
theorem q_646 : Cond.instanceMethod yX10_reign ∈ wsAll := in_wsA_27 _ (List.mem_of_getElem? (i := 22) rfl)
theorem q_647 : Cond.selects RX10 yX10_reign yX10_reign ∈ wsAll := in_wsA_27 _ (List.mem_of_getElem? (i := 23) rfl)
theorem q_648 : Cond.code yX10_reign cX10_reign 3 (some .int) ∈ wsAll := in_wsA_28 _ (List.mem_of_getElem? (i := 0) rfl)
theorem q_649 : Cond.methodLink RL 73 yX9_falls ∈ wsAll := in_wsA_28 _ (List.mem_of_getElem? (i := 1) rfl)
theorem q_650 : Cond.instanceMethod yX9_falls ∈ wsAll := in_wsA_28 _ (List.mem_of_getElem? (i := 2) rfl)
theorem q_651 : Cond.selects RX9 yX9_falls yX9_falls ∈ wsAll := in_wsA_28 _ (List.mem_of_getElem? (i := 3) rfl)
theorem q_652 : Cond.code yX9_falls cX9_falls 3 (some .int) ∈ wsAll := in_wsA_28 _ (List.mem_of_getElem? (i := 4) rfl)
theorem q_653 : Cond.methodLink RL 76 yX10_falls ∈ wsAll := in_wsA_28 _ (List.mem_of_getElem? (i := 5) rfl)
theorem q_654 : Cond.instanceMethod yX10_falls ∈ wsAll := in_wsA_28 _ (List.mem_of_getElem? (i := 6) rfl)
theorem q_655 : Cond.selects RX10 yX10_falls yX10_falls ∈ wsAll := in_wsA_28 _ (List.mem_of_getElem? (i := 7) rfl)
theorem q_656 : Cond.code yX10_falls cX10_falls 3 (some .int) ∈ wsAll := in_wsA_28 _ (List.mem_of_getElem? (i := 8) rfl)
theorem q_657 : Cond.methodLink RX10 155 yX10_reignsNow ∈ wsAll := in_wsA_28 _ (List.mem_of_getElem? (i := 9) rfl)
theorem q_658 : Cond.instanceMethod yX10_reignsNow ∈ wsAll := in_wsA_28 _ (List.mem_of_getElem? (i := 10) rfl)
theorem q_659 : Cond.selects RX10 yX10_reignsNow yX10_reignsNow ∈ wsAll := in_wsA_28 _ (List.mem_of_getElem? (i := 11) rfl)
theorem q_660 : Cond.code yX10_reignsNow cX10_reignsNow 1 (some .int) ∈ wsAll := in_wsA_28 _ (List.mem_of_getElem? (i := 12) rfl)
theorem q_661 : Cond.methodLink RL 77 yX9_line ∈ wsAll := in_wsA_28 _ (List.mem_of_getElem? (i := 13) rfl)
theorem q_662 : Cond.instanceMethod yX9_line ∈ wsAll := in_wsA_28 _ (List.mem_of_getElem? (i := 14) rfl)
theorem q_663 : Cond.selects RX9 yX9_line yX9_line ∈ wsAll := in_wsA_28 _ (List.mem_of_getElem? (i := 15) rfl)
theorem q_664 : Cond.code yX9_line cX9_line 8 (some .int) ∈ wsAll := in_wsA_28 _ (List.mem_of_getElem? (i := 16) rfl)
theorem q_665 : Cond.methodLink RL 80 yX10_line ∈ wsAll := in_wsA_28 _ (List.mem_of_getElem? (i := 17) rfl)
theorem q_666 : Cond.instanceMethod yX10_line ∈ wsAll := in_wsA_28 _ (List.mem_of_getElem? (i := 18) rfl)
theorem q_667 : Cond.selects RX10 yX10_line yX10_line ∈ wsAll := in_wsA_28 _ (List.mem_of_getElem? (i := 19) rfl)
theorem q_668 : Cond.code yX10_line cX10_line 3 (some .int) ∈ wsAll := in_wsA_28 _ (List.mem_of_getElem? (i := 20) rfl)
theorem q_669 : Cond.fieldLink RX10 158 "PramStateModel" "manyLine" "I" ∈ wsAll := in_wsA_28 _ (List.mem_of_getElem? (i := 21) rfl)
theorem q_670 : Cond.methodLink RX10 161 yX10_layLine ∈ wsAll := in_wsA_28 _ (List.mem_of_getElem? (i := 22) rfl)
theorem q_671 : Cond.instanceMethod yX10_layLine ∈ wsAll := in_wsA_28 _ (List.mem_of_getElem? (i := 23) rfl)
theorem q_672 : Cond.selects RX10 yX10_layLine yX10_layLine ∈ wsAll := in_wsA_29 _ (List.mem_of_getElem? (i := 0) rfl)
theorem q_673 : Cond.code yX10_layLine cX10_layLine 5 none ∈ wsAll := in_wsA_29 _ (List.mem_of_getElem? (i := 1) rfl)
theorem q_674 : Cond.methodLink RL 81 yX9_meet ∈ wsAll := in_wsA_29 _ (List.mem_of_getElem? (i := 2) rfl)
theorem q_675 : Cond.instanceMethod yX9_meet ∈ wsAll := in_wsA_29 _ (List.mem_of_getElem? (i := 3) rfl)
theorem q_676 : Cond.selects RX9 yX9_meet yX9_meet ∈ wsAll := in_wsA_29 _ (List.mem_of_getElem? (i := 4) rfl)
theorem q_677 : Cond.code yX9_meet cX9_meet 5 (some .int) ∈ wsAll := in_wsA_29 _ (List.mem_of_getElem? (i := 5) rfl)
theorem q_678 : Cond.methodLink RX9 180 yX1_canBeAwakeAt ∈ wsAll := in_wsA_29 _ (List.mem_of_getElem? (i := 6) rfl)
theorem q_679 : Cond.instanceMethod yX1_canBeAwakeAt ∈ wsAll := in_wsA_29 _ (List.mem_of_getElem? (i := 7) rfl)
theorem q_680 : Cond.selects RX1 yX1_canBeAwakeAt yX1_canBeAwakeAt ∈ wsAll := in_wsA_29 _ (List.mem_of_getElem? (i := 8) rfl)
theorem q_681 : Cond.code yX1_canBeAwakeAt cX1_canBeAwakeAt 5 (some .boolean) ∈ wsAll := in_wsA_29 _ (List.mem_of_getElem? (i := 9) rfl)
theorem q_682 : Cond.methodLink RX1 105 Lib.Math.abs.name ∈ wsAll := in_wsA_29 _ (List.mem_of_getElem? (i := 10) rfl)
theorem q_683 : Cond.static Lib.Math.abs.name ∈ wsAll := in_wsA_29 _ (List.mem_of_getElem? (i := 11) rfl)
theorem q_684 : Cond.code Lib.Math.abs.name Lib.Math.abs.code 1 (some .int) ∈ wsAll := in_wsA_29 _ (List.mem_of_getElem? (i := 12) rfl)
theorem q_685 : Cond.methodLink RX1 108 Lib.Math.min.name ∈ wsAll := in_wsA_29 _ (List.mem_of_getElem? (i := 13) rfl)
theorem q_686 : Cond.static Lib.Math.min.name ∈ wsAll := in_wsA_29 _ (List.mem_of_getElem? (i := 14) rfl)
theorem q_687 : Cond.code Lib.Math.min.name Lib.Math.min.code 2 (some .int) ∈ wsAll := in_wsA_29 _ (List.mem_of_getElem? (i := 15) rfl)
theorem q_688 : Cond.methodLink RL 84 yX10_meet ∈ wsAll := in_wsA_29 _ (List.mem_of_getElem? (i := 16) rfl)
theorem q_689 : Cond.instanceMethod yX10_meet ∈ wsAll := in_wsA_29 _ (List.mem_of_getElem? (i := 17) rfl)
theorem q_690 : Cond.selects RX10 yX10_meet yX10_meet ∈ wsAll := in_wsA_29 _ (List.mem_of_getElem? (i := 18) rfl)
theorem q_691 : Cond.code yX10_meet cX10_meet 5 (some .int) ∈ wsAll := in_wsA_29 _ (List.mem_of_getElem? (i := 19) rfl)
theorem q_692 : Cond.methodLink RX10 167 yX10_canBe ∈ wsAll := in_wsA_29 _ (List.mem_of_getElem? (i := 20) rfl)
theorem q_693 : Cond.instanceMethod yX10_canBe ∈ wsAll := in_wsA_29 _ (List.mem_of_getElem? (i := 21) rfl)
theorem q_694 : Cond.selects RX10 yX10_canBe yX10_canBe ∈ wsAll := in_wsA_29 _ (List.mem_of_getElem? (i := 22) rfl)
theorem q_695 : Cond.code yX10_canBe cX10_canBe 4 (some .boolean) ∈ wsAll := in_wsA_29 _ (List.mem_of_getElem? (i := 23) rfl)
theorem q_696 : Cond.methodLink RX10 164 yX10_far ∈ wsAll := in_wsA_30 _ (List.mem_of_getElem? (i := 0) rfl)
theorem q_697 : Cond.static yX10_far ∈ wsAll := in_wsA_30 _ (List.mem_of_getElem? (i := 1) rfl)
theorem q_698 : Cond.code yX10_far cX10_far 3 (some .int) ∈ wsAll := in_wsA_30 _ (List.mem_of_getElem? (i := 2) rfl)
theorem q_699 : Cond.methodLink RL 85 yX9_congress ∈ wsAll := in_wsA_30 _ (List.mem_of_getElem? (i := 3) rfl)
theorem q_700 : Cond.instanceMethod yX9_congress ∈ wsAll := in_wsA_30 _ (List.mem_of_getElem? (i := 4) rfl)
theorem q_701 : Cond.selects RX9 yX9_congress yX9_congress ∈ wsAll := in_wsA_30 _ (List.mem_of_getElem? (i := 5) rfl)
theorem q_702 : Cond.code yX9_congress cX9_congress 7 (some .int) ∈ wsAll := in_wsA_30 _ (List.mem_of_getElem? (i := 6) rfl)
theorem q_703 : Cond.methodLink RX9 184 yX1_awakeAt ∈ wsAll := in_wsA_30 _ (List.mem_of_getElem? (i := 7) rfl)
theorem q_704 : Cond.instanceMethod yX1_awakeAt ∈ wsAll := in_wsA_30 _ (List.mem_of_getElem? (i := 8) rfl)
theorem q_705 : Cond.selects RX1 yX1_awakeAt yX1_awakeAt ∈ wsAll := in_wsA_30 _ (List.mem_of_getElem? (i := 9) rfl)
theorem q_706 : Cond.code yX1_awakeAt cX1_awakeAt 5 (some .int) ∈ wsAll := in_wsA_30 _ (List.mem_of_getElem? (i := 10) rfl)
theorem q_707 : Cond.methodLink RX1 111 yX1_canBeAwakeAt ∈ wsAll := in_wsA_30 _ (List.mem_of_getElem? (i := 11) rfl)
theorem q_708 : Cond.methodLink RL 88 yX10_congress ∈ wsAll := in_wsA_30 _ (List.mem_of_getElem? (i := 12) rfl)
theorem q_709 : Cond.instanceMethod yX10_congress ∈ wsAll := in_wsA_30 _ (List.mem_of_getElem? (i := 13) rfl)
theorem q_710 : Cond.selects RX10 yX10_congress yX10_congress ∈ wsAll := in_wsA_30 _ (List.mem_of_getElem? (i := 14) rfl)
theorem q_711 : Cond.code yX10_congress cX10_congress 8 (some .int) ∈ wsAll := in_wsA_30 _ (List.mem_of_getElem? (i := 15) rfl)
theorem q_712 : Cond.methodLink RL 89 yX9_nurses ∈ wsAll := in_wsA_30 _ (List.mem_of_getElem? (i := 16) rfl)
theorem q_713 : Cond.instanceMethod yX9_nurses ∈ wsAll := in_wsA_30 _ (List.mem_of_getElem? (i := 17) rfl)
theorem q_714 : Cond.selects RX9 yX9_nurses yX9_nurses ∈ wsAll := in_wsA_30 _ (List.mem_of_getElem? (i := 18) rfl)
theorem q_715 : Cond.code yX9_nurses cX9_nurses 2 (some .int) ∈ wsAll := in_wsA_30 _ (List.mem_of_getElem? (i := 19) rfl)
theorem q_716 : Cond.methodLink RX9 187 yX5_weigh ∈ wsAll := in_wsA_30 _ (List.mem_of_getElem? (i := 20) rfl)
theorem q_717 : Cond.instanceMethod yX5_weigh ∈ wsAll := in_wsA_30 _ (List.mem_of_getElem? (i := 21) rfl)
theorem q_718 : Cond.selects RX5 yX5_weigh yX5_weigh ∈ wsAll := in_wsA_30 _ (List.mem_of_getElem? (i := 22) rfl)
theorem q_719 : Cond.code yX5_weigh cX5_weigh 4 none ∈ wsAll := in_wsA_30 _ (List.mem_of_getElem? (i := 23) rfl)
theorem q_720 : Cond.fieldLink RX5 21 "PramState$NursePlan" "awaiting" "I" ∈ wsAll := in_wsA_31 _ (List.mem_of_getElem? (i := 0) rfl)
theorem q_721 : Cond.fieldLink RX5 25 "PramState$Court" "infants" "I" ∈ wsAll := in_wsA_31 _ (List.mem_of_getElem? (i := 1) rfl)
theorem q_722 : Cond.methodLink RX5 30 yX1_isRetired ∈ wsAll := in_wsA_31 _ (List.mem_of_getElem? (i := 2) rfl)
theorem q_723 : Cond.methodLink RX5 34 yX1_criesAllDay ∈ wsAll := in_wsA_31 _ (List.mem_of_getElem? (i := 3) rfl)
theorem q_724 : Cond.methodLink RX5 38 yJ6_bitCount_0f7a4 ∈ wsAll := in_wsA_31 _ (List.mem_of_getElem? (i := 4) rfl)
theorem q_725 : Cond.methodLink RX5 44 yX5_firstBest ∈ wsAll := in_wsA_31 _ (List.mem_of_getElem? (i := 5) rfl)
theorem q_726 : Cond.instanceMethod yX5_firstBest ∈ wsAll := in_wsA_31 _ (List.mem_of_getElem? (i := 6) rfl)
theorem q_727 : Cond.selects RX5 yX5_firstBest yX5_firstBest ∈ wsAll := in_wsA_31 _ (List.mem_of_getElem? (i := 7) rfl)
theorem q_728 : Cond.code yX5_firstBest cX5_firstBest 7 (some .int) ∈ wsAll := in_wsA_31 _ (List.mem_of_getElem? (i := 8) rfl)
theorem q_729 : Cond.constant RX5 51 (1000000) ∈ wsAll := in_wsA_31 _ (List.mem_of_getElem? (i := 9) rfl)
theorem q_730 : Cond.methodLink RX5 47 yX5_costOf ∈ wsAll := in_wsA_31 _ (List.mem_of_getElem? (i := 10) rfl)
theorem q_731 : Cond.instanceMethod yX5_costOf ∈ wsAll := in_wsA_31 _ (List.mem_of_getElem? (i := 11) rfl)
theorem q_732 : Cond.selects RX5 yX5_costOf yX5_costOf ∈ wsAll := in_wsA_31 _ (List.mem_of_getElem? (i := 12) rfl)
theorem q_733 : Cond.code yX5_costOf cX5_costOf 4 (some .int) ∈ wsAll := in_wsA_31 _ (List.mem_of_getElem? (i := 13) rfl)
theorem q_734 : Cond.methodLink RX9 190 yX5_least ∈ wsAll := in_wsA_31 _ (List.mem_of_getElem? (i := 14) rfl)
theorem q_735 : Cond.instanceMethod yX5_least ∈ wsAll := in_wsA_31 _ (List.mem_of_getElem? (i := 15) rfl)
theorem q_736 : Cond.selects RX5 yX5_least yX5_least ∈ wsAll := in_wsA_31 _ (List.mem_of_getElem? (i := 16) rfl)
theorem q_737 : Cond.code yX5_least cX5_least 1 (some .int) ∈ wsAll := in_wsA_31 _ (List.mem_of_getElem? (i := 17) rfl)
theorem q_738 : Cond.methodLink RX9 193 yX5_nurseOf ∈ wsAll := in_wsA_31 _ (List.mem_of_getElem? (i := 18) rfl)
theorem q_739 : Cond.instanceMethod yX5_nurseOf ∈ wsAll := in_wsA_31 _ (List.mem_of_getElem? (i := 19) rfl)
theorem q_740 : Cond.selects RX5 yX5_nurseOf yX5_nurseOf ∈ wsAll := in_wsA_31 _ (List.mem_of_getElem? (i := 20) rfl)
theorem q_741 : Cond.code yX5_nurseOf cX5_nurseOf 5 (some .int) ∈ wsAll := in_wsA_31 _ (List.mem_of_getElem? (i := 21) rfl)
theorem q_742 : Cond.methodLink RL 92 yX10_nurses ∈ wsAll := in_wsA_31 _ (List.mem_of_getElem? (i := 22) rfl)
theorem q_743 : Cond.instanceMethod yX10_nurses ∈ wsAll := in_wsA_31 _ (List.mem_of_getElem? (i := 23) rfl)
theorem q_744 : Cond.selects RX10 yX10_nurses yX10_nurses ∈ wsAll := in_wsA_32 _ (List.mem_of_getElem? (i := 0) rfl)
theorem q_745 : Cond.code yX10_nurses cX10_nurses 7 (some .int) ∈ wsAll := in_wsA_32 _ (List.mem_of_getElem? (i := 1) rfl)
theorem q_746 : Cond.constantLong RX10 172 (-1) ∈ wsAll := in_wsA_32 _ (List.mem_of_getElem? (i := 2) rfl)
theorem q_747 : Cond.constant RX10 171 (1000000) ∈ wsAll := in_wsA_32 _ (List.mem_of_getElem? (i := 3) rfl)
theorem q_748 : Cond.methodLink RX10 174 yX10_criedBy ∈ wsAll := in_wsA_32 _ (List.mem_of_getElem? (i := 4) rfl)
theorem q_749 : Cond.instanceMethod yX10_criedBy ∈ wsAll := in_wsA_32 _ (List.mem_of_getElem? (i := 5) rfl)
theorem q_750 : Cond.selects RX10 yX10_criedBy yX10_criedBy ∈ wsAll := in_wsA_32 _ (List.mem_of_getElem? (i := 6) rfl)
theorem q_751 : Cond.code yX10_criedBy cX10_criedBy 8 (some .int) ∈ wsAll := in_wsA_32 _ (List.mem_of_getElem? (i := 7) rfl)
theorem q_752 : Cond.methodLink RL 93 yX9_visit ∈ wsAll := in_wsA_32 _ (List.mem_of_getElem? (i := 8) rfl)
theorem q_753 : Cond.instanceMethod yX9_visit ∈ wsAll := in_wsA_32 _ (List.mem_of_getElem? (i := 9) rfl)
theorem q_754 : Cond.selects RX9 yX9_visit yX9_visit ∈ wsAll := in_wsA_32 _ (List.mem_of_getElem? (i := 10) rfl)
theorem q_755 : Cond.code yX9_visit cX9_visit 6 (some .int) ∈ wsAll := in_wsA_32 _ (List.mem_of_getElem? (i := 11) rfl)
theorem q_756 : Cond.methodLink RL 96 yX10_visit ∈ wsAll := in_wsA_32 _ (List.mem_of_getElem? (i := 12) rfl)
theorem q_757 : Cond.instanceMethod yX10_visit ∈ wsAll := in_wsA_32 _ (List.mem_of_getElem? (i := 13) rfl)
theorem q_758 : Cond.selects RX10 yX10_visit yX10_visit ∈ wsAll := in_wsA_32 _ (List.mem_of_getElem? (i := 14) rfl)
theorem q_759 : Cond.code yX10_visit cX10_visit 6 (some .int) ∈ wsAll := in_wsA_32 _ (List.mem_of_getElem? (i := 15) rfl)
theorem q_760 : Cond.methodLink RL 97 yX9_note ∈ wsAll := in_wsA_32 _ (List.mem_of_getElem? (i := 16) rfl)
theorem q_761 : Cond.instanceMethod yX9_note ∈ wsAll := in_wsA_32 _ (List.mem_of_getElem? (i := 17) rfl)
theorem q_762 : Cond.selects RX9 yX9_note yX9_note ∈ wsAll := in_wsA_32 _ (List.mem_of_getElem? (i := 18) rfl)
theorem q_763 : Cond.code yX9_note cX9_note 6 (some .int) ∈ wsAll := in_wsA_32 _ (List.mem_of_getElem? (i := 19) rfl)
theorem q_764 : Cond.fieldLink RX9 196 "PramState$Court" "notes" "I" ∈ wsAll := in_wsA_32 _ (List.mem_of_getElem? (i := 20) rfl)
theorem q_765 : Cond.methodLink RX9 199 yX1_addNote ∈ wsAll := in_wsA_32 _ (List.mem_of_getElem? (i := 21) rfl)
theorem q_766 : Cond.instanceMethod yX1_addNote ∈ wsAll := in_wsA_32 _ (List.mem_of_getElem? (i := 22) rfl)
theorem q_767 : Cond.selects RX1 yX1_addNote yX1_addNote ∈ wsAll := in_wsA_32 _ (List.mem_of_getElem? (i := 23) rfl)
theorem q_768 : Cond.code yX1_addNote cX1_addNote 7 none ∈ wsAll := in_wsA_33 _ (List.mem_of_getElem? (i := 0) rfl)
theorem q_769 : Cond.methodLink RL 101 yX10_note ∈ wsAll := in_wsA_33 _ (List.mem_of_getElem? (i := 1) rfl)
theorem q_770 : Cond.instanceMethod yX10_note ∈ wsAll := in_wsA_33 _ (List.mem_of_getElem? (i := 2) rfl)
theorem q_771 : Cond.selects RX10 yX10_note yX10_note ∈ wsAll := in_wsA_33 _ (List.mem_of_getElem? (i := 3) rfl)
theorem q_772 : Cond.code yX10_note cX10_note 7 (some .int) ∈ wsAll := in_wsA_33 _ (List.mem_of_getElem? (i := 4) rfl)
theorem q_773 : Cond.constantLong RX10 177 (20) ∈ wsAll := in_wsA_33 _ (List.mem_of_getElem? (i := 5) rfl)
theorem q_774 : Cond.methodLink RL 102 yX9_heard ∈ wsAll := in_wsA_33 _ (List.mem_of_getElem? (i := 6) rfl)
theorem q_775 : Cond.instanceMethod yX9_heard ∈ wsAll := in_wsA_33 _ (List.mem_of_getElem? (i := 7) rfl)
theorem q_776 : Cond.selects RX9 yX9_heard yX9_heard ∈ wsAll := in_wsA_33 _ (List.mem_of_getElem? (i := 8) rfl)
theorem q_777 : Cond.code yX9_heard cX9_heard 3 (some .int) ∈ wsAll := in_wsA_33 _ (List.mem_of_getElem? (i := 9) rfl)
theorem q_778 : Cond.fieldLink RX9 203 "PramState$Court" "sounds" "I" ∈ wsAll := in_wsA_33 _ (List.mem_of_getElem? (i := 10) rfl)
theorem q_779 : Cond.methodLink RX9 206 yX1_addSound ∈ wsAll := in_wsA_33 _ (List.mem_of_getElem? (i := 11) rfl)
theorem q_780 : Cond.instanceMethod yX1_addSound ∈ wsAll := in_wsA_33 _ (List.mem_of_getElem? (i := 12) rfl)
theorem q_781 : Cond.selects RX1 yX1_addSound yX1_addSound ∈ wsAll := in_wsA_33 _ (List.mem_of_getElem? (i := 13) rfl)
theorem q_782 : Cond.code yX1_addSound cX1_addSound 4 none ∈ wsAll := in_wsA_33 _ (List.mem_of_getElem? (i := 14) rfl)
theorem q_783 : Cond.methodLink RL 105 yX10_heard ∈ wsAll := in_wsA_33 _ (List.mem_of_getElem? (i := 15) rfl)
theorem q_784 : Cond.instanceMethod yX10_heard ∈ wsAll := in_wsA_33 _ (List.mem_of_getElem? (i := 16) rfl)
theorem q_785 : Cond.selects RX10 yX10_heard yX10_heard ∈ wsAll := in_wsA_33 _ (List.mem_of_getElem? (i := 17) rfl)
theorem q_786 : Cond.code yX10_heard cX10_heard 3 (some .int) ∈ wsAll := in_wsA_33 _ (List.mem_of_getElem? (i := 18) rfl)
theorem q_787 : Cond.methodLink RL 106 yX9_forget ∈ wsAll := in_wsA_33 _ (List.mem_of_getElem? (i := 19) rfl)
theorem q_788 : Cond.instanceMethod yX9_forget ∈ wsAll := in_wsA_33 _ (List.mem_of_getElem? (i := 20) rfl)
theorem q_789 : Cond.selects RX9 yX9_forget yX9_forget ∈ wsAll := in_wsA_33 _ (List.mem_of_getElem? (i := 21) rfl)
theorem q_790 : Cond.code yX9_forget cX9_forget 3 (some .int) ∈ wsAll := in_wsA_33 _ (List.mem_of_getElem? (i := 22) rfl)
theorem q_791 : Cond.methodLink RL 109 yX10_forget ∈ wsAll := in_wsA_33 _ (List.mem_of_getElem? (i := 23) rfl)
theorem q_792 : Cond.instanceMethod yX10_forget ∈ wsAll := in_wsA_34 _ (List.mem_of_getElem? (i := 0) rfl)
theorem q_793 : Cond.selects RX10 yX10_forget yX10_forget ∈ wsAll := in_wsA_34 _ (List.mem_of_getElem? (i := 1) rfl)
theorem q_794 : Cond.code yX10_forget cX10_forget 3 (some .int) ∈ wsAll := in_wsA_34 _ (List.mem_of_getElem? (i := 2) rfl)
theorem q_795 : Cond.methodLink RL 110 yX9_is ∈ wsAll := in_wsA_34 _ (List.mem_of_getElem? (i := 3) rfl)
theorem q_796 : Cond.instanceMethod yX9_is ∈ wsAll := in_wsA_34 _ (List.mem_of_getElem? (i := 4) rfl)
theorem q_797 : Cond.selects RX9 yX9_is yX9_is ∈ wsAll := in_wsA_34 _ (List.mem_of_getElem? (i := 5) rfl)
theorem q_798 : Cond.code yX9_is cX9_is 2 (some .int) ∈ wsAll := in_wsA_34 _ (List.mem_of_getElem? (i := 6) rfl)
theorem q_799 : Cond.methodLink RX9 209 yX1_kindsThatFit ∈ wsAll := in_wsA_34 _ (List.mem_of_getElem? (i := 7) rfl)
theorem q_800 : Cond.instanceMethod yX1_kindsThatFit ∈ wsAll := in_wsA_34 _ (List.mem_of_getElem? (i := 8) rfl)
theorem q_801 : Cond.selects RX1 yX1_kindsThatFit yX1_kindsThatFit ∈ wsAll := in_wsA_34 _ (List.mem_of_getElem? (i := 9) rfl)
theorem q_802 : Cond.code yX1_kindsThatFit cX1_kindsThatFit 4 (some .int) ∈ wsAll := in_wsA_34 _ (List.mem_of_getElem? (i := 10) rfl)
theorem q_803 : Cond.methodLink RX1 115 yX1_fitsNotes ∈ wsAll := in_wsA_34 _ (List.mem_of_getElem? (i := 11) rfl)
theorem q_804 : Cond.instanceMethod yX1_fitsNotes ∈ wsAll := in_wsA_34 _ (List.mem_of_getElem? (i := 12) rfl)
theorem q_805 : Cond.selects RX1 yX1_fitsNotes yX1_fitsNotes ∈ wsAll := in_wsA_34 _ (List.mem_of_getElem? (i := 13) rfl)
theorem q_806 : Cond.code yX1_fitsNotes cX1_fitsNotes 6 (some .boolean) ∈ wsAll := in_wsA_34 _ (List.mem_of_getElem? (i := 14) rfl)
theorem q_807 : Cond.methodLink RX1 118 yX1_manner ∈ wsAll := in_wsA_34 _ (List.mem_of_getElem? (i := 15) rfl)
theorem q_808 : Cond.instanceMethod yX1_manner ∈ wsAll := in_wsA_34 _ (List.mem_of_getElem? (i := 16) rfl)
theorem q_809 : Cond.selects RX1 yX1_manner yX1_manner ∈ wsAll := in_wsA_34 _ (List.mem_of_getElem? (i := 17) rfl)
theorem q_810 : Cond.code yX1_manner cX1_manner 4 (some .int) ∈ wsAll := in_wsA_34 _ (List.mem_of_getElem? (i := 18) rfl)
theorem q_811 : Cond.methodLink RL 113 yX10_is ∈ wsAll := in_wsA_34 _ (List.mem_of_getElem? (i := 19) rfl)
theorem q_812 : Cond.instanceMethod yX10_is ∈ wsAll := in_wsA_34 _ (List.mem_of_getElem? (i := 20) rfl)
theorem q_813 : Cond.selects RX10 yX10_is yX10_is ∈ wsAll := in_wsA_34 _ (List.mem_of_getElem? (i := 21) rfl)
theorem q_814 : Cond.code yX10_is cX10_is 2 (some .int) ∈ wsAll := in_wsA_34 _ (List.mem_of_getElem? (i := 22) rfl)
theorem q_815 : Cond.methodLink RX10 183 yX10_kindsOf ∈ wsAll := in_wsA_34 _ (List.mem_of_getElem? (i := 23) rfl)
theorem q_816 : Cond.instanceMethod yX10_kindsOf ∈ wsAll := in_wsA_35 _ (List.mem_of_getElem? (i := 0) rfl)
theorem q_817 : Cond.selects RX10 yX10_kindsOf yX10_kindsOf ∈ wsAll := in_wsA_35 _ (List.mem_of_getElem? (i := 1) rfl)
theorem q_818 : Cond.code yX10_kindsOf cX10_kindsOf 8 (some .int) ∈ wsAll := in_wsA_35 _ (List.mem_of_getElem? (i := 2) rfl)
theorem q_819 : Cond.methodLink RX10 179 yX10_criesThen ∈ wsAll := in_wsA_35 _ (List.mem_of_getElem? (i := 3) rfl)
theorem q_820 : Cond.static yX10_criesThen ∈ wsAll := in_wsA_35 _ (List.mem_of_getElem? (i := 4) rfl)
theorem q_821 : Cond.code yX10_criesThen cX10_criesThen 3 (some .int) ∈ wsAll := in_wsA_35 _ (List.mem_of_getElem? (i := 5) rfl)
theorem q_822 : Cond.methodLink RL 114 yX9_listen ∈ wsAll := in_wsA_35 _ (List.mem_of_getElem? (i := 6) rfl)
theorem q_823 : Cond.instanceMethod yX9_listen ∈ wsAll := in_wsA_35 _ (List.mem_of_getElem? (i := 7) rfl)
theorem q_824 : Cond.selects RX9 yX9_listen yX9_listen ∈ wsAll := in_wsA_35 _ (List.mem_of_getElem? (i := 8) rfl)
theorem q_825 : Cond.code yX9_listen cX9_listen 7 (some .int) ∈ wsAll := in_wsA_35 _ (List.mem_of_getElem? (i := 9) rfl)
theorem q_826 : Cond.methodLink RX9 212 yX1_mostAlike ∈ wsAll := in_wsA_35 _ (List.mem_of_getElem? (i := 10) rfl)
theorem q_827 : Cond.instanceMethod yX1_mostAlike ∈ wsAll := in_wsA_35 _ (List.mem_of_getElem? (i := 11) rfl)
theorem q_828 : Cond.selects RX1 yX1_mostAlike yX1_mostAlike ∈ wsAll := in_wsA_35 _ (List.mem_of_getElem? (i := 12) rfl)
theorem q_829 : Cond.code yX1_mostAlike cX1_mostAlike 8 (some .int) ∈ wsAll := in_wsA_35 _ (List.mem_of_getElem? (i := 13) rfl)
theorem q_830 : Cond.methodLink RL 117 yX10_listen ∈ wsAll := in_wsA_35 _ (List.mem_of_getElem? (i := 14) rfl)
theorem q_831 : Cond.instanceMethod yX10_listen ∈ wsAll := in_wsA_35 _ (List.mem_of_getElem? (i := 15) rfl)
theorem q_832 : Cond.selects RX10 yX10_listen yX10_listen ∈ wsAll := in_wsA_35 _ (List.mem_of_getElem? (i := 16) rfl)
theorem q_833 : Cond.code yX10_listen cX10_listen 10 (some .int) ∈ wsAll := in_wsA_35 _ (List.mem_of_getElem? (i := 17) rfl)
theorem q_834 : Cond.methodLink RX10 186 yX10_areAlike ∈ wsAll := in_wsA_35 _ (List.mem_of_getElem? (i := 18) rfl)
theorem q_835 : Cond.static yX10_areAlike ∈ wsAll := in_wsA_35 _ (List.mem_of_getElem? (i := 19) rfl)
theorem q_836 : Cond.code yX10_areAlike cX10_areAlike 4 (some .boolean) ∈ wsAll := in_wsA_35 _ (List.mem_of_getElem? (i := 20) rfl)
theorem q_837 : Cond.methodLink RL 118 yX9_which ∈ wsAll := in_wsA_35 _ (List.mem_of_getElem? (i := 21) rfl)
theorem q_838 : Cond.instanceMethod yX9_which ∈ wsAll := in_wsA_35 _ (List.mem_of_getElem? (i := 22) rfl)
theorem q_839 : Cond.selects RX9 yX9_which yX9_which ∈ wsAll := in_wsA_35 _ (List.mem_of_getElem? (i := 23) rfl)
theorem q_840 : Cond.code yX9_which cX9_which 3 (some .int) ∈ wsAll := in_wsA_36 _ (List.mem_of_getElem? (i := 0) rfl)
theorem q_841 : Cond.methodLink RX9 215 yX1_mayHaveBeen ∈ wsAll := in_wsA_36 _ (List.mem_of_getElem? (i := 1) rfl)
theorem q_842 : Cond.instanceMethod yX1_mayHaveBeen ∈ wsAll := in_wsA_36 _ (List.mem_of_getElem? (i := 2) rfl)
theorem q_843 : Cond.selects RX1 yX1_mayHaveBeen yX1_mayHaveBeen ∈ wsAll := in_wsA_36 _ (List.mem_of_getElem? (i := 3) rfl)
theorem q_844 : Cond.code yX1_mayHaveBeen cX1_mayHaveBeen 4 (some .boolean) ∈ wsAll := in_wsA_36 _ (List.mem_of_getElem? (i := 4) rfl)
theorem q_845 : Cond.methodLink RL 121 yX10_which ∈ wsAll := in_wsA_36 _ (List.mem_of_getElem? (i := 5) rfl)
theorem q_846 : Cond.instanceMethod yX10_which ∈ wsAll := in_wsA_36 _ (List.mem_of_getElem? (i := 6) rfl)
theorem q_847 : Cond.selects RX10 yX10_which yX10_which ∈ wsAll := in_wsA_36 _ (List.mem_of_getElem? (i := 7) rfl)
theorem q_848 : Cond.code yX10_which cX10_which 5 (some .int) ∈ wsAll := in_wsA_36 _ (List.mem_of_getElem? (i := 8) rfl)
theorem q_849 : Cond.methodLink RL 122 yX9_powers ∈ wsAll := in_wsA_36 _ (List.mem_of_getElem? (i := 9) rfl)
theorem q_850 : Cond.instanceMethod yX9_powers ∈ wsAll := in_wsA_36 _ (List.mem_of_getElem? (i := 10) rfl)
theorem q_851 : Cond.selects RX9 yX9_powers yX9_powers ∈ wsAll := in_wsA_36 _ (List.mem_of_getElem? (i := 11) rfl)
theorem q_852 : Cond.code yX9_powers cX9_powers 8 (some .int) ∈ wsAll := in_wsA_36 _ (List.mem_of_getElem? (i := 12) rfl)
theorem q_853 : Cond.methodLink RX9 218 yX9_contentWith ∈ wsAll := in_wsA_36 _ (List.mem_of_getElem? (i := 13) rfl)
theorem q_854 : Cond.static yX9_contentWith ∈ wsAll := in_wsA_36 _ (List.mem_of_getElem? (i := 14) rfl)
theorem q_855 : Cond.code yX9_contentWith cX9_contentWith 3 (some .boolean) ∈ wsAll := in_wsA_36 _ (List.mem_of_getElem? (i := 15) rfl)
theorem q_856 : Cond.methodLink RX9 255 yX9_gain ∈ wsAll := in_wsA_36 _ (List.mem_of_getElem? (i := 16) rfl)
theorem q_857 : Cond.static yX9_gain ∈ wsAll := in_wsA_36 _ (List.mem_of_getElem? (i := 17) rfl)
theorem q_858 : Cond.code yX9_gain cX9_gain 4 (some .int) ∈ wsAll := in_wsA_36 _ (List.mem_of_getElem? (i := 18) rfl)
theorem q_859 : Cond.methodLink RL 125 yX10_powers ∈ wsAll := in_wsA_36 _ (List.mem_of_getElem? (i := 19) rfl)
theorem q_860 : Cond.instanceMethod yX10_powers ∈ wsAll := in_wsA_36 _ (List.mem_of_getElem? (i := 20) rfl)
theorem q_861 : Cond.selects RX10 yX10_powers yX10_powers ∈ wsAll := in_wsA_36 _ (List.mem_of_getElem? (i := 21) rfl)
theorem q_862 : Cond.code yX10_powers cX10_powers 6 (some .int) ∈ wsAll := in_wsA_36 _ (List.mem_of_getElem? (i := 22) rfl)
theorem q_863 : Cond.methodLink RL 126 yX9_walks ∈ wsAll := in_wsA_36 _ (List.mem_of_getElem? (i := 23) rfl)
theorem q_864 : Cond.instanceMethod yX9_walks ∈ wsAll := in_wsA_37 _ (List.mem_of_getElem? (i := 0) rfl)
theorem q_865 : Cond.selects RX9 yX9_walks yX9_walks ∈ wsAll := in_wsA_37 _ (List.mem_of_getElem? (i := 1) rfl)
theorem q_866 : Cond.code yX9_walks cX9_walks 4 (some .int) ∈ wsAll := in_wsA_37 _ (List.mem_of_getElem? (i := 2) rfl)
theorem q_867 : Cond.methodLink RX9 221 yX9_setPower ∈ wsAll := in_wsA_37 _ (List.mem_of_getElem? (i := 3) rfl)
theorem q_868 : Cond.instanceMethod yX9_setPower ∈ wsAll := in_wsA_37 _ (List.mem_of_getElem? (i := 4) rfl)
theorem q_869 : Cond.selects RX9 yX9_setPower yX9_setPower ∈ wsAll := in_wsA_37 _ (List.mem_of_getElem? (i := 5) rfl)
theorem q_870 : Cond.code yX9_setPower cX9_setPower 5 none ∈ wsAll := in_wsA_37 _ (List.mem_of_getElem? (i := 6) rfl)
theorem q_871 : Cond.methodLink RX9 258 yX9_commonWithTen ∈ wsAll := in_wsA_37 _ (List.mem_of_getElem? (i := 7) rfl)
theorem q_872 : Cond.static yX9_commonWithTen ∈ wsAll := in_wsA_37 _ (List.mem_of_getElem? (i := 8) rfl)
theorem q_873 : Cond.code yX9_commonWithTen cX9_commonWithTen 1 (some .int) ∈ wsAll := in_wsA_37 _ (List.mem_of_getElem? (i := 9) rfl)
theorem q_874 : Cond.methodLink RL 129 yX10_walks ∈ wsAll := in_wsA_37 _ (List.mem_of_getElem? (i := 10) rfl)
theorem q_875 : Cond.instanceMethod yX10_walks ∈ wsAll := in_wsA_37 _ (List.mem_of_getElem? (i := 11) rfl)
theorem q_876 : Cond.selects RX10 yX10_walks yX10_walks ∈ wsAll := in_wsA_37 _ (List.mem_of_getElem? (i := 12) rfl)
theorem q_877 : Cond.code yX10_walks cX10_walks 9 (some .int) ∈ wsAll := in_wsA_37 _ (List.mem_of_getElem? (i := 13) rfl)
theorem q_878 : Cond.constantLong RX10 193 (10) ∈ wsAll := in_wsA_37 _ (List.mem_of_getElem? (i := 14) rfl)
theorem q_879 : Cond.methodLink RX10 195 yX10_fraction ∈ wsAll := in_wsA_37 _ (List.mem_of_getElem? (i := 15) rfl)
theorem q_880 : Cond.instanceMethod yX10_fraction ∈ wsAll := in_wsA_37 _ (List.mem_of_getElem? (i := 16) rfl)
theorem q_881 : Cond.selects RX10 yX10_fraction yX10_fraction ∈ wsAll := in_wsA_37 _ (List.mem_of_getElem? (i := 17) rfl)
theorem q_882 : Cond.code yX10_fraction cX10_fraction 11 none ∈ wsAll := in_wsA_37 _ (List.mem_of_getElem? (i := 18) rfl)
theorem q_883 : Cond.fieldLink RX10 190 "PramStateModel" "above" "J" ∈ wsAll := in_wsA_37 _ (List.mem_of_getElem? (i := 19) rfl)
theorem q_884 : Cond.methodLink RL 130 yX9_dynasties ∈ wsAll := in_wsA_37 _ (List.mem_of_getElem? (i := 20) rfl)
theorem q_885 : Cond.instanceMethod yX9_dynasties ∈ wsAll := in_wsA_37 _ (List.mem_of_getElem? (i := 21) rfl)
theorem q_886 : Cond.selects RX9 yX9_dynasties yX9_dynasties ∈ wsAll := in_wsA_37 _ (List.mem_of_getElem? (i := 22) rfl)
theorem q_887 : Cond.code yX9_dynasties cX9_dynasties 11 (some .int) ∈ wsAll := in_wsA_37 _ (List.mem_of_getElem? (i := 23) rfl)
theorem q_888 : Cond.constant RX9 224 (999999) ∈ wsAll := in_wsA_38 _ (List.mem_of_getElem? (i := 0) rfl)
theorem q_889 : Cond.constantLong RX9 225 (1103515245) ∈ wsAll := in_wsA_38 _ (List.mem_of_getElem? (i := 1) rfl)
theorem q_890 : Cond.constantLong RX9 227 (12345) ∈ wsAll := in_wsA_38 _ (List.mem_of_getElem? (i := 2) rfl)
theorem q_891 : Cond.constantLong RX9 229 (2147483648) ∈ wsAll := in_wsA_38 _ (List.mem_of_getElem? (i := 3) rfl)
theorem q_892 : Cond.constantLong RX9 231 (65536) ∈ wsAll := in_wsA_38 _ (List.mem_of_getElem? (i := 4) rfl)
theorem q_893 : Cond.constantLong RX9 233 (36) ∈ wsAll := in_wsA_38 _ (List.mem_of_getElem? (i := 5) rfl)
theorem q_894 : Cond.methodLink RL 133 yX10_dynasties ∈ wsAll := in_wsA_38 _ (List.mem_of_getElem? (i := 6) rfl)
theorem q_895 : Cond.instanceMethod yX10_dynasties ∈ wsAll := in_wsA_38 _ (List.mem_of_getElem? (i := 7) rfl)
theorem q_896 : Cond.selects RX10 yX10_dynasties yX10_dynasties ∈ wsAll := in_wsA_38 _ (List.mem_of_getElem? (i := 8) rfl)
theorem q_897 : Cond.code yX10_dynasties cX10_dynasties 8 (some .int) ∈ wsAll := in_wsA_38 _ (List.mem_of_getElem? (i := 9) rfl)
theorem q_898 : Cond.constantLong RX10 199 (999999) ∈ wsAll := in_wsA_38 _ (List.mem_of_getElem? (i := 10) rfl)
theorem q_899 : Cond.constantLong RX10 201 (1103515245) ∈ wsAll := in_wsA_38 _ (List.mem_of_getElem? (i := 11) rfl)
theorem q_900 : Cond.constantLong RX10 203 (12345) ∈ wsAll := in_wsA_38 _ (List.mem_of_getElem? (i := 12) rfl)
theorem q_901 : Cond.constantLong RX10 205 (2147483648) ∈ wsAll := in_wsA_38 _ (List.mem_of_getElem? (i := 13) rfl)
theorem q_902 : Cond.constantLong RX10 207 (65536) ∈ wsAll := in_wsA_38 _ (List.mem_of_getElem? (i := 14) rfl)
theorem q_903 : Cond.constantLong RX10 209 (36) ∈ wsAll := in_wsA_38 _ (List.mem_of_getElem? (i := 15) rfl)
theorem q_904 : Cond.methodLink RL 134 yX9_part ∈ wsAll := in_wsA_38 _ (List.mem_of_getElem? (i := 16) rfl)
theorem q_905 : Cond.instanceMethod yX9_part ∈ wsAll := in_wsA_38 _ (List.mem_of_getElem? (i := 17) rfl)
theorem q_906 : Cond.selects RX9 yX9_part yX9_part ∈ wsAll := in_wsA_38 _ (List.mem_of_getElem? (i := 18) rfl)
theorem q_907 : Cond.code yX9_part cX9_part 2 (some .long) ∈ wsAll := in_wsA_38 _ (List.mem_of_getElem? (i := 19) rfl)
theorem q_908 : Cond.methodLink RL 138 yX10_part ∈ wsAll := in_wsA_38 _ (List.mem_of_getElem? (i := 20) rfl)
theorem q_909 : Cond.instanceMethod yX10_part ∈ wsAll := in_wsA_38 _ (List.mem_of_getElem? (i := 21) rfl)
theorem q_910 : Cond.selects RX10 yX10_part yX10_part ∈ wsAll := in_wsA_38 _ (List.mem_of_getElem? (i := 22) rfl)
theorem q_911 : Cond.code yX10_part cX10_part 2 (some .long) ∈ wsAll := in_wsA_38 _ (List.mem_of_getElem? (i := 23) rfl)
theorem q_912 : Cond.methodLink RL 139 yX9_image ∈ wsAll := in_wsA_39 _ (List.mem_of_getElem? (i := 0) rfl)
theorem q_913 : Cond.instanceMethod yX9_image ∈ wsAll := in_wsA_39 _ (List.mem_of_getElem? (i := 1) rfl)
theorem q_914 : Cond.selects RX9 yX9_image yX9_image ∈ wsAll := in_wsA_39 _ (List.mem_of_getElem? (i := 2) rfl)
theorem q_915 : Cond.code yX9_image cX9_image 2 (some .int) ∈ wsAll := in_wsA_39 _ (List.mem_of_getElem? (i := 3) rfl)
theorem q_916 : Cond.methodLink RL 142 yX10_image ∈ wsAll := in_wsA_39 _ (List.mem_of_getElem? (i := 4) rfl)
theorem q_917 : Cond.instanceMethod yX10_image ∈ wsAll := in_wsA_39 _ (List.mem_of_getElem? (i := 5) rfl)
theorem q_918 : Cond.selects RX10 yX10_image yX10_image ∈ wsAll := in_wsA_39 _ (List.mem_of_getElem? (i := 6) rfl)
theorem q_919 : Cond.code yX10_image cX10_image 3 (some .int) ∈ wsAll := in_wsA_39 _ (List.mem_of_getElem? (i := 7) rfl)
theorem q_920 : Cond.methodLink RL 143 yX9_from ∈ wsAll := in_wsA_39 _ (List.mem_of_getElem? (i := 8) rfl)
theorem q_921 : Cond.instanceMethod yX9_from ∈ wsAll := in_wsA_39 _ (List.mem_of_getElem? (i := 9) rfl)
theorem q_922 : Cond.selects RX9 yX9_from yX9_from ∈ wsAll := in_wsA_39 _ (List.mem_of_getElem? (i := 10) rfl)
theorem q_923 : Cond.code yX9_from cX9_from 2 (some .int) ∈ wsAll := in_wsA_39 _ (List.mem_of_getElem? (i := 11) rfl)
theorem q_924 : Cond.methodLink RL 146 yX10_from ∈ wsAll := in_wsA_39 _ (List.mem_of_getElem? (i := 12) rfl)
theorem q_925 : Cond.instanceMethod yX10_from ∈ wsAll := in_wsA_39 _ (List.mem_of_getElem? (i := 13) rfl)
theorem q_926 : Cond.selects RX10 yX10_from yX10_from ∈ wsAll := in_wsA_39 _ (List.mem_of_getElem? (i := 14) rfl)
theorem q_927 : Cond.code yX10_from cX10_from 3 (some .int) ∈ wsAll := in_wsA_39 _ (List.mem_of_getElem? (i := 15) rfl)
theorem q_928 : Cond.methodLink RL 147 yX9_status ∈ wsAll := in_wsA_39 _ (List.mem_of_getElem? (i := 16) rfl)
theorem q_929 : Cond.instanceMethod yX9_status ∈ wsAll := in_wsA_39 _ (List.mem_of_getElem? (i := 17) rfl)
theorem q_930 : Cond.selects RX9 yX9_status yX9_status ∈ wsAll := in_wsA_39 _ (List.mem_of_getElem? (i := 18) rfl)
theorem q_931 : Cond.code yX9_status cX9_status 2 (some .int) ∈ wsAll := in_wsA_39 _ (List.mem_of_getElem? (i := 19) rfl)
theorem q_932 : Cond.methodLink RL 150 yX10_status ∈ wsAll := in_wsA_39 _ (List.mem_of_getElem? (i := 20) rfl)
theorem q_933 : Cond.instanceMethod yX10_status ∈ wsAll := in_wsA_39 _ (List.mem_of_getElem? (i := 21) rfl)
theorem q_934 : Cond.selects RX10 yX10_status yX10_status ∈ wsAll := in_wsA_39 _ (List.mem_of_getElem? (i := 22) rfl)
theorem q_935 : Cond.code yX10_status cX10_status 2 (some .int) ∈ wsAll := in_wsA_39 _ (List.mem_of_getElem? (i := 23) rfl)
theorem q_936 : Cond.constantLong RX10 269 (2) ∈ wsAll := in_wsA_40 _ (List.mem_of_getElem? (i := 0) rfl)
theorem q_937 : Cond.methodLink RL 151 yX9_count ∈ wsAll := in_wsA_40 _ (List.mem_of_getElem? (i := 1) rfl)
theorem q_938 : Cond.instanceMethod yX9_count ∈ wsAll := in_wsA_40 _ (List.mem_of_getElem? (i := 2) rfl)
theorem q_939 : Cond.selects RX9 yX9_count yX9_count ∈ wsAll := in_wsA_40 _ (List.mem_of_getElem? (i := 3) rfl)
theorem q_940 : Cond.code yX9_count cX9_count 2 (some .int) ∈ wsAll := in_wsA_40 _ (List.mem_of_getElem? (i := 4) rfl)
theorem q_941 : Cond.methodLink RX9 244 yX9_tally ∈ wsAll := in_wsA_40 _ (List.mem_of_getElem? (i := 5) rfl)
theorem q_942 : Cond.instanceMethod yX9_tally ∈ wsAll := in_wsA_40 _ (List.mem_of_getElem? (i := 6) rfl)
theorem q_943 : Cond.selects RX9 yX9_tally yX9_tally ∈ wsAll := in_wsA_40 _ (List.mem_of_getElem? (i := 7) rfl)
theorem q_944 : Cond.code yX9_tally cX9_tally 2 (some .int) ∈ wsAll := in_wsA_40 _ (List.mem_of_getElem? (i := 8) rfl)
theorem q_945 : Cond.methodLink RL 154 yX10_count ∈ wsAll := in_wsA_40 _ (List.mem_of_getElem? (i := 9) rfl)
theorem q_946 : Cond.instanceMethod yX10_count ∈ wsAll := in_wsA_40 _ (List.mem_of_getElem? (i := 10) rfl)
theorem q_947 : Cond.selects RX10 yX10_count yX10_count ∈ wsAll := in_wsA_40 _ (List.mem_of_getElem? (i := 11) rfl)
theorem q_948 : Cond.code yX10_count cX10_count 2 (some .int) ∈ wsAll := in_wsA_40 _ (List.mem_of_getElem? (i := 12) rfl)
theorem q_949 : Cond.methodLink RX10 271 yX10_counted ∈ wsAll := in_wsA_40 _ (List.mem_of_getElem? (i := 13) rfl)
theorem q_950 : Cond.instanceMethod yX10_counted ∈ wsAll := in_wsA_40 _ (List.mem_of_getElem? (i := 14) rfl)
theorem q_951 : Cond.selects RX10 yX10_counted yX10_counted ∈ wsAll := in_wsA_40 _ (List.mem_of_getElem? (i := 15) rfl)
theorem q_952 : Cond.code yX10_counted cX10_counted 2 (some .int) ∈ wsAll := in_wsA_40 _ (List.mem_of_getElem? (i := 16) rfl)
theorem q_953 : Cond.methodLink RL 155 yX9_digest ∈ wsAll := in_wsA_40 _ (List.mem_of_getElem? (i := 17) rfl)
theorem q_954 : Cond.instanceMethod yX9_digest ∈ wsAll := in_wsA_40 _ (List.mem_of_getElem? (i := 18) rfl)
theorem q_955 : Cond.selects RX9 yX9_digest yX9_digest ∈ wsAll := in_wsA_40 _ (List.mem_of_getElem? (i := 19) rfl)
theorem q_956 : Cond.code yX9_digest cX9_digest 4 (some .long) ∈ wsAll := in_wsA_40 _ (List.mem_of_getElem? (i := 20) rfl)
theorem q_957 : Cond.constantLong RX9 247 (1423) ∈ wsAll := in_wsA_40 _ (List.mem_of_getElem? (i := 21) rfl)
theorem q_958 : Cond.constantLong RX9 249 (31) ∈ wsAll := in_wsA_40 _ (List.mem_of_getElem? (i := 22) rfl)
theorem q_959 : Cond.methodLink RX9 251 yX1_digestFrom ∈ wsAll := in_wsA_40 _ (List.mem_of_getElem? (i := 23) rfl)
theorem q_960 : Cond.instanceMethod yX1_digestFrom ∈ wsAll := in_wsA_41 _ (List.mem_of_getElem? (i := 0) rfl)
theorem q_961 : Cond.selects RX1 yX1_digestFrom yX1_digestFrom ∈ wsAll := in_wsA_41 _ (List.mem_of_getElem? (i := 1) rfl)
theorem q_962 : Cond.code yX1_digestFrom cX1_digestFrom 6 (some .long) ∈ wsAll := in_wsA_41 _ (List.mem_of_getElem? (i := 2) rfl)
theorem q_963 : Cond.constantLong RX1 121 (31) ∈ wsAll := in_wsA_41 _ (List.mem_of_getElem? (i := 3) rfl)
theorem q_964 : Cond.methodLink RL 159 yX10_digest ∈ wsAll := in_wsA_41 _ (List.mem_of_getElem? (i := 4) rfl)
theorem q_965 : Cond.instanceMethod yX10_digest ∈ wsAll := in_wsA_41 _ (List.mem_of_getElem? (i := 5) rfl)
theorem q_966 : Cond.selects RX10 yX10_digest yX10_digest ∈ wsAll := in_wsA_41 _ (List.mem_of_getElem? (i := 6) rfl)
theorem q_967 : Cond.code yX10_digest cX10_digest 4 (some .long) ∈ wsAll := in_wsA_41 _ (List.mem_of_getElem? (i := 7) rfl)
theorem q_968 : Cond.constantLong RX10 276 (1423) ∈ wsAll := in_wsA_41 _ (List.mem_of_getElem? (i := 8) rfl)
theorem q_969 : Cond.constantLong RX10 274 (31) ∈ wsAll := in_wsA_41 _ (List.mem_of_getElem? (i := 9) rfl)
theorem q_970 : Cond.methodLink RX10 278 yX10_sums ∈ wsAll := in_wsA_41 _ (List.mem_of_getElem? (i := 10) rfl)
theorem q_971 : Cond.instanceMethod yX10_sums ∈ wsAll := in_wsA_41 _ (List.mem_of_getElem? (i := 11) rfl)
theorem q_972 : Cond.selects RX10 yX10_sums yX10_sums ∈ wsAll := in_wsA_41 _ (List.mem_of_getElem? (i := 12) rfl)
theorem q_973 : Cond.code yX10_sums cX10_sums 8 (some .long) ∈ wsAll := in_wsA_41 _ (List.mem_of_getElem? (i := 13) rfl)
theorem q_974 : Cond.methodLink RX0 7 ⟨"PramState$Twin", "sleepsIn", "(I)Z"⟩ ∈ wsAll := in_wsA_41 _ (List.mem_of_getElem? (i := 14) rfl)
theorem q_975 : Cond.sameMethod "PramState$Twin" "PramState$Plain" "sleepsIn" "(I)Z" ∈ wsAll := in_wsA_41 _ (List.mem_of_getElem? (i := 15) rfl)
