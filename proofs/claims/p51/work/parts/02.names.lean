/-! ===== BEGIN printed: names, fields, word lists, decode rows ===== -/
def RX0 : String := "Calendaract$Reckoning"
def TX0 : u_T := fun k => match k with
  | _ => ("", "", "", false)
def tyX0 : Nat → FieldType := fun k => match k with
  | _ => .int
abbrev wsX00 : List Cond := u_ws RX0 TX0 0
theorem nmX0 : ∀ a, a < 0 → ∀ b, b < 0 → a ≠ b → (TX0 a).2.1 ≠ (TX0 b).2.1 := by decide +kernel
theorem tyX0_ok : ∀ k, k < 0 → parseFieldDescriptor (TX0 k).2.2.1 = some (tyX0 k) := by decide +kernel
abbrev cX0_isLeap : ByteArray := prog_2_method_2_code
def yX0_isLeap : MethodName := ⟨RX0, "isLeap", "(I)Z"⟩
abbrev cX0_yearOfMonth : ByteArray := prog_2_method_3_code
def yX0_yearOfMonth : MethodName := ⟨RX0, "yearOfMonth", "(I)I"⟩
abbrev cX0_monthInYear : ByteArray := prog_2_method_4_code
def yX0_monthInYear : MethodName := ⟨RX0, "monthInYear", "(I)I"⟩
abbrev cX0_firstOf : ByteArray := prog_2_method_5_code
def yX0_firstOf : MethodName := ⟨RX0, "firstOf", "(I)I"⟩
abbrev cX0_lengthOf : ByteArray := prog_2_method_6_code
def yX0_lengthOf : MethodName := ⟨RX0, "lengthOf", "(I)I"⟩
abbrev cX0_monthOf : ByteArray := prog_2_method_7_code
def yX0_monthOf : MethodName := ⟨RX0, "monthOf", "(I)I"⟩
abbrev cX0_yearOf : ByteArray := prog_2_method_8_code
def yX0_yearOf : MethodName := ⟨RX0, "yearOf", "(I)I"⟩
abbrev cX0_dayOf : ByteArray := prog_2_method_9_code
def yX0_dayOf : MethodName := ⟨RX0, "dayOf", "(I)I"⟩
abbrev cX0_weekdayOf : ByteArray := prog_2_method_10_code
def yX0_weekdayOf : MethodName := ⟨RX0, "weekdayOf", "(I)I"⟩
abbrev cX0_dateIn : ByteArray := prog_2_method_11_code
def yX0_dateIn : MethodName := ⟨RX0, "dateIn", "(II)I"⟩
abbrev cX0_shifted : ByteArray := prog_2_method_12_code
def yX0_shifted : MethodName := ⟨RX0, "shifted", "(II)I"⟩
abbrev cX0_lossOf : ByteArray := prog_2_method_13_code
def yX0_lossOf : MethodName := ⟨RX0, "lossOf", "(II)I"⟩
abbrev cX0_comesBack : ByteArray := prog_2_method_14_code
def yX0_comesBack : MethodName := ⟨RX0, "comesBack", "(II)Z"⟩
abbrev cX0_monthsFirst : ByteArray := prog_2_method_15_code
def yX0_monthsFirst : MethodName := ⟨RX0, "monthsFirst", "(III)I"⟩
abbrev cX0_daysFirst : ByteArray := prog_2_method_16_code
def yX0_daysFirst : MethodName := ⟨RX0, "daysFirst", "(III)I"⟩
abbrev cX0_monthsUntil : ByteArray := prog_2_method_17_code
def yX0_monthsUntil : MethodName := ⟨RX0, "monthsUntil", "(II)I"⟩
abbrev cX0_anniversary : ByteArray := prog_2_method_18_code
def yX0_anniversary : MethodName := ⟨RX0, "anniversary", "(IIZ)I"⟩
abbrev cX0_anniversariesUntil : ByteArray := prog_2_method_19_code
def yX0_anniversariesUntil : MethodName := ⟨RX0, "anniversariesUntil", "(IIZ)I"⟩
abbrev cX0_isToldAnew : ByteArray := prog_2_method_20_code
def yX0_isToldAnew : MethodName := ⟨RX0, "isToldAnew", "(I)Z"⟩
abbrev cX0_isSoundByCycles : ByteArray := prog_2_method_21_code
def yX0_isSoundByCycles : MethodName := ⟨RX0, "isSoundByCycles", "(I)Z"⟩
abbrev cX0_isSoundByMonths : ByteArray := prog_2_method_22_code
def yX0_isSoundByMonths : MethodName := ⟨RX0, "isSoundByMonths", "(I)Z"⟩
abbrev cX0_isSoundPair : ByteArray := prog_2_method_23_code
def yX0_isSoundPair : MethodName := ⟨RX0, "isSoundPair", "(II)Z"⟩
def RX1 : String := "Calendaract"
def TX1 : u_T := fun k => match k with
  | 0 => ("Calendaract", "dates", "[I", true)
  | 1 => ("Calendaract", "spanYears", "[I", true)
  | 2 => ("Calendaract", "spanMonths", "[I", true)
  | 3 => ("Calendaract", "spanDays", "[I", true)
  | 4 => ("Calendaract", "writing", "Ljava/lang/StringBuilder;", true)
  | 5 => ("Calendaract", "becomings", "I", false)
  | 6 => ("Calendaract", "refusals", "I", false)
  | _ => ("Calendaract", "knocks", "I", false)
def tyX1 : Nat → FieldType := fun k => match k with
  | 0 => .array .int
  | 1 => .array .int
  | 2 => .array .int
  | 3 => .array .int
  | 4 => .object "java/lang/StringBuilder"
  | 5 => .int
  | 6 => .int
  | _ => .int
abbrev wsX10 : List Cond := u_ws RX1 TX1 8
theorem nmX1 : ∀ a, a < 8 → ∀ b, b < 8 → a ≠ b → (TX1 a).2.1 ≠ (TX1 b).2.1 := by decide +kernel
theorem tyX1_ok : ∀ k, k < 8 → parseFieldDescriptor (TX1 k).2.2.1 = some (tyX1 k) := by decide +kernel
abbrev cX1_init : ByteArray := prog_1_method_1_code
def yX1_init : MethodName := ⟨RX1, "<init>", "()V"⟩
abbrev cX1_of : ByteArray := prog_1_method_2_code
def yX1_of : MethodName := ⟨RX1, "of", "(IIII)I"⟩
abbrev cX1_ofDay : ByteArray := prog_1_method_3_code
def yX1_ofDay : MethodName := ⟨RX1, "ofDay", "(II)I"⟩
abbrev cX1_ofMonth : ByteArray := prog_1_method_4_code
def yX1_ofMonth : MethodName := ⟨RX1, "ofMonth", "(III)I"⟩
abbrev cX1_copy : ByteArray := prog_1_method_5_code
def yX1_copy : MethodName := ⟨RX1, "copy", "(II)I"⟩
abbrev cX1_first : ByteArray := prog_1_method_6_code
def yX1_first : MethodName := ⟨RX1, "first", "(I)I"⟩
abbrev cX1_last : ByteArray := prog_1_method_7_code
def yX1_last : MethodName := ⟨RX1, "last", "(I)I"⟩
abbrev cX1_withDay : ByteArray := prog_1_method_8_code
def yX1_withDay : MethodName := ⟨RX1, "withDay", "(II)I"⟩
abbrev cX1_shift : ByteArray := prog_1_method_9_code
def yX1_shift : MethodName := ⟨RX1, "shift", "(II)I"⟩
abbrev cX1_shiftYears : ByteArray := prog_1_method_10_code
def yX1_shiftYears : MethodName := ⟨RX1, "shiftYears", "(II)I"⟩
abbrev cX1_days : ByteArray := prog_1_method_11_code
def yX1_days : MethodName := ⟨RX1, "days", "(II)I"⟩
abbrev cX1_cycles : ByteArray := prog_1_method_12_code
def yX1_cycles : MethodName := ⟨RX1, "cycles", "(II)I"⟩
abbrev cX1_act : ByteArray := prog_1_method_13_code
def yX1_act : MethodName := ⟨RX1, "act", "(IIZZ)I"⟩
abbrev cX1_actOften : ByteArray := prog_1_method_14_code
def yX1_actOften : MethodName := ⟨RX1, "actOften", "(III)I"⟩
abbrev cX1_span : ByteArray := prog_1_method_15_code
def yX1_span : MethodName := ⟨RX1, "span", "(IIII)I"⟩
abbrev cX1_until : ByteArray := prog_1_method_16_code
def yX1_until : MethodName := ⟨RX1, "until", "(III)I"⟩
abbrev cX1_addSpan : ByteArray := prog_1_method_17_code
def yX1_addSpan : MethodName := ⟨RX1, "addSpan", "(II)I"⟩
abbrev cX1_turnSpan : ByteArray := prog_1_method_18_code
def yX1_turnSpan : MethodName := ⟨RX1, "turnSpan", "(I)I"⟩
abbrev cX1_ofSpan : ByteArray := prog_1_method_19_code
def yX1_ofSpan : MethodName := ⟨RX1, "ofSpan", "(II)I"⟩
abbrev cX1_isKept : ByteArray := prog_1_method_20_code
def yX1_isKept : MethodName := ⟨RX1, "isKept", "(II)Z"⟩
abbrev cX1_loss : ByteArray := prog_1_method_21_code
def yX1_loss : MethodName := ⟨RX1, "loss", "(II)I"⟩
abbrev cX1_leadsBack : ByteArray := prog_1_method_22_code
def yX1_leadsBack : MethodName := ⟨RX1, "leadsBack", "(II)Z"⟩
abbrev cX1_twice : ByteArray := prog_1_method_23_code
def yX1_twice : MethodName := ⟨RX1, "twice", "(III)I"⟩
abbrev cX1_gap : ByteArray := prog_1_method_24_code
def yX1_gap : MethodName := ⟨RX1, "gap", "(III)I"⟩
abbrev cX1_lowest : ByteArray := prog_1_method_25_code
def yX1_lowest : MethodName := ⟨RX1, "lowest", "(III)I"⟩
abbrev cX1_met : ByteArray := prog_1_method_26_code
def yX1_met : MethodName := ⟨RX1, "met", "(III)Ljava/lang/String;"⟩
abbrev cX1_keeps : ByteArray := prog_1_method_27_code
def yX1_keeps : MethodName := ⟨RX1, "keeps", "(II)I"⟩
abbrev cX1_month : ByteArray := prog_1_method_28_code
def yX1_month : MethodName := ⟨RX1, "month", "(I)I"⟩
abbrev cX1_ofMonthNumber : ByteArray := prog_1_method_29_code
def yX1_ofMonthNumber : MethodName := ⟨RX1, "ofMonthNumber", "(II)I"⟩
abbrev cX1_lengths : ByteArray := prog_1_method_30_code
def yX1_lengths : MethodName := ⟨RX1, "lengths", "(II)I"⟩
abbrev cX1_weekday : ByteArray := prog_1_method_31_code
def yX1_weekday : MethodName := ⟨RX1, "weekday", "(I)I"⟩
abbrev cX1_nth : ByteArray := prog_1_method_32_code
def yX1_nth : MethodName := ⟨RX1, "nth", "(III)I"⟩
abbrev cX1_inYear : ByteArray := prog_1_method_33_code
def yX1_inYear : MethodName := ⟨RX1, "inYear", "(III)I"⟩
abbrev cX1_recurs : ByteArray := prog_1_method_34_code
def yX1_recurs : MethodName := ⟨RX1, "recurs", "(III)I"⟩
abbrev cX1_age : ByteArray := prog_1_method_35_code
def yX1_age : MethodName := ⟨RX1, "age", "(II)I"⟩
abbrev cX1_anniversaries : ByteArray := prog_1_method_36_code
def yX1_anniversaries : MethodName := ⟨RX1, "anniversaries", "(IIZ)I"⟩
abbrev cX1_toNext : ByteArray := prog_1_method_37_code
def yX1_toNext : MethodName := ⟨RX1, "toNext", "(IIZ)I"⟩
abbrev cX1_wholeMonths : ByteArray := prog_1_method_38_code
def yX1_wholeMonths : MethodName := ⟨RX1, "wholeMonths", "(II)I"⟩
abbrev cX1_year : ByteArray := prog_1_method_39_code
def yX1_year : MethodName := ⟨RX1, "year", "(I)I"⟩
abbrev cX1_monthOfYear : ByteArray := prog_1_method_40_code
def yX1_monthOfYear : MethodName := ⟨RX1, "monthOfYear", "(I)I"⟩
abbrev cX1_day : ByteArray := prog_1_method_41_code
def yX1_day : MethodName := ⟨RX1, "day", "(I)I"⟩
abbrev cX1_dayOfYear : ByteArray := prog_1_method_42_code
def yX1_dayOfYear : MethodName := ⟨RX1, "dayOfYear", "(I)I"⟩
abbrev cX1_number : ByteArray := prog_1_method_43_code
def yX1_number : MethodName := ⟨RX1, "number", "(I)I"⟩
abbrev cX1_lengthOfMonth : ByteArray := prog_1_method_44_code
def yX1_lengthOfMonth : MethodName := ⟨RX1, "lengthOfMonth", "(I)I"⟩
abbrev cX1_isLeapYear : ByteArray := prog_1_method_45_code
def yX1_isLeapYear : MethodName := ⟨RX1, "isLeapYear", "(I)Z"⟩
abbrev cX1_text : ByteArray := prog_1_method_46_code
def yX1_text : MethodName := ⟨RX1, "text", "(I)Ljava/lang/String;"⟩
abbrev cX1_compare : ByteArray := prog_1_method_47_code
def yX1_compare : MethodName := ⟨RX1, "compare", "(II)I"⟩
abbrev cX1_between : ByteArray := prog_1_method_48_code
def yX1_between : MethodName := ⟨RX1, "between", "(II)I"⟩
abbrev cX1_house : ByteArray := prog_1_method_49_code
def yX1_house : MethodName := ⟨RX1, "house", "(I)I"⟩
abbrev cX1_knock : ByteArray := prog_1_method_50_code
def yX1_knock : MethodName := ⟨RX1, "knock", "()I"⟩
abbrev cX1_isSound : ByteArray := prog_1_method_51_code
def yX1_isSound : MethodName := ⟨RX1, "isSound", "()Z"⟩
abbrev cX1_digest : ByteArray := prog_1_method_52_code
def yX1_digest : MethodName := ⟨RX1, "digest", "()J"⟩
abbrev cX1_withDate : ByteArray := prog_1_method_53_code
def yX1_withDate : MethodName := ⟨RX1, "withDate", "(JI)J"⟩
abbrev cX1_withShifts : ByteArray := prog_1_method_54_code
def yX1_withShifts : MethodName := ⟨RX1, "withShifts", "(JI)J"⟩
abbrev cX1_put : ByteArray := prog_1_method_55_code
def yX1_put : MethodName := ⟨RX1, "put", "(II)I"⟩
abbrev cX1_putSpan : ByteArray := prog_1_method_56_code
def yX1_putSpan : MethodName := ⟨RX1, "putSpan", "(IIII)V"⟩
abbrev cX1_monthsInAll : ByteArray := prog_1_method_57_code
def yX1_monthsInAll : MethodName := ⟨RX1, "monthsInAll", "(I)I"⟩
abbrev cX1_refuse : ByteArray := prog_1_method_58_code
def yX1_refuse : MethodName := ⟨RX1, "refuse", "()I"⟩
abbrev cX1_isRefused : ByteArray := prog_1_method_59_code
def yX1_isRefused : MethodName := ⟨RX1, "isRefused", "(II)Z"⟩
abbrev cX1_unlikeDates : ByteArray := prog_1_method_60_code
def yX1_unlikeDates : MethodName := ⟨RX1, "unlikeDates", "()I"⟩
abbrev cX1_isMetBefore : ByteArray := prog_1_method_61_code
def yX1_isMetBefore : MethodName := ⟨RX1, "isMetBefore", "(I)Z"⟩
abbrev cX1_writeTwoDigits : ByteArray := prog_1_method_62_code
def yX1_writeTwoDigits : MethodName := ⟨RX1, "writeTwoDigits", "(I)V"⟩
abbrev cX1_needPlace : ByteArray := prog_1_method_63_code
def yX1_needPlace : MethodName := ⟨RX1, "needPlace", "(I)V"⟩
abbrev cX1_needSpan : ByteArray := prog_1_method_64_code
def yX1_needSpan : MethodName := ⟨RX1, "needSpan", "(I)V"⟩
abbrev cX1_needWithin : ByteArray := prog_1_method_65_code
def yX1_needWithin : MethodName := ⟨RX1, "needWithin", "(III)V"⟩
abbrev cX1_needMonth : ByteArray := prog_1_method_66_code
def yX1_needMonth : MethodName := ⟨RX1, "needMonth", "(I)V"⟩
abbrev cX1_needMonths : ByteArray := prog_1_method_67_code
def yX1_needMonths : MethodName := ⟨RX1, "needMonths", "(I)V"⟩
abbrev cX1_needDayOfMonth : ByteArray := prog_1_method_68_code
def yX1_needDayOfMonth : MethodName := ⟨RX1, "needDayOfMonth", "(II)V"⟩
abbrev cX1_needDate : ByteArray := prog_1_method_69_code
def yX1_needDate : MethodName := ⟨RX1, "needDate", "(I)V"⟩
abbrev cX1_needNotAhead : ByteArray := prog_1_method_70_code
def yX1_needNotAhead : MethodName := ⟨RX1, "needNotAhead", "(II)V"⟩
abbrev cX1_needOfSpan : ByteArray := prog_1_method_71_code
def yX1_needOfSpan : MethodName := ⟨RX1, "needOfSpan", "(II)V"⟩
def RX2 : String := "CalendaractLaw$Out"
def TX2 : u_T := fun k => match k with
  | 0 => ("CalendaractLaw$Out", "n", "J", false)
  | _ => ("CalendaractLaw$Out", "s", "Ljava/lang/String;", false)
def tyX2 : Nat → FieldType := fun k => match k with
  | 0 => .long
  | _ => .object "java/lang/String"
abbrev wsX20 : List Cond := u_ws RX2 TX2 2
theorem nmX2 : ∀ a, a < 2 → ∀ b, b < 2 → a ≠ b → (TX2 a).2.1 ≠ (TX2 b).2.1 := by decide +kernel
theorem tyX2_ok : ∀ k, k < 2 → parseFieldDescriptor (TX2 k).2.2.1 = some (tyX2 k) := by decide +kernel
abbrev cX2_init : ByteArray := prog_4_method_1_code
def yX2_init : MethodName := ⟨RX2, "<init>", "()V"⟩
def RX3 : String := "CalendaractModel"
def TX3 : u_T := fun k => match k with
  | 0 => ("CalendaractModel", "thrown", "I", false)
  | 1 => ("CalendaractModel", "done", "I", false)
  | 2 => ("CalendaractModel", "refused", "I", false)
  | 3 => ("CalendaractModel", "knocks", "I", false)
  | 4 => ("CalendaractModel", "dates", "[[I", true)
  | _ => ("CalendaractModel", "spans", "[[I", true)
def tyX3 : Nat → FieldType := fun k => match k with
  | 0 => .int
  | 1 => .int
  | 2 => .int
  | 3 => .int
  | 4 => .array (.array .int)
  | _ => .array (.array .int)
abbrev wsX30 : List Cond := u_ws RX3 TX3 6
theorem nmX3 : ∀ a, a < 6 → ∀ b, b < 6 → a ≠ b → (TX3 a).2.1 ≠ (TX3 b).2.1 := by decide +kernel
theorem tyX3_ok : ∀ k, k < 6 → parseFieldDescriptor (TX3 k).2.2.1 = some (tyX3 k) := by decide +kernel
abbrev cX3_init : ByteArray := prog_5_method_1_code
def yX3_init : MethodName := ⟨RX3, "<init>", "()V"⟩
abbrev cX3_fails : ByteArray := prog_5_method_3_code
def yX3_fails : MethodName := ⟨RX3, "fails", "(ZZZ)Z"⟩
abbrev cX3_isOut : ByteArray := prog_5_method_4_code
def yX3_isOut : MethodName := ⟨RX3, "isOut", "(III)Z"⟩
abbrev cX3_isNo : ByteArray := prog_5_method_5_code
def yX3_isNo : MethodName := ⟨RX3, "isNo", "(I)Z"⟩
abbrev cX3_isNoSpan : ByteArray := prog_5_method_6_code
def yX3_isNoSpan : MethodName := ⟨RX3, "isNoSpan", "(I)Z"⟩
abbrev cX3_areNo : ByteArray := prog_5_method_7_code
def yX3_areNo : MethodName := ⟨RX3, "areNo", "(II)Z"⟩
abbrev cX3_one : ByteArray := prog_5_method_8_code
def yX3_one : MethodName := ⟨RX3, "one", "(Z)I"⟩
abbrev cX3_down : ByteArray := prog_5_method_9_code
def yX3_down : MethodName := ⟨RX3, "down", "(II)I"⟩
abbrev cX3_left : ByteArray := prog_5_method_10_code
def yX3_left : MethodName := ⟨RX3, "left", "(II)I"⟩
abbrev cX3_isLeap : ByteArray := prog_5_method_11_code
def yX3_isLeap : MethodName := ⟨RX3, "isLeap", "(I)Z"⟩
abbrev cX3_length : ByteArray := prog_5_method_12_code
def yX3_length : MethodName := ⟨RX3, "length", "(I)I"⟩
abbrev cX3_daysOf : ByteArray := prog_5_method_13_code
def yX3_daysOf : MethodName := ⟨RX3, "daysOf", "(I)I"⟩
abbrev cX3_begin : ByteArray := prog_5_method_14_code
def yX3_begin : MethodName := ⟨RX3, "begin", "(I)I"⟩
abbrev cX3_numberOf : ByteArray := prog_5_method_15_code
def yX3_numberOf : MethodName := ⟨RX3, "numberOf", "([I)I"⟩
abbrev cX3_dateOf : ByteArray := prog_5_method_16_code
def yX3_dateOf : MethodName := ⟨RX3, "dateOf", "(I)[I"⟩
abbrev cX3_within : ByteArray := prog_5_method_17_code
def yX3_within : MethodName := ⟨RX3, "within", "(II)[I"⟩
abbrev cX3_shifted : ByteArray := prog_5_method_18_code
def yX3_shifted : MethodName := ⟨RX3, "shifted", "([II)[I"⟩
abbrev cX3_on : ByteArray := prog_5_method_19_code
def yX3_on : MethodName := ⟨RX3, "on", "([II)[I"⟩
abbrev cX3_isDate : ByteArray := prog_5_method_20_code
def yX3_isDate : MethodName := ⟨RX3, "isDate", "([I)Z"⟩
abbrev cX3_weekdayOf : ByteArray := prog_5_method_21_code
def yX3_weekdayOf : MethodName := ⟨RX3, "weekdayOf", "(I)I"⟩
abbrev cX3_become : ByteArray := prog_5_method_22_code
def yX3_become : MethodName := ⟨RX3, "become", "(I[II)Z"⟩
abbrev cX3_became : ByteArray := prog_5_method_23_code
def yX3_became : MethodName := ⟨RX3, "became", "(I)I"⟩
abbrev cX3_of : ByteArray := prog_5_method_24_code
def yX3_of : MethodName := ⟨RX3, "of", "(IIII)I"⟩
abbrev cX3_ofDay : ByteArray := prog_5_method_25_code
def yX3_ofDay : MethodName := ⟨RX3, "ofDay", "(II)I"⟩
abbrev cX3_ofMonth : ByteArray := prog_5_method_26_code
def yX3_ofMonth : MethodName := ⟨RX3, "ofMonth", "(III)I"⟩
abbrev cX3_copy : ByteArray := prog_5_method_27_code
def yX3_copy : MethodName := ⟨RX3, "copy", "(II)I"⟩
abbrev cX3_first : ByteArray := prog_5_method_28_code
def yX3_first : MethodName := ⟨RX3, "first", "(I)I"⟩
abbrev cX3_last : ByteArray := prog_5_method_29_code
def yX3_last : MethodName := ⟨RX3, "last", "(I)I"⟩
abbrev cX3_withDay : ByteArray := prog_5_method_30_code
def yX3_withDay : MethodName := ⟨RX3, "withDay", "(II)I"⟩
abbrev cX3_shift : ByteArray := prog_5_method_31_code
def yX3_shift : MethodName := ⟨RX3, "shift", "(II)I"⟩
abbrev cX3_shiftYears : ByteArray := prog_5_method_32_code
def yX3_shiftYears : MethodName := ⟨RX3, "shiftYears", "(II)I"⟩
abbrev cX3_days : ByteArray := prog_5_method_33_code
def yX3_days : MethodName := ⟨RX3, "days", "(II)I"⟩
abbrev cX3_cycles : ByteArray := prog_5_method_34_code
def yX3_cycles : MethodName := ⟨RX3, "cycles", "(II)I"⟩
abbrev cX3_all : ByteArray := prog_5_method_35_code
def yX3_all : MethodName := ⟨RX3, "all", "(I)I"⟩
abbrev cX3_acted : ByteArray := prog_5_method_36_code
def yX3_acted : MethodName := ⟨RX3, "acted", "([IIZI)[I"⟩
abbrev cX3_act : ByteArray := prog_5_method_37_code
def yX3_act : MethodName := ⟨RX3, "act", "(IIZZ)I"⟩
abbrev cX3_actOften : ByteArray := prog_5_method_38_code
def yX3_actOften : MethodName := ⟨RX3, "actOften", "(III)I"⟩
abbrev cX3_span : ByteArray := prog_5_method_39_code
def yX3_span : MethodName := ⟨RX3, "span", "(IIII)I"⟩
abbrev cX3_wholeOf : ByteArray := prog_5_method_40_code
def yX3_wholeOf : MethodName := ⟨RX3, "wholeOf", "([I[I)I"⟩
abbrev cX3_isAhead : ByteArray := prog_5_method_41_code
def yX3_isAhead : MethodName := ⟨RX3, "isAhead", "(II)Z"⟩
abbrev cX3_until : ByteArray := prog_5_method_42_code
def yX3_until : MethodName := ⟨RX3, "until", "(III)I"⟩
abbrev cX3_addSpan : ByteArray := prog_5_method_43_code
def yX3_addSpan : MethodName := ⟨RX3, "addSpan", "(II)I"⟩
abbrev cX3_turnSpan : ByteArray := prog_5_method_44_code
def yX3_turnSpan : MethodName := ⟨RX3, "turnSpan", "(I)I"⟩
abbrev cX3_spanNow : ByteArray := prog_5_method_45_code
def yX3_spanNow : MethodName := ⟨RX3, "spanNow", "(II)I"⟩
abbrev cX3_ofSpan : ByteArray := prog_5_method_46_code
def yX3_ofSpan : MethodName := ⟨RX3, "ofSpan", "(II)I"⟩
abbrev cX3_failsShift : ByteArray := prog_5_method_47_code
def yX3_failsShift : MethodName := ⟨RX3, "failsShift", "(II)Z"⟩
abbrev cX3_lossNow : ByteArray := prog_5_method_48_code
def yX3_lossNow : MethodName := ⟨RX3, "lossNow", "(II)I"⟩
abbrev cX3_isKept : ByteArray := prog_5_method_49_code
def yX3_isKept : MethodName := ⟨RX3, "isKept", "(II)Z"⟩
abbrev cX3_loss : ByteArray := prog_5_method_50_code
def yX3_loss : MethodName := ⟨RX3, "loss", "(II)I"⟩
abbrev cX3_leadsBack : ByteArray := prog_5_method_51_code
def yX3_leadsBack : MethodName := ⟨RX3, "leadsBack", "(II)Z"⟩
abbrev cX3_twice : ByteArray := prog_5_method_52_code
def yX3_twice : MethodName := ⟨RX3, "twice", "(III)I"⟩
abbrev cX3_gapNow : ByteArray := prog_5_method_53_code
def yX3_gapNow : MethodName := ⟨RX3, "gapNow", "(III)I"⟩
abbrev cX3_gap : ByteArray := prog_5_method_54_code
def yX3_gap : MethodName := ⟨RX3, "gap", "(III)I"⟩
abbrev cX3_failsWay : ByteArray := prog_5_method_55_code
def yX3_failsWay : MethodName := ⟨RX3, "failsWay", "(III)Z"⟩
abbrev cX3_way : ByteArray := prog_5_method_56_code
def yX3_way : MethodName := ⟨RX3, "way", "(III)Ljava/util/ArrayList;"⟩
abbrev cX3_lowest : ByteArray := prog_5_method_57_code
def yX3_lowest : MethodName := ⟨RX3, "lowest", "(III)I"⟩
abbrev cX3_met : ByteArray := prog_5_method_58_code
def yX3_met : MethodName := ⟨RX3, "met", "(III)Ljava/lang/String;"⟩
abbrev cX3_keeps : ByteArray := prog_5_method_59_code
def yX3_keeps : MethodName := ⟨RX3, "keeps", "(II)I"⟩
abbrev cX3_month : ByteArray := prog_5_method_60_code
def yX3_month : MethodName := ⟨RX3, "month", "(I)I"⟩
abbrev cX3_isNoMonth : ByteArray := prog_5_method_61_code
def yX3_isNoMonth : MethodName := ⟨RX3, "isNoMonth", "(I)Z"⟩
abbrev cX3_ofMonthNumber : ByteArray := prog_5_method_62_code
def yX3_ofMonthNumber : MethodName := ⟨RX3, "ofMonthNumber", "(II)I"⟩
abbrev cX3_lengths : ByteArray := prog_5_method_63_code
def yX3_lengths : MethodName := ⟨RX3, "lengths", "(II)I"⟩
abbrev cX3_weekday : ByteArray := prog_5_method_64_code
def yX3_weekday : MethodName := ⟨RX3, "weekday", "(I)I"⟩
abbrev cX3_nth : ByteArray := prog_5_method_65_code
def yX3_nth : MethodName := ⟨RX3, "nth", "(III)I"⟩
abbrev cX3_inYear : ByteArray := prog_5_method_66_code
def yX3_inYear : MethodName := ⟨RX3, "inYear", "(III)I"⟩
abbrev cX3_recurs : ByteArray := prog_5_method_67_code
def yX3_recurs : MethodName := ⟨RX3, "recurs", "(III)I"⟩
abbrev cX3_age : ByteArray := prog_5_method_68_code
def yX3_age : MethodName := ⟨RX3, "age", "(II)I"⟩
abbrev cX3_anniversary : ByteArray := prog_5_method_69_code
def yX3_anniversary : MethodName := ⟨RX3, "anniversary", "(IIZ)I"⟩
abbrev cX3_isFar : ByteArray := prog_5_method_70_code
def yX3_isFar : MethodName := ⟨RX3, "isFar", "(II)Z"⟩
abbrev cX3_came : ByteArray := prog_5_method_71_code
def yX3_came : MethodName := ⟨RX3, "came", "(IIZ)I"⟩
abbrev cX3_no : ByteArray := prog_5_method_72_code
def yX3_no : MethodName := ⟨RX3, "no", "()I"⟩
abbrev cX3_anniversaries : ByteArray := prog_5_method_73_code
def yX3_anniversaries : MethodName := ⟨RX3, "anniversaries", "(IIZ)I"⟩
abbrev cX3_toNext : ByteArray := prog_5_method_74_code
def yX3_toNext : MethodName := ⟨RX3, "toNext", "(IIZ)I"⟩
abbrev cX3_monthsNow : ByteArray := prog_5_method_75_code
def yX3_monthsNow : MethodName := ⟨RX3, "monthsNow", "(II)I"⟩
abbrev cX3_wholeMonths : ByteArray := prog_5_method_76_code
def yX3_wholeMonths : MethodName := ⟨RX3, "wholeMonths", "(II)I"⟩
abbrev cX3_year : ByteArray := prog_5_method_77_code
def yX3_year : MethodName := ⟨RX3, "year", "(I)I"⟩
abbrev cX3_monthOfYear : ByteArray := prog_5_method_78_code
def yX3_monthOfYear : MethodName := ⟨RX3, "monthOfYear", "(I)I"⟩
abbrev cX3_day : ByteArray := prog_5_method_79_code
def yX3_day : MethodName := ⟨RX3, "day", "(I)I"⟩
abbrev cX3_dayOfYearNow : ByteArray := prog_5_method_80_code
def yX3_dayOfYearNow : MethodName := ⟨RX3, "dayOfYearNow", "(I)I"⟩
abbrev cX3_dayOfYear : ByteArray := prog_5_method_81_code
def yX3_dayOfYear : MethodName := ⟨RX3, "dayOfYear", "(I)I"⟩
abbrev cX3_number : ByteArray := prog_5_method_82_code
def yX3_number : MethodName := ⟨RX3, "number", "(I)I"⟩
abbrev cX3_lengthOfMonth : ByteArray := prog_5_method_83_code
def yX3_lengthOfMonth : MethodName := ⟨RX3, "lengthOfMonth", "(I)I"⟩
abbrev cX3_isLeapYear : ByteArray := prog_5_method_84_code
def yX3_isLeapYear : MethodName := ⟨RX3, "isLeapYear", "(I)Z"⟩
abbrev cX3_digits : ByteArray := prog_5_method_85_code
def yX3_digits : MethodName := ⟨RX3, "digits", "(II)Ljava/lang/String;"⟩
abbrev cX3_textNow : ByteArray := prog_5_method_86_code
def yX3_textNow : MethodName := ⟨RX3, "textNow", "(I)Ljava/lang/String;"⟩
abbrev cX3_text : ByteArray := prog_5_method_87_code
def yX3_text : MethodName := ⟨RX3, "text", "(I)Ljava/lang/String;"⟩
abbrev cX3_order : ByteArray := prog_5_method_88_code
def yX3_order : MethodName := ⟨RX3, "order", "(II)I"⟩
abbrev cX3_compare : ByteArray := prog_5_method_89_code
def yX3_compare : MethodName := ⟨RX3, "compare", "(II)I"⟩
abbrev cX3_between : ByteArray := prog_5_method_90_code
def yX3_between : MethodName := ⟨RX3, "between", "(II)I"⟩
abbrev cX3_houseNow : ByteArray := prog_5_method_91_code
def yX3_houseNow : MethodName := ⟨RX3, "houseNow", "(I)I"⟩
abbrev cX3_house : ByteArray := prog_5_method_92_code
def yX3_house : MethodName := ⟨RX3, "house", "(I)I"⟩
abbrev cX3_knock : ByteArray := prog_5_method_93_code
def yX3_knock : MethodName := ⟨RX3, "knock", "()I"⟩
abbrev cX3_isSound : ByteArray := prog_5_method_94_code
def yX3_isSound : MethodName := ⟨RX3, "isSound", "()Z"⟩
abbrev cX3_digest : ByteArray := prog_5_method_95_code
def yX3_digest : MethodName := ⟨RX3, "digest", "()J"⟩
def RJx145de : String := "java/io/Serializable"
def TJx145de : u_T := fun k => match k with
  | _ => ("", "", "", false)
def tyJx145de : Nat → FieldType := fun k => match k with
  | _ => .int
abbrev wsJx145de0 : List Cond := u_ws RJx145de TJx145de 0
theorem nmJx145de : ∀ a, a < 0 → ∀ b, b < 0 → a ≠ b → (TJx145de a).2.1 ≠ (TJx145de b).2.1 := by decide +kernel
theorem tyJx145de_ok : ∀ k, k < 0 → parseFieldDescriptor (TJx145de k).2.2.1 = some (tyJx145de k) := by decide +kernel
def RJ5 : String := "java/lang/AbstractStringBuilder"
def TJ5 : u_T := fun k => match k with
  | _ => ("", "", "", false)
def tyJ5 : Nat → FieldType := fun k => match k with
  | _ => .int
abbrev wsJ50 : List Cond := u_ws RJ5 TJ5 0
theorem nmJ5 : ∀ a, a < 0 → ∀ b, b < 0 → a ≠ b → (TJ5 a).2.1 ≠ (TJ5 b).2.1 := by decide +kernel
theorem tyJ5_ok : ∀ k, k < 0 → parseFieldDescriptor (TJ5 k).2.2.1 = some (tyJ5 k) := by decide +kernel
abbrev cJ5_init_d00df : ByteArray := prog_7_method_2_code
def yJ5_init_d00df : MethodName := ⟨RJ5, "<init>", "(I)V"⟩
abbrev cJ5_length_8abf5 : ByteArray := prog_7_method_6_code
def yJ5_length_8abf5 : MethodName := ⟨RJ5, "length", "()I"⟩
abbrev cJ5_ensureCapacityInternal_d00df : ByteArray := prog_7_method_9_code
def yJ5_ensureCapacityInternal_d00df : MethodName := ⟨RJ5, "ensureCapacityInternal", "(I)V"⟩
abbrev cJ5_newCapacity_0f7a4 : ByteArray := prog_7_method_10_code
def yJ5_newCapacity_0f7a4 : MethodName := ⟨RJ5, "newCapacity", "(I)I"⟩
abbrev cJ5_inflate_da8c8 : ByteArray := prog_7_method_11_code
def yJ5_inflate_da8c8 : MethodName := ⟨RJ5, "inflate", "()V"⟩
abbrev cJ5_setLength_d00df : ByteArray := prog_7_method_13_code
def yJ5_setLength_d00df : MethodName := ⟨RJ5, "setLength", "(I)V"⟩
abbrev cJ5_append_cf1ce : ByteArray := prog_7_method_22_code
def yJ5_append_cf1ce : MethodName := ⟨RJ5, "append", "(Ljava/lang/String;)Ljava/lang/AbstractStringBuilder;"⟩
abbrev cJ5_appendNull_278bc : ByteArray := prog_7_method_26_code
def yJ5_appendNull_278bc : MethodName := ⟨RJ5, "appendNull", "()Ljava/lang/AbstractStringBuilder;"⟩
abbrev cJ5_append_3fe6f : ByteArray := prog_7_method_31_code
def yJ5_append_3fe6f : MethodName := ⟨RJ5, "append", "(C)Ljava/lang/AbstractStringBuilder;"⟩
abbrev cJ5_append_c97b9 : ByteArray := prog_7_method_32_code
def yJ5_append_c97b9 : MethodName := ⟨RJ5, "append", "(I)Ljava/lang/AbstractStringBuilder;"⟩
abbrev cJ5_getValue_6d5f1 : ByteArray := prog_7_method_64_code
def yJ5_getValue_6d5f1 : MethodName := ⟨RJ5, "getValue", "()[B"⟩
abbrev cJ5_isLatin1_aae02 : ByteArray := prog_7_method_68_code
def yJ5_isLatin1_aae02 : MethodName := ⟨RJ5, "isLatin1", "()Z"⟩
abbrev cJ5_inflateIfNeededFor_a7421 : ByteArray := prog_7_method_71_code
def yJ5_inflateIfNeededFor_a7421 : MethodName := ⟨RJ5, "inflateIfNeededFor", "(Ljava/lang/String;)V"⟩
abbrev cJ5_putStringAt_47b60 : ByteArray := prog_7_method_73_code
def yJ5_putStringAt_47b60 : MethodName := ⟨RJ5, "putStringAt", "(ILjava/lang/String;)V"⟩
def RJx2cfe8 : String := "java/lang/Appendable"
def TJx2cfe8 : u_T := fun k => match k with
  | _ => ("", "", "", false)
def tyJx2cfe8 : Nat → FieldType := fun k => match k with
  | _ => .int
abbrev wsJx2cfe80 : List Cond := u_ws RJx2cfe8 TJx2cfe8 0
theorem nmJx2cfe8 : ∀ a, a < 0 → ∀ b, b < 0 → a ≠ b → (TJx2cfe8 a).2.1 ≠ (TJx2cfe8 b).2.1 := by decide +kernel
theorem tyJx2cfe8_ok : ∀ k, k < 0 → parseFieldDescriptor (TJx2cfe8 k).2.2.1 = some (tyJx2cfe8 k) := by decide +kernel
def RJx00060 : String := "java/lang/ArrayIndexOutOfBoundsException"
def TJx00060 : u_T := fun k => match k with
  | 0 => ("java/lang/Throwable", "cause", "Ljava/lang/Throwable;", false)
  | 1 => ("java/lang/Throwable", "stackTrace", "[Ljava/lang/StackTraceElement;", false)
  | 2 => ("java/lang/Throwable", "suppressedExceptions", "Ljava/util/List;", false)
  | 3 => ("java/lang/Throwable", "detailMessage", "Ljava/lang/String;", false)
  | 4 => ("java/lang/Throwable", "backtrace", "Ljava/lang/Object;", false)
  | _ => ("java/lang/Throwable", "depth", "I", false)
def tyJx00060 : Nat → FieldType := fun k => match k with
  | 0 => .object "java/lang/Throwable"
  | 1 => .array (.object "java/lang/StackTraceElement")
  | 2 => .object "java/util/List"
  | 3 => .object "java/lang/String"
  | 4 => .object "java/lang/Object"
  | _ => .int
abbrev wsJx000600 : List Cond := u_ws RJx00060 TJx00060 6
theorem nmJx00060 : ∀ a, a < 6 → ∀ b, b < 6 → a ≠ b → (TJx00060 a).2.1 ≠ (TJx00060 b).2.1 := by decide +kernel
theorem tyJx00060_ok : ∀ k, k < 6 → parseFieldDescriptor (TJx00060 k).2.2.1 = some (tyJx00060 k) := by decide +kernel
abbrev cJx00060_init_d00df : ByteArray := prog_9_method_3_code
def yJx00060_init_d00df : MethodName := ⟨RJx00060, "<init>", "(I)V"⟩
def RJx9f9b0 : String := "java/lang/CharSequence"
def TJx9f9b0 : u_T := fun k => match k with
  | _ => ("", "", "", false)
def tyJx9f9b0 : Nat → FieldType := fun k => match k with
  | _ => .int
abbrev wsJx9f9b00 : List Cond := u_ws RJx9f9b0 TJx9f9b0 0
theorem nmJx9f9b0 : ∀ a, a < 0 → ∀ b, b < 0 → a ≠ b → (TJx9f9b0 a).2.1 ≠ (TJx9f9b0 b).2.1 := by decide +kernel
theorem tyJx9f9b0_ok : ∀ k, k < 0 → parseFieldDescriptor (TJx9f9b0 k).2.2.1 = some (tyJx9f9b0 k) := by decide +kernel
def RJx8e188 : String := "java/lang/Cloneable"
def TJx8e188 : u_T := fun k => match k with
  | _ => ("", "", "", false)
def tyJx8e188 : Nat → FieldType := fun k => match k with
  | _ => .int
abbrev wsJx8e1880 : List Cond := u_ws RJx8e188 TJx8e188 0
theorem nmJx8e188 : ∀ a, a < 0 → ∀ b, b < 0 → a ≠ b → (TJx8e188 a).2.1 ≠ (TJx8e188 b).2.1 := by decide +kernel
theorem tyJx8e188_ok : ∀ k, k < 0 → parseFieldDescriptor (TJx8e188 k).2.2.1 = some (tyJx8e188 k) := by decide +kernel
def RJxb160c : String := "java/lang/Comparable"
def TJxb160c : u_T := fun k => match k with
  | _ => ("", "", "", false)
def tyJxb160c : Nat → FieldType := fun k => match k with
  | _ => .int
abbrev wsJxb160c0 : List Cond := u_ws RJxb160c TJxb160c 0
theorem nmJxb160c : ∀ a, a < 0 → ∀ b, b < 0 → a ≠ b → (TJxb160c a).2.1 ≠ (TJxb160c b).2.1 := by decide +kernel
theorem tyJxb160c_ok : ∀ k, k < 0 → parseFieldDescriptor (TJxb160c k).2.2.1 = some (tyJxb160c k) := by decide +kernel
def RJxabbfe : String := "java/lang/Integer$IntegerCache"
def TJxabbfe : u_T := fun k => match k with
  | _ => ("", "", "", false)
def tyJxabbfe : Nat → FieldType := fun k => match k with
  | _ => .int
abbrev wsJxabbfe0 : List Cond := u_ws RJxabbfe TJxabbfe 0
theorem nmJxabbfe : ∀ a, a < 0 → ∀ b, b < 0 → a ≠ b → (TJxabbfe a).2.1 ≠ (TJxabbfe b).2.1 := by decide +kernel
theorem tyJxabbfe_ok : ∀ k, k < 0 → parseFieldDescriptor (TJxabbfe k).2.2.1 = some (tyJxabbfe k) := by decide +kernel
def RJ6 : String := "java/lang/Integer"
def TJ6 : u_T := fun k => match k with
  | _ => ("java/lang/Integer", "value", "I", true)
def tyJ6 : Nat → FieldType := fun k => match k with
  | _ => .int
abbrev wsJ60 : List Cond := u_ws RJ6 TJ6 1
theorem nmJ6 : ∀ a, a < 1 → ∀ b, b < 1 → a ≠ b → (TJ6 a).2.1 ≠ (TJ6 b).2.1 := by decide +kernel
theorem tyJ6_ok : ∀ k, k < 1 → parseFieldDescriptor (TJ6 k).2.2.1 = some (tyJ6 k) := by decide +kernel
abbrev cJ6_getChars_ba4f3 : ByteArray := prog_17_method_12_code
def yJ6_getChars_ba4f3 : MethodName := ⟨RJ6, "getChars", "(II[B)I"⟩
abbrev cJ6_stringSize_0f7a4 : ByteArray := prog_17_method_13_code
def yJ6_stringSize_0f7a4 : MethodName := ⟨RJ6, "stringSize", "(I)I"⟩
abbrev cJ6_valueOf_2dffe : ByteArray := prog_17_method_22_code
def yJ6_valueOf_2dffe : MethodName := ⟨RJ6, "valueOf", "(I)Ljava/lang/Integer;"⟩
abbrev cJ6_init_d00df : ByteArray := prog_17_method_23_code
def yJ6_init_d00df : MethodName := ⟨RJ6, "<init>", "(I)V"⟩
abbrev cJ6_intValue_8abf5 : ByteArray := prog_17_method_27_code
def yJ6_intValue_8abf5 : MethodName := ⟨RJ6, "intValue", "()I"⟩
def RJxab1ab : String := "java/lang/Iterable"
def TJxab1ab : u_T := fun k => match k with
  | _ => ("", "", "", false)
def tyJxab1ab : Nat → FieldType := fun k => match k with
  | _ => .int
abbrev wsJxab1ab0 : List Cond := u_ws RJxab1ab TJxab1ab 0
theorem nmJxab1ab : ∀ a, a < 0 → ∀ b, b < 0 → a ≠ b → (TJxab1ab a).2.1 ≠ (TJxab1ab b).2.1 := by decide +kernel
theorem tyJxab1ab_ok : ∀ k, k < 0 → parseFieldDescriptor (TJxab1ab k).2.2.1 = some (tyJxab1ab k) := by decide +kernel
def RJ9 : String := "java/lang/Math"
def TJ9 : u_T := fun k => match k with
  | _ => ("", "", "", false)
def tyJ9 : Nat → FieldType := fun k => match k with
  | _ => .int
abbrev wsJ90 : List Cond := u_ws RJ9 TJ9 0
theorem nmJ9 : ∀ a, a < 0 → ∀ b, b < 0 → a ≠ b → (TJ9 a).2.1 ≠ (TJ9 b).2.1 := by decide +kernel
theorem tyJ9_ok : ∀ k, k < 0 → parseFieldDescriptor (TJ9 k).2.2.1 = some (tyJ9 k) := by decide +kernel
abbrev cJ9_floorDiv_7cf53 : ByteArray := prog_20_method_47_code
def yJ9_floorDiv_7cf53 : MethodName := ⟨RJ9, "floorDiv", "(II)I"⟩
abbrev cJ9_floorDiv_f86c9 : ByteArray := prog_20_method_49_code
def yJ9_floorDiv_f86c9 : MethodName := ⟨RJ9, "floorDiv", "(JJ)J"⟩
abbrev cJ9_floorMod_7cf53 : ByteArray := prog_20_method_50_code
def yJ9_floorMod_7cf53 : MethodName := ⟨RJ9, "floorMod", "(II)I"⟩
abbrev cJ9_abs_0f7a4 : ByteArray := prog_20_method_59_code
def yJ9_abs_0f7a4 : MethodName := ⟨RJ9, "abs", "(I)I"⟩
abbrev cJ9_max_7cf53 : ByteArray := prog_20_method_65_code
def yJ9_max_7cf53 : MethodName := ⟨RJ9, "max", "(II)I"⟩
abbrev cJ9_min_7cf53 : ByteArray := prog_20_method_69_code
def yJ9_min_7cf53 : MethodName := ⟨RJ9, "min", "(II)I"⟩
def RJxd2413 : String := "java/lang/Number"
def TJxd2413 : u_T := fun k => match k with
  | _ => ("", "", "", false)
def tyJxd2413 : Nat → FieldType := fun k => match k with
  | _ => .int
abbrev wsJxd24130 : List Cond := u_ws RJxd2413 TJxd2413 0
theorem nmJxd2413 : ∀ a, a < 0 → ∀ b, b < 0 → a ≠ b → (TJxd2413 a).2.1 ≠ (TJxd2413 b).2.1 := by decide +kernel
theorem tyJxd2413_ok : ∀ k, k < 0 → parseFieldDescriptor (TJxd2413 k).2.2.1 = some (tyJxd2413 k) := by decide +kernel
abbrev cJxd2413_init_da8c8 : ByteArray := prog_21_method_1_code
def yJxd2413_init_da8c8 : MethodName := ⟨RJxd2413, "<init>", "()V"⟩
def RJ0 : String := "java/lang/String"
def TJ0 : u_T := fun k => match k with
  | 0 => ("java/lang/String", "value", "[B", true)
  | 1 => ("java/lang/String", "coder", "B", true)
  | 2 => ("java/lang/String", "hash", "I", false)
  | _ => ("java/lang/String", "hashIsZero", "Z", false)
def tyJ0 : Nat → FieldType := fun k => match k with
  | 0 => .array .byte
  | 1 => .byte
  | 2 => .int
  | _ => .boolean
abbrev wsJ00 : List Cond := u_ws RJ0 TJ0 4
theorem nmJ0 : ∀ a, a < 4 → ∀ b, b < 4 → a ≠ b → (TJ0 a).2.1 ≠ (TJ0 b).2.1 := by decide +kernel
theorem tyJ0_ok : ∀ k, k < 4 → parseFieldDescriptor (TJ0 k).2.2.1 = some (tyJ0 k) := by decide +kernel
abbrev cJ0_init_81219 : ByteArray := prog_23_method_53_code
def yJ0_init_81219 : MethodName := ⟨RJ0, "<init>", "(Ljava/lang/StringBuilder;)V"⟩
abbrev cJ0_length_8abf5 : ByteArray := prog_23_method_54_code
def yJ0_length_8abf5 : MethodName := ⟨RJ0, "length", "()I"⟩
abbrev cJ0_isEmpty_aae02 : ByteArray := prog_23_method_55_code
def yJ0_isEmpty_aae02 : MethodName := ⟨RJ0, "isEmpty", "()Z"⟩
abbrev cJ0_getBytes_840e7 : ByteArray := prog_23_method_147_code
def yJ0_getBytes_840e7 : MethodName := ⟨RJ0, "getBytes", "([BIB)V"⟩
abbrev cJ0_init_db425 : ByteArray := prog_23_method_150_code
def yJ0_init_db425 : MethodName := ⟨RJ0, "<init>", "(Ljava/lang/AbstractStringBuilder;Ljava/lang/Void;)V"⟩
abbrev cJ0_coder_7d493 : ByteArray := prog_23_method_152_code
def yJ0_coder_7d493 : MethodName := ⟨RJ0, "coder", "()B"⟩
abbrev cJ0_checkIndex_df160 : ByteArray := prog_23_method_155_code
def yJ0_checkIndex_df160 : MethodName := ⟨RJ0, "checkIndex", "(II)V"⟩
abbrev cJ0_checkBoundsOffCount_cabcc : ByteArray := prog_23_method_157_code
def yJ0_checkBoundsOffCount_cabcc : MethodName := ⟨RJ0, "checkBoundsOffCount", "(III)I"⟩
abbrev cJ0_checkBoundsBeginEnd_23922 : ByteArray := prog_23_method_158_code
def yJ0_checkBoundsBeginEnd_23922 : MethodName := ⟨RJ0, "checkBoundsBeginEnd", "(III)V"⟩
def RJ4 : String := "java/lang/StringBuilder"
def TJ4 : u_T := fun k => match k with
  | 0 => ("java/lang/AbstractStringBuilder", "value", "[B", false)
  | 1 => ("java/lang/AbstractStringBuilder", "coder", "B", false)
  | 2 => ("java/lang/AbstractStringBuilder", "maybeLatin1", "Z", false)
  | _ => ("java/lang/AbstractStringBuilder", "count", "I", false)
def tyJ4 : Nat → FieldType := fun k => match k with
  | 0 => .array .byte
  | 1 => .byte
  | 2 => .boolean
  | _ => .int
abbrev wsJ40 : List Cond := u_ws RJ4 TJ4 4
theorem nmJ4 : ∀ a, a < 4 → ∀ b, b < 4 → a ≠ b → (TJ4 a).2.1 ≠ (TJ4 b).2.1 := by decide +kernel
theorem tyJ4_ok : ∀ k, k < 4 → parseFieldDescriptor (TJ4 k).2.2.1 = some (tyJ4 k) := by decide +kernel
abbrev cJ4_init_da8c8 : ByteArray := prog_24_method_1_code
def yJ4_init_da8c8 : MethodName := ⟨RJ4, "<init>", "()V"⟩
abbrev cJ4_append_15ec4 : ByteArray := prog_24_method_7_code
def yJ4_append_15ec4 : MethodName := ⟨RJ4, "append", "(Ljava/lang/String;)Ljava/lang/StringBuilder;"⟩
abbrev cJ4_append_cf468 : ByteArray := prog_24_method_14_code
def yJ4_append_cf468 : MethodName := ⟨RJ4, "append", "(C)Ljava/lang/StringBuilder;"⟩
abbrev cJ4_append_bf812 : ByteArray := prog_24_method_15_code
def yJ4_append_bf812 : MethodName := ⟨RJ4, "append", "(I)Ljava/lang/StringBuilder;"⟩
abbrev cJ4_toString_0e30d : ByteArray := prog_24_method_42_code
def yJ4_toString_0e30d : MethodName := ⟨RJ4, "toString", "()Ljava/lang/String;"⟩
abbrev cJ4_setLength_d00df : ByteArray := prog_24_method_89_code
def yJ4_setLength_d00df : MethodName := ⟨RJ4, "setLength", "(I)V"⟩
abbrev cJ4_length_8abf5 : ByteArray := prog_24_method_93_code
def yJ4_length_8abf5 : MethodName := ⟨RJ4, "length", "()I"⟩
def RJx7c733 : String := "java/lang/StringIndexOutOfBoundsException"
def TJx7c733 : u_T := fun k => match k with
  | 0 => ("java/lang/Throwable", "backtrace", "Ljava/lang/Object;", false)
  | 1 => ("java/lang/Throwable", "detailMessage", "Ljava/lang/String;", false)
  | 2 => ("java/lang/Throwable", "cause", "Ljava/lang/Throwable;", false)
  | 3 => ("java/lang/Throwable", "stackTrace", "[Ljava/lang/StackTraceElement;", false)
  | 4 => ("java/lang/Throwable", "depth", "I", false)
  | _ => ("java/lang/Throwable", "suppressedExceptions", "Ljava/util/List;", false)
def tyJx7c733 : Nat → FieldType := fun k => match k with
  | 0 => .object "java/lang/Object"
  | 1 => .object "java/lang/String"
  | 2 => .object "java/lang/Throwable"
  | 3 => .array (.object "java/lang/StackTraceElement")
  | 4 => .int
  | _ => .object "java/util/List"
abbrev wsJx7c7330 : List Cond := u_ws RJx7c733 TJx7c733 6
theorem nmJx7c733 : ∀ a, a < 6 → ∀ b, b < 6 → a ≠ b → (TJx7c733 a).2.1 ≠ (TJx7c733 b).2.1 := by decide +kernel
theorem tyJx7c733_ok : ∀ k, k < 6 → parseFieldDescriptor (TJx7c733 k).2.2.1 = some (tyJx7c733 k) := by decide +kernel
abbrev cJx7c733_init_d00df : ByteArray := prog_25_method_3_code
def yJx7c733_init_d00df : MethodName := ⟨RJx7c733, "<init>", "(I)V"⟩
def RJ1 : String := "java/lang/StringLatin1"
def TJ1 : u_T := fun k => match k with
  | _ => ("", "", "", false)
def tyJ1 : Nat → FieldType := fun k => match k with
  | _ => .int
abbrev wsJ10 : List Cond := u_ws RJ1 TJ1 0
theorem nmJ1 : ∀ a, a < 0 → ∀ b, b < 0 → a ≠ b → (TJ1 a).2.1 ≠ (TJ1 b).2.1 := by decide +kernel
theorem tyJ1_ok : ∀ k, k < 0 → parseFieldDescriptor (TJ1 k).2.2.1 = some (tyJ1 k) := by decide +kernel
abbrev cJ1_canEncode_fc78d : ByteArray := prog_26_method_3_code
def yJ1_canEncode_fc78d : MethodName := ⟨RJ1, "canEncode", "(C)Z"⟩
abbrev cJ1_fillNull_b72d1 : ByteArray := prog_26_method_48_code
def yJ1_fillNull_b72d1 : MethodName := ⟨RJ1, "fillNull", "([BII)V"⟩
abbrev cJ1_inflate_0e8fd : ByteArray := prog_26_method_50_code
def yJ1_inflate_0e8fd : MethodName := ⟨RJ1, "inflate", "([BI[BII)V"⟩
def RJ2 : String := "java/lang/StringUTF16"
def TJ2 : u_T := fun k => match k with
  | _ => ("", "", "", false)
def tyJ2 : Nat → FieldType := fun k => match k with
  | _ => .int
abbrev wsJ20 : List Cond := u_ws RJ2 TJ2 0
theorem nmJ2 : ∀ a, a < 0 → ∀ b, b < 0 → a ≠ b → (TJ2 a).2.1 ≠ (TJ2 b).2.1 := by decide +kernel
theorem tyJ2_ok : ∀ k, k < 0 → parseFieldDescriptor (TJ2 k).2.2.1 = some (tyJ2 k) := by decide +kernel
abbrev cJ2_newBytesFor_77867 : ByteArray := prog_27_method_2_code
def yJ2_newBytesFor_77867 : MethodName := ⟨RJ2, "newBytesFor", "(I)[B"⟩
abbrev cJ2_newBytesLength_0f7a4 : ByteArray := prog_27_method_3_code
def yJ2_newBytesLength_0f7a4 : MethodName := ⟨RJ2, "newBytesLength", "(I)I"⟩
abbrev cJ2_putChar_b72d1 : ByteArray := prog_27_method_4_code
def yJ2_putChar_b72d1 : MethodName := ⟨RJ2, "putChar", "([BII)V"⟩
abbrev cJ2_getChar_3b067 : ByteArray := prog_27_method_5_code
def yJ2_getChar_3b067 : MethodName := ⟨RJ2, "getChar", "([BI)C"⟩
abbrev cJ2_length_9d52b : ByteArray := prog_27_method_6_code
def yJ2_length_9d52b : MethodName := ⟨RJ2, "length", "([B)I"⟩
abbrev cJ2_coderFromArrayLen_85cad : ByteArray := prog_27_method_15_code
def yJ2_coderFromArrayLen_85cad : MethodName := ⟨RJ2, "coderFromArrayLen", "([BI)B"⟩
abbrev cJ2_compress_39247 : ByteArray := prog_27_method_17_code
def yJ2_compress_39247 : MethodName := ⟨RJ2, "compress", "([BII)[B"⟩
abbrev cJ2_compress_5af95 : ByteArray := prog_27_method_22_code
def yJ2_compress_5af95 : MethodName := ⟨RJ2, "compress", "([BI[BII)I"⟩
abbrev cJ2_fillNull_b72d1 : ByteArray := prog_27_method_70_code
def yJ2_fillNull_b72d1 : MethodName := ⟨RJ2, "fillNull", "([BII)V"⟩
abbrev cJ2_putCharSB_b72d1 : ByteArray := prog_27_method_71_code
def yJ2_putCharSB_b72d1 : MethodName := ⟨RJ2, "putCharSB", "([BII)V"⟩
abbrev cJ2_getChars_46870 : ByteArray := prog_27_method_77_code
def yJ2_getChars_46870 : MethodName := ⟨RJ2, "getChars", "(III[B)I"⟩
abbrev cJ2_putCharsAt_cd4e5 : ByteArray := prog_27_method_81_code
def yJ2_putCharsAt_cd4e5 : MethodName := ⟨RJ2, "putCharsAt", "([BICCCC)I"⟩
abbrev cJ2_inflate_0e8fd : ByteArray := prog_27_method_86_code
def yJ2_inflate_0e8fd : MethodName := ⟨RJ2, "inflate", "([BI[BII)V"⟩
abbrev cJ2_getChars_ba4f3 : ByteArray := prog_27_method_89_code
def yJ2_getChars_ba4f3 : MethodName := ⟨RJ2, "getChars", "(II[B)I"⟩
abbrev cJ2_checkIndex_2214a : ByteArray := prog_27_method_91_code
def yJ2_checkIndex_2214a : MethodName := ⟨RJ2, "checkIndex", "(I[B)V"⟩
abbrev cJ2_checkBoundsBeginEnd_d044e : ByteArray := prog_27_method_93_code
def yJ2_checkBoundsBeginEnd_d044e : MethodName := ⟨RJ2, "checkBoundsBeginEnd", "(II[B)V"⟩
abbrev cJ2_checkBoundsOffCount_d044e : ByteArray := prog_27_method_94_code
def yJ2_checkBoundsOffCount_d044e : MethodName := ⟨RJ2, "checkBoundsOffCount", "(II[B)V"⟩
def RJ10 : String := "java/lang/System"
def TJ10 : u_T := fun k => match k with
  | _ => ("", "", "", false)
def tyJ10 : Nat → FieldType := fun k => match k with
  | _ => .int
abbrev wsJ100 : List Cond := u_ws RJ10 TJ10 0
theorem nmJ10 : ∀ a, a < 0 → ∀ b, b < 0 → a ≠ b → (TJ10 a).2.1 ≠ (TJ10 b).2.1 := by decide +kernel
theorem tyJ10_ok : ∀ k, k < 0 → parseFieldDescriptor (TJ10 k).2.2.1 = some (tyJ10 k) := by decide +kernel
def RJxfd54e : String := "java/lang/constant/Constable"
def TJxfd54e : u_T := fun k => match k with
  | _ => ("", "", "", false)
def tyJxfd54e : Nat → FieldType := fun k => match k with
  | _ => .int
abbrev wsJxfd54e0 : List Cond := u_ws RJxfd54e TJxfd54e 0
theorem nmJxfd54e : ∀ a, a < 0 → ∀ b, b < 0 → a ≠ b → (TJxfd54e a).2.1 ≠ (TJxfd54e b).2.1 := by decide +kernel
theorem tyJxfd54e_ok : ∀ k, k < 0 → parseFieldDescriptor (TJxfd54e k).2.2.1 = some (tyJxfd54e k) := by decide +kernel
def RJx3cf43 : String := "java/lang/constant/ConstantDesc"
def TJx3cf43 : u_T := fun k => match k with
  | _ => ("", "", "", false)
def tyJx3cf43 : Nat → FieldType := fun k => match k with
  | _ => .int
abbrev wsJx3cf430 : List Cond := u_ws RJx3cf43 TJx3cf43 0
theorem nmJx3cf43 : ∀ a, a < 0 → ∀ b, b < 0 → a ≠ b → (TJx3cf43 a).2.1 ≠ (TJx3cf43 b).2.1 := by decide +kernel
theorem tyJx3cf43_ok : ∀ k, k < 0 → parseFieldDescriptor (TJx3cf43 k).2.2.1 = some (tyJx3cf43 k) := by decide +kernel
def RJxa1e45 : String := "java/util/AbstractCollection"
def TJxa1e45 : u_T := fun k => match k with
  | _ => ("", "", "", false)
def tyJxa1e45 : Nat → FieldType := fun k => match k with
  | _ => .int
abbrev wsJxa1e450 : List Cond := u_ws RJxa1e45 TJxa1e45 0
theorem nmJxa1e45 : ∀ a, a < 0 → ∀ b, b < 0 → a ≠ b → (TJxa1e45 a).2.1 ≠ (TJxa1e45 b).2.1 := by decide +kernel
theorem tyJxa1e45_ok : ∀ k, k < 0 → parseFieldDescriptor (TJxa1e45 k).2.2.1 = some (tyJxa1e45 k) := by decide +kernel
abbrev cJxa1e45_init_da8c8 : ByteArray := prog_32_method_1_code
def yJxa1e45_init_da8c8 : MethodName := ⟨RJxa1e45, "<init>", "()V"⟩
def RJxc12de : String := "java/util/AbstractList"
def TJxc12de : u_T := fun k => match k with
  | _ => ("", "", "", false)
def tyJxc12de : Nat → FieldType := fun k => match k with
  | _ => .int
abbrev wsJxc12de0 : List Cond := u_ws RJxc12de TJxc12de 0
theorem nmJxc12de : ∀ a, a < 0 → ∀ b, b < 0 → a ≠ b → (TJxc12de a).2.1 ≠ (TJxc12de b).2.1 := by decide +kernel
theorem tyJxc12de_ok : ∀ k, k < 0 → parseFieldDescriptor (TJxc12de k).2.2.1 = some (tyJxc12de k) := by decide +kernel
abbrev cJxc12de_init_da8c8 : ByteArray := prog_33_method_1_code
def yJxc12de_init_da8c8 : MethodName := ⟨RJxc12de, "<init>", "()V"⟩
def RJx35411 : String := "java/util/ArrayList$Itr"
def TJx35411 : u_T := fun k => match k with
  | 0 => ("java/util/ArrayList$Itr", "cursor", "I", false)
  | 1 => ("java/util/ArrayList$Itr", "lastRet", "I", false)
  | 2 => ("java/util/ArrayList$Itr", "expectedModCount", "I", false)
  | _ => ("java/util/ArrayList$Itr", "this$0", "Ljava/util/ArrayList;", true)
def tyJx35411 : Nat → FieldType := fun k => match k with
  | 0 => .int
  | 1 => .int
  | 2 => .int
  | _ => .object "java/util/ArrayList"
abbrev wsJx354110 : List Cond := u_ws RJx35411 TJx35411 4
theorem nmJx35411 : ∀ a, a < 4 → ∀ b, b < 4 → a ≠ b → (TJx35411 a).2.1 ≠ (TJx35411 b).2.1 := by decide +kernel
theorem tyJx35411_ok : ∀ k, k < 4 → parseFieldDescriptor (TJx35411 k).2.2.1 = some (tyJx35411 k) := by decide +kernel
abbrev cJx35411_init_45d68 : ByteArray := prog_35_method_1_code
def yJx35411_init_45d68 : MethodName := ⟨RJx35411, "<init>", "(Ljava/util/ArrayList;)V"⟩
abbrev cJx35411_hasNext_aae02 : ByteArray := prog_35_method_2_code
def yJx35411_hasNext_aae02 : MethodName := ⟨RJx35411, "hasNext", "()Z"⟩
abbrev cJx35411_next_0502b : ByteArray := prog_35_method_3_code
def yJx35411_next_0502b : MethodName := ⟨RJx35411, "next", "()Ljava/lang/Object;"⟩
abbrev cJx35411_checkForComodification_da8c8 : ByteArray := prog_35_method_6_code
def yJx35411_checkForComodification_da8c8 : MethodName := ⟨RJx35411, "checkForComodification", "()V"⟩
def RJx4a65c : String := "java/util/ArrayList"
def TJx4a65c : u_T := fun k => match k with
  | 0 => ("java/util/AbstractList", "modCount", "I", false)
  | 1 => ("java/util/ArrayList", "elementData", "[Ljava/lang/Object;", false)
  | _ => ("java/util/ArrayList", "size", "I", false)
def tyJx4a65c : Nat → FieldType := fun k => match k with
  | 0 => .int
  | 1 => .array (.object "java/lang/Object")
  | _ => .int
abbrev wsJx4a65c0 : List Cond := u_ws RJx4a65c TJx4a65c 3
theorem nmJx4a65c : ∀ a, a < 3 → ∀ b, b < 3 → a ≠ b → (TJx4a65c a).2.1 ≠ (TJx4a65c b).2.1 := by decide +kernel
theorem tyJx4a65c_ok : ∀ k, k < 3 → parseFieldDescriptor (TJx4a65c k).2.2.1 = some (tyJx4a65c k) := by decide +kernel
abbrev cJx4a65c_init_da8c8 : ByteArray := prog_34_method_2_code
def yJx4a65c_init_da8c8 : MethodName := ⟨RJx4a65c, "<init>", "()V"⟩
abbrev cJx4a65c_grow_92f84 : ByteArray := prog_34_method_6_code
def yJx4a65c_grow_92f84 : MethodName := ⟨RJx4a65c, "grow", "(I)[Ljava/lang/Object;"⟩
abbrev cJx4a65c_grow_d5877 : ByteArray := prog_34_method_7_code
def yJx4a65c_grow_d5877 : MethodName := ⟨RJx4a65c, "grow", "()[Ljava/lang/Object;"⟩
abbrev cJx4a65c_elementData_915e3 : ByteArray := prog_34_method_18_code
def yJx4a65c_elementData_915e3 : MethodName := ⟨RJx4a65c, "elementData", "(I)Ljava/lang/Object;"⟩
abbrev cJx4a65c_get_915e3 : ByteArray := prog_34_method_20_code
def yJx4a65c_get_915e3 : MethodName := ⟨RJx4a65c, "get", "(I)Ljava/lang/Object;"⟩
abbrev cJx4a65c_add_72be8 : ByteArray := prog_34_method_24_code
def yJx4a65c_add_72be8 : MethodName := ⟨RJx4a65c, "add", "(Ljava/lang/Object;[Ljava/lang/Object;I)V"⟩
abbrev cJx4a65c_add_9ea2d : ByteArray := prog_34_method_25_code
def yJx4a65c_add_9ea2d : MethodName := ⟨RJx4a65c, "add", "(Ljava/lang/Object;)Z"⟩
abbrev cJx4a65c_iterator_32c93 : ByteArray := prog_34_method_55_code
def yJx4a65c_iterator_32c93 : MethodName := ⟨RJx4a65c, "iterator", "()Ljava/util/Iterator;"⟩
def RJ7 : String := "java/util/Arrays"
def TJ7 : u_T := fun k => match k with
  | _ => ("", "", "", false)
def tyJ7 : Nat → FieldType := fun k => match k with
  | _ => .int
abbrev wsJ70 : List Cond := u_ws RJ7 TJ7 0
theorem nmJ7 : ∀ a, a < 0 → ∀ b, b < 0 → a ≠ b → (TJ7 a).2.1 ≠ (TJ7 b).2.1 := by decide +kernel
theorem tyJ7_ok : ∀ k, k < 0 → parseFieldDescriptor (TJ7 k).2.2.1 = some (tyJ7 k) := by decide +kernel
abbrev cJ7_rangeCheck_23922 : ByteArray := prog_36_method_30_code
def yJ7_rangeCheck_23922 : MethodName := ⟨RJ7, "rangeCheck", "(III)V"⟩
abbrev cJ7_fill_eb02e : ByteArray := prog_36_method_110_code
def yJ7_fill_eb02e : MethodName := ⟨RJ7, "fill", "([BIIB)V"⟩
abbrev cJ7_copyOf_1904c : ByteArray := prog_36_method_119_code
def yJ7_copyOf_1904c : MethodName := ⟨RJ7, "copyOf", "([Ljava/lang/Object;I)[Ljava/lang/Object;"⟩
abbrev cJ7_copyOf_6403c : ByteArray := prog_36_method_120_code
def yJ7_copyOf_6403c : MethodName := ⟨RJ7, "copyOf", "([Ljava/lang/Object;ILjava/lang/Class;)[Ljava/lang/Object;"⟩
abbrev cJ7_copyOf_9075b : ByteArray := prog_36_method_121_code
def yJ7_copyOf_9075b : MethodName := ⟨RJ7, "copyOf", "([BI)[B"⟩
abbrev cJ7_checkLength_df160 : ByteArray := prog_36_method_131_code
def yJ7_checkLength_df160 : MethodName := ⟨RJ7, "checkLength", "(II)V"⟩
abbrev cJ7_copyOfRange_39247 : ByteArray := prog_36_method_132_code
def yJ7_copyOfRange_39247 : MethodName := ⟨RJ7, "copyOfRange", "([BII)[B"⟩
abbrev cJ7_copyOfRangeByte_39247 : ByteArray := prog_36_method_133_code
def yJ7_copyOfRangeByte_39247 : MethodName := ⟨RJ7, "copyOfRangeByte", "([BII)[B"⟩
def RJx5ef63 : String := "java/util/Collection"
def TJx5ef63 : u_T := fun k => match k with
  | _ => ("", "", "", false)
def tyJx5ef63 : Nat → FieldType := fun k => match k with
  | _ => .int
abbrev wsJx5ef630 : List Cond := u_ws RJx5ef63 TJx5ef63 0
theorem nmJx5ef63 : ∀ a, a < 0 → ∀ b, b < 0 → a ≠ b → (TJx5ef63 a).2.1 ≠ (TJx5ef63 b).2.1 := by decide +kernel
theorem tyJx5ef63_ok : ∀ k, k < 0 → parseFieldDescriptor (TJx5ef63 k).2.2.1 = some (tyJx5ef63 k) := by decide +kernel
def RJx4d0d8 : String := "java/util/Iterator"
def TJx4d0d8 : u_T := fun k => match k with
  | _ => ("", "", "", false)
def tyJx4d0d8 : Nat → FieldType := fun k => match k with
  | _ => .int
abbrev wsJx4d0d80 : List Cond := u_ws RJx4d0d8 TJx4d0d8 0
theorem nmJx4d0d8 : ∀ a, a < 0 → ∀ b, b < 0 → a ≠ b → (TJx4d0d8 a).2.1 ≠ (TJx4d0d8 b).2.1 := by decide +kernel
theorem tyJx4d0d8_ok : ∀ k, k < 0 → parseFieldDescriptor (TJx4d0d8 k).2.2.1 = some (tyJx4d0d8 k) := by decide +kernel
def RJxbd725 : String := "java/util/List"
def TJxbd725 : u_T := fun k => match k with
  | _ => ("", "", "", false)
def tyJxbd725 : Nat → FieldType := fun k => match k with
  | _ => .int
abbrev wsJxbd7250 : List Cond := u_ws RJxbd725 TJxbd725 0
theorem nmJxbd725 : ∀ a, a < 0 → ∀ b, b < 0 → a ≠ b → (TJxbd725 a).2.1 ≠ (TJxbd725 b).2.1 := by decide +kernel
theorem tyJxbd725_ok : ∀ k, k < 0 → parseFieldDescriptor (TJxbd725 k).2.2.1 = some (tyJxbd725 k) := by decide +kernel
def RJ15 : String := "java/util/Objects"
def TJ15 : u_T := fun k => match k with
  | _ => ("", "", "", false)
def tyJ15 : Nat → FieldType := fun k => match k with
  | _ => .int
abbrev wsJ150 : List Cond := u_ws RJ15 TJ15 0
theorem nmJ15 : ∀ a, a < 0 → ∀ b, b < 0 → a ≠ b → (TJ15 a).2.1 ≠ (TJ15 b).2.1 := by decide +kernel
theorem tyJ15_ok : ∀ k, k < 0 → parseFieldDescriptor (TJ15 k).2.2.1 = some (tyJ15 k) := by decide +kernel
abbrev cJ15_checkIndex_7cf53 : ByteArray := prog_40_method_17_code
def yJ15_checkIndex_7cf53 : MethodName := ⟨RJ15, "checkIndex", "(II)I"⟩
def RJxf0a74 : String := "java/util/RandomAccess"
def TJxf0a74 : u_T := fun k => match k with
  | _ => ("", "", "", false)
def tyJxf0a74 : Nat → FieldType := fun k => match k with
  | _ => .int
abbrev wsJxf0a740 : List Cond := u_ws RJxf0a74 TJxf0a74 0
theorem nmJxf0a74 : ∀ a, a < 0 → ∀ b, b < 0 → a ≠ b → (TJxf0a74 a).2.1 ≠ (TJxf0a74 b).2.1 := by decide +kernel
theorem tyJxf0a74_ok : ∀ k, k < 0 → parseFieldDescriptor (TJxf0a74 k).2.2.1 = some (tyJxf0a74 k) := by decide +kernel
def RJxa66e6 : String := "java/util/SequencedCollection"
def TJxa66e6 : u_T := fun k => match k with
  | _ => ("", "", "", false)
def tyJxa66e6 : Nat → FieldType := fun k => match k with
  | _ => .int
abbrev wsJxa66e60 : List Cond := u_ws RJxa66e6 TJxa66e6 0
theorem nmJxa66e6 : ∀ a, a < 0 → ∀ b, b < 0 → a ≠ b → (TJxa66e6 a).2.1 ≠ (TJxa66e6 b).2.1 := by decide +kernel
theorem tyJxa66e6_ok : ∀ k, k < 0 → parseFieldDescriptor (TJxa66e6 k).2.2.1 = some (tyJxa66e6 k) := by decide +kernel
def RJ8 : String := "jdk/internal/util/ArraysSupport"
def TJ8 : u_T := fun k => match k with
  | _ => ("", "", "", false)
def tyJ8 : Nat → FieldType := fun k => match k with
  | _ => .int
abbrev wsJ80 : List Cond := u_ws RJ8 TJ8 0
theorem nmJ8 : ∀ a, a < 0 → ∀ b, b < 0 → a ≠ b → (TJ8 a).2.1 ≠ (TJ8 b).2.1 := by decide +kernel
theorem tyJ8_ok : ∀ k, k < 0 → parseFieldDescriptor (TJ8 k).2.2.1 = some (tyJ8 k) := by decide +kernel
abbrev cJ8_newLength_cabcc : ByteArray := prog_43_method_27_code
def yJ8_newLength_cabcc : MethodName := ⟨RJ8, "newLength", "(III)I"⟩
abbrev cJ8_hugeLength_7cf53 : ByteArray := prog_43_method_28_code
def yJ8_hugeLength_7cf53 : MethodName := ⟨RJ8, "hugeLength", "(II)I"⟩
def RJ3 : String := "jdk/internal/util/Preconditions"
def TJ3 : u_T := fun k => match k with
  | _ => ("", "", "", false)
def tyJ3 : Nat → FieldType := fun k => match k with
  | _ => .int
abbrev wsJ30 : List Cond := u_ws RJ3 TJ3 0
theorem nmJ3 : ∀ a, a < 0 → ∀ b, b < 0 → a ≠ b → (TJ3 a).2.1 ≠ (TJ3 b).2.1 := by decide +kernel
theorem tyJ3_ok : ∀ k, k < 0 → parseFieldDescriptor (TJ3 k).2.2.1 = some (tyJ3 k) := by decide +kernel
abbrev cJ3_checkIndex_8e157 : ByteArray := prog_44_method_11_code
def yJ3_checkIndex_8e157 : MethodName := ⟨RJ3, "checkIndex", "(IILjava/util/function/BiFunction;)I"⟩
abbrev cJ3_checkFromToIndex_8c36e : ByteArray := prog_44_method_12_code
def yJ3_checkFromToIndex_8c36e : MethodName := ⟨RJ3, "checkFromToIndex", "(IIILjava/util/function/BiFunction;)I"⟩
abbrev cJ3_checkFromIndexSize_8c36e : ByteArray := prog_44_method_13_code
def yJ3_checkFromIndexSize_8c36e : MethodName := ⟨RJ3, "checkFromIndexSize", "(IIILjava/util/function/BiFunction;)I"⟩
def RL : String := "CalendaractLaw"
abbrev cL_of : ByteArray := method_2_code
def yL_of : MethodName := ⟨RL, "of", "(LCalendaract;IIIILCalendaractLaw$Out;)I"⟩
abbrev cL_ofDay : ByteArray := method_3_code
def yL_ofDay : MethodName := ⟨RL, "ofDay", "(LCalendaract;IILCalendaractLaw$Out;)I"⟩
abbrev cL_ofMonth : ByteArray := method_4_code
def yL_ofMonth : MethodName := ⟨RL, "ofMonth", "(LCalendaract;IIILCalendaractLaw$Out;)I"⟩
abbrev cL_copy : ByteArray := method_5_code
def yL_copy : MethodName := ⟨RL, "copy", "(LCalendaract;IILCalendaractLaw$Out;)I"⟩
abbrev cL_first : ByteArray := method_6_code
def yL_first : MethodName := ⟨RL, "first", "(LCalendaract;ILCalendaractLaw$Out;)I"⟩
abbrev cL_last : ByteArray := method_7_code
def yL_last : MethodName := ⟨RL, "last", "(LCalendaract;ILCalendaractLaw$Out;)I"⟩
abbrev cL_withDay : ByteArray := method_8_code
def yL_withDay : MethodName := ⟨RL, "withDay", "(LCalendaract;IILCalendaractLaw$Out;)I"⟩
abbrev cL_shift : ByteArray := method_9_code
def yL_shift : MethodName := ⟨RL, "shift", "(LCalendaract;IILCalendaractLaw$Out;)I"⟩
abbrev cL_shiftYears : ByteArray := method_10_code
def yL_shiftYears : MethodName := ⟨RL, "shiftYears", "(LCalendaract;IILCalendaractLaw$Out;)I"⟩
abbrev cL_days : ByteArray := method_11_code
def yL_days : MethodName := ⟨RL, "days", "(LCalendaract;IILCalendaractLaw$Out;)I"⟩
abbrev cL_cycles : ByteArray := method_12_code
def yL_cycles : MethodName := ⟨RL, "cycles", "(LCalendaract;IILCalendaractLaw$Out;)I"⟩
abbrev cL_act : ByteArray := method_13_code
def yL_act : MethodName := ⟨RL, "act", "(LCalendaract;IIZZLCalendaractLaw$Out;)I"⟩
abbrev cL_actOften : ByteArray := method_14_code
def yL_actOften : MethodName := ⟨RL, "actOften", "(LCalendaract;IIILCalendaractLaw$Out;)I"⟩
abbrev cL_span : ByteArray := method_15_code
def yL_span : MethodName := ⟨RL, "span", "(LCalendaract;IIIILCalendaractLaw$Out;)I"⟩
abbrev cL_until : ByteArray := method_16_code
def yL_until : MethodName := ⟨RL, "until", "(LCalendaract;IIILCalendaractLaw$Out;)I"⟩
abbrev cL_addSpan : ByteArray := method_17_code
def yL_addSpan : MethodName := ⟨RL, "addSpan", "(LCalendaract;IILCalendaractLaw$Out;)I"⟩
abbrev cL_turnSpan : ByteArray := method_18_code
def yL_turnSpan : MethodName := ⟨RL, "turnSpan", "(LCalendaract;ILCalendaractLaw$Out;)I"⟩
abbrev cL_ofSpan : ByteArray := method_19_code
def yL_ofSpan : MethodName := ⟨RL, "ofSpan", "(LCalendaract;IILCalendaractLaw$Out;)I"⟩
abbrev cL_isKept : ByteArray := method_20_code
def yL_isKept : MethodName := ⟨RL, "isKept", "(LCalendaract;IILCalendaractLaw$Out;)I"⟩
abbrev cL_loss : ByteArray := method_21_code
def yL_loss : MethodName := ⟨RL, "loss", "(LCalendaract;IILCalendaractLaw$Out;)I"⟩
abbrev cL_leadsBack : ByteArray := method_22_code
def yL_leadsBack : MethodName := ⟨RL, "leadsBack", "(LCalendaract;IILCalendaractLaw$Out;)I"⟩
abbrev cL_twice : ByteArray := method_23_code
def yL_twice : MethodName := ⟨RL, "twice", "(LCalendaract;IIILCalendaractLaw$Out;)I"⟩
abbrev cL_gap : ByteArray := method_24_code
def yL_gap : MethodName := ⟨RL, "gap", "(LCalendaract;IIILCalendaractLaw$Out;)I"⟩
abbrev cL_lowest : ByteArray := method_25_code
def yL_lowest : MethodName := ⟨RL, "lowest", "(LCalendaract;IIILCalendaractLaw$Out;)I"⟩
abbrev cL_met : ByteArray := method_26_code
def yL_met : MethodName := ⟨RL, "met", "(LCalendaract;IIILCalendaractLaw$Out;)I"⟩
abbrev cL_keeps : ByteArray := method_27_code
def yL_keeps : MethodName := ⟨RL, "keeps", "(LCalendaract;IILCalendaractLaw$Out;)I"⟩
abbrev cL_month : ByteArray := method_28_code
def yL_month : MethodName := ⟨RL, "month", "(LCalendaract;ILCalendaractLaw$Out;)I"⟩
abbrev cL_ofMonthNumber : ByteArray := method_29_code
def yL_ofMonthNumber : MethodName := ⟨RL, "ofMonthNumber", "(LCalendaract;IILCalendaractLaw$Out;)I"⟩
abbrev cL_lengths : ByteArray := method_30_code
def yL_lengths : MethodName := ⟨RL, "lengths", "(LCalendaract;IILCalendaractLaw$Out;)I"⟩
abbrev cL_weekday : ByteArray := method_31_code
def yL_weekday : MethodName := ⟨RL, "weekday", "(LCalendaract;ILCalendaractLaw$Out;)I"⟩
abbrev cL_nth : ByteArray := method_32_code
def yL_nth : MethodName := ⟨RL, "nth", "(LCalendaract;IIILCalendaractLaw$Out;)I"⟩
abbrev cL_inYear : ByteArray := method_33_code
def yL_inYear : MethodName := ⟨RL, "inYear", "(LCalendaract;IIILCalendaractLaw$Out;)I"⟩
abbrev cL_recurs : ByteArray := method_34_code
def yL_recurs : MethodName := ⟨RL, "recurs", "(LCalendaract;IIILCalendaractLaw$Out;)I"⟩
abbrev cL_age : ByteArray := method_35_code
def yL_age : MethodName := ⟨RL, "age", "(LCalendaract;IILCalendaractLaw$Out;)I"⟩
abbrev cL_anniversaries : ByteArray := method_36_code
def yL_anniversaries : MethodName := ⟨RL, "anniversaries", "(LCalendaract;IIZLCalendaractLaw$Out;)I"⟩
abbrev cL_toNext : ByteArray := method_37_code
def yL_toNext : MethodName := ⟨RL, "toNext", "(LCalendaract;IIZLCalendaractLaw$Out;)I"⟩
abbrev cL_wholeMonths : ByteArray := method_38_code
def yL_wholeMonths : MethodName := ⟨RL, "wholeMonths", "(LCalendaract;IILCalendaractLaw$Out;)I"⟩
abbrev cL_year : ByteArray := method_39_code
def yL_year : MethodName := ⟨RL, "year", "(LCalendaract;ILCalendaractLaw$Out;)I"⟩
abbrev cL_monthOfYear : ByteArray := method_40_code
def yL_monthOfYear : MethodName := ⟨RL, "monthOfYear", "(LCalendaract;ILCalendaractLaw$Out;)I"⟩
abbrev cL_day : ByteArray := method_41_code
def yL_day : MethodName := ⟨RL, "day", "(LCalendaract;ILCalendaractLaw$Out;)I"⟩
abbrev cL_dayOfYear : ByteArray := method_42_code
def yL_dayOfYear : MethodName := ⟨RL, "dayOfYear", "(LCalendaract;ILCalendaractLaw$Out;)I"⟩
abbrev cL_number : ByteArray := method_43_code
def yL_number : MethodName := ⟨RL, "number", "(LCalendaract;ILCalendaractLaw$Out;)I"⟩
abbrev cL_lengthOfMonth : ByteArray := method_44_code
def yL_lengthOfMonth : MethodName := ⟨RL, "lengthOfMonth", "(LCalendaract;ILCalendaractLaw$Out;)I"⟩
abbrev cL_isLeapYear : ByteArray := method_45_code
def yL_isLeapYear : MethodName := ⟨RL, "isLeapYear", "(LCalendaract;ILCalendaractLaw$Out;)I"⟩
abbrev cL_text : ByteArray := method_46_code
def yL_text : MethodName := ⟨RL, "text", "(LCalendaract;ILCalendaractLaw$Out;)I"⟩
abbrev cL_compare : ByteArray := method_47_code
def yL_compare : MethodName := ⟨RL, "compare", "(LCalendaract;IILCalendaractLaw$Out;)I"⟩
abbrev cL_between : ByteArray := method_48_code
def yL_between : MethodName := ⟨RL, "between", "(LCalendaract;IILCalendaractLaw$Out;)I"⟩
abbrev cL_house : ByteArray := method_49_code
def yL_house : MethodName := ⟨RL, "house", "(LCalendaract;ILCalendaractLaw$Out;)I"⟩
abbrev cL_law : ByteArray := code
def yL_law : MethodName := ⟨RL, "law", "([I)Z"⟩
abbrev vwCl : List vw_C := [(RJ0, TJ0, 4), (RJ4, TJ4, 4), (RJ6, TJ6, 1), (RJx00060, TJx00060, 6), (RJx7c733, TJx7c733, 6), (RJx35411, TJx35411, 4), (RJx4a65c, TJx4a65c, 3), (RX1, TX1, 8), (RX2, TX2, 2), (RX3, TX3, 6)]
