/-! ===== BEGIN words of one list among another's, by their places ===== -/
theorem goodIn_r {big : List Cond} (ws : List Cond) (ps : List Nat) (hp : ws = ps.filterMap (fun i => big[i]?)) (h : ws.all goodWord = true) : GoodIn big ws := by
  intro w hw
  have h1 := List.all_eq_true.mp h w hw
  rw [hp] at hw
  obtain ⟨i, -, hi⟩ := List.mem_filterMap.mp hw
  have hm : w ∈ big := by first | exact List.mem_of_getElem? hi | exact List.getElem?_mem hi
  exact ⟨hm, good_of_word h1⟩
theorem goodIn_app {big a b : List Cond} (ha : GoodIn big a) (hb : GoodIn big b) : GoodIn big (a ++ b) := fun w h => (List.mem_append.mp h).elim (ha w) (hb w)
theorem goodIn_ca {big a b : List Cond} {c : Cond} (ha : GoodIn big (c :: a)) (hb : GoodIn big b) : GoodIn big (c :: (a ++ b)) := fun w h => (List.mem_cons.mp h).elim (fun e => ha w (List.mem_cons.mpr (Or.inl e))) (fun h => (List.mem_append.mp h).elim (fun h => ha w (List.mem_cons.mpr (Or.inr h))) (hb w))
theorem goodIn_sub {big ws : List Cond} (hm : ∀ w ∈ ws, w ∈ big) (h : ws.all goodWord = true) : GoodIn big ws := fun w hw => ⟨hm w hw, good_of_word (List.all_eq_true.mp h w hw)⟩
/-! ===== END ===== -/
def RX0 : String := "SwornPounds$Fraction"
def TX0 : u_T := fun k => match k with
  | 0 => ("SwornPounds$Fraction", "upper", "J", false)
  | _ => ("SwornPounds$Fraction", "lower", "J", false)
def tyX0 : Nat → FieldType := fun k => match k with
  | 0 => .long
  | _ => .long
abbrev wsX00 : List Cond := u_ws RX0 TX0 2
theorem nmX0 : ∀ a, a < 2 → ∀ b, b < 2 → a ≠ b → (TX0 a).2.1 ≠ (TX0 b).2.1 := by decide +kernel
theorem tyX0_ok : ∀ k, k < 2 → parseFieldDescriptor (TX0 k).2.2.1 = some (tyX0 k) := by decide +kernel
abbrev cX0_init : ByteArray := prog_2_method_1_code
def yX0_init : MethodName := ⟨RX0, "<init>", "()V"⟩
abbrev cX0_setHeavier : ByteArray := prog_2_method_2_code
def yX0_setHeavier : MethodName := ⟨RX0, "setHeavier", "(LSwornPounds$Town;IIII)V"⟩
abbrev cX0_setMean : ByteArray := prog_2_method_3_code
def yX0_setMean : MethodName := ⟨RX0, "setMean", "(LSwornPounds$Town;IIII)V"⟩
abbrev cX0_put : ByteArray := prog_2_method_4_code
def yX0_put : MethodName := ⟨RX0, "put", "(JJ)V"⟩
abbrev cX0_sharedDivisor : ByteArray := prog_2_method_5_code
def yX0_sharedDivisor : MethodName := ⟨RX0, "sharedDivisor", "(JJ)J"⟩
abbrev cX0_power : ByteArray := prog_2_method_6_code
def yX0_power : MethodName := ⟨RX0, "power", "(II)J"⟩
def RX1 : String := "SwornPounds$Market"
def TX1 : u_T := fun k => match k with
  | 0 => ("SwornPounds$Market", "after", "LSwornPounds$Town;", true)
  | 1 => ("SwornPounds$Market", "acts", "I", false)
  | 2 => ("SwornPounds$Market", "badAct", "I", false)
  | 3 => ("SwornPounds$Market", "why", "I", false)
  | 4 => ("SwornPounds$Market", "sales", "I", false)
  | 5 => ("SwornPounds$Market", "sold", "I", false)
  | 6 => ("SwornPounds$Market", "pounds", "I", false)
  | 7 => ("SwornPounds$Market", "offAct", "I", false)
  | 8 => ("SwornPounds$Market", "by", "I", false)
  | 9 => ("SwornPounds$Market", "across", "I", false)
  | 10 => ("SwornPounds$Market", "twice", "Z", false)
  | 11 => ("SwornPounds$Market", "barred", "Z", false)
  | _ => ("SwornPounds$Market", "cold", "Z", false)
def tyX1 : Nat → FieldType := fun k => match k with
  | 0 => .object "SwornPounds$Town"
  | 1 => .int
  | 2 => .int
  | 3 => .int
  | 4 => .int
  | 5 => .int
  | 6 => .int
  | 7 => .int
  | 8 => .int
  | 9 => .int
  | 10 => .boolean
  | 11 => .boolean
  | _ => .boolean
abbrev wsX10 : List Cond := u_ws RX1 TX1 13
theorem nmX1 : ∀ a, a < 13 → ∀ b, b < 13 → a ≠ b → (TX1 a).2.1 ≠ (TX1 b).2.1 := by decide +kernel
theorem tyX1_ok : ∀ k, k < 13 → parseFieldDescriptor (TX1 k).2.2.1 = some (tyX1 k) := by decide +kernel
abbrev cX1_init : ByteArray := prog_3_method_1_code
def yX1_init : MethodName := ⟨RX1, "<init>", "()V"⟩
abbrev cX1_hold : ByteArray := prog_3_method_2_code
def yX1_hold : MethodName := ⟨RX1, "hold", "(LSwornPounds$Pad;LSwornPounds$Town;)V"⟩
abbrev cX1_answer : ByteArray := prog_3_method_3_code
def yX1_answer : MethodName := ⟨RX1, "answer", "(I)I"⟩
abbrev cX1_beginAct : ByteArray := prog_3_method_4_code
def yX1_beginAct : MethodName := ⟨RX1, "beginAct", "()V"⟩
abbrev cX1_endAct : ByteArray := prog_3_method_5_code
def yX1_endAct : MethodName := ⟨RX1, "endAct", "()V"⟩
abbrev cX1_read : ByteArray := prog_3_method_6_code
def yX1_read : MethodName := ⟨RX1, "read", "(I)V"⟩
abbrev cX1_readPerson : ByteArray := prog_3_method_7_code
def yX1_readPerson : MethodName := ⟨RX1, "readPerson", "(I)V"⟩
abbrev cX1_sit : ByteArray := prog_3_method_8_code
def yX1_sit : MethodName := ⟨RX1, "sit", "(I)V"⟩
abbrev cX1_breakOff : ByteArray := prog_3_method_9_code
def yX1_breakOff : MethodName := ⟨RX1, "breakOff", "(I)V"⟩
abbrev cX1_sell : ByteArray := prog_3_method_10_code
def yX1_sell : MethodName := ⟨RX1, "sell", "()V"⟩
abbrev cX1_reasonAgainst : ByteArray := prog_3_method_11_code
def yX1_reasonAgainst : MethodName := ⟨RX1, "reasonAgainst", "(I)I"⟩
def RX2 : String := "SwornPounds$Pad"
def TX2 : u_T := fun k => match k with
  | 0 => ("SwornPounds$Pad", "signs", "[I", true)
  | _ => ("SwornPounds$Pad", "count", "I", false)
def tyX2 : Nat → FieldType := fun k => match k with
  | 0 => .array .int
  | _ => .int
abbrev wsX20 : List Cond := u_ws RX2 TX2 2
theorem nmX2 : ∀ a, a < 2 → ∀ b, b < 2 → a ≠ b → (TX2 a).2.1 ≠ (TX2 b).2.1 := by decide +kernel
theorem tyX2_ok : ∀ k, k < 2 → parseFieldDescriptor (TX2 k).2.2.1 = some (tyX2 k) := by decide +kernel
abbrev cX2_init : ByteArray := prog_4_method_1_code
def yX2_init : MethodName := ⟨RX2, "<init>", "()V"⟩
abbrev cX2_add : ByteArray := prog_4_method_2_code
def yX2_add : MethodName := ⟨RX2, "add", "(I)Z"⟩
abbrev cX2_firstFault : ByteArray := prog_4_method_3_code
def yX2_firstFault : MethodName := ⟨RX2, "firstFault", "()I"⟩
abbrev cX2_after : ByteArray := prog_4_method_4_code
def yX2_after : MethodName := ⟨RX2, "after", "(II)I"⟩
abbrev cX2_afterNothing : ByteArray := prog_4_method_5_code
def yX2_afterNothing : MethodName := ⟨RX2, "afterNothing", "(I)I"⟩
abbrev cX2_isLetter : ByteArray := prog_4_method_6_code
def yX2_isLetter : MethodName := ⟨RX2, "isLetter", "(I)Z"⟩
def RX3 : String := "SwornPounds$Pans"
def TX3 : u_T := fun k => match k with
  | 0 => ("SwornPounds$Pans", "pounds", "[I", true)
  | 1 => ("SwornPounds$Pans", "sworn", "[I", true)
  | 2 => ("SwornPounds$Pans", "partners", "[I", true)
  | 3 => ("SwornPounds$Pans", "made", "[B", true)
  | 4 => ("SwornPounds$Pans", "fewest", "I", false)
  | 5 => ("SwornPounds$Pans", "bestFirst", "I", false)
  | 6 => ("SwornPounds$Pans", "bestSecond", "I", false)
  | 7 => ("SwornPounds$Pans", "nearest", "I", false)
  | 8 => ("SwornPounds$Pans", "dearest", "I", false)
  | _ => ("SwornPounds$Pans", "dearestAcross", "I", false)
def tyX3 : Nat → FieldType := fun k => match k with
  | 0 => .array .int
  | 1 => .array .int
  | 2 => .array .int
  | 3 => .array .byte
  | 4 => .int
  | 5 => .int
  | 6 => .int
  | 7 => .int
  | 8 => .int
  | _ => .int
abbrev wsX30 : List Cond := u_ws RX3 TX3 10
theorem nmX3 : ∀ a, a < 10 → ∀ b, b < 10 → a ≠ b → (TX3 a).2.1 ≠ (TX3 b).2.1 := by decide +kernel
theorem tyX3_ok : ∀ k, k < 10 → parseFieldDescriptor (TX3 k).2.2.1 = some (tyX3 k) := by decide +kernel
abbrev cX3_init : ByteArray := prog_5_method_1_code
def yX3_init : MethodName := ⟨RX3, "<init>", "()V"⟩
abbrev cX3_fillRows : ByteArray := prog_5_method_2_code
def yX3_fillRows : MethodName := ⟨RX3, "fillRows", "(LSwornPounds$Town;)V"⟩
abbrev cX3_mayIt : ByteArray := prog_5_method_3_code
def yX3_mayIt : MethodName := ⟨RX3, "mayIt", "(I)Z"⟩
abbrev cX3_seatAll : ByteArray := prog_5_method_4_code
def yX3_seatAll : MethodName := ⟨RX3, "seatAll", "(LSwornPounds$Town;ZI)V"⟩
abbrev cX3_seatSecond : ByteArray := prog_5_method_5_code
def yX3_seatSecond : MethodName := ⟨RX3, "seatSecond", "([IIII)V"⟩
abbrev cX3_note : ByteArray := prog_5_method_6_code
def yX3_note : MethodName := ⟨RX3, "note", "(IIII)V"⟩
abbrev cX3_keepFewest : ByteArray := prog_5_method_7_code
def yX3_keepFewest : MethodName := ⟨RX3, "keepFewest", "(II)V"⟩
abbrev cX3_leastUnmade : ByteArray := prog_5_method_8_code
def yX3_leastUnmade : MethodName := ⟨RX3, "leastUnmade", "()I"⟩
abbrev cX3_sellDearest : ByteArray := prog_5_method_9_code
def yX3_sellDearest : MethodName := ⟨RX3, "sellDearest", "(LSwornPounds$Town;II)V"⟩
def RX4 : String := "SwornPounds$Town"
def TX4 : u_T := fun k => match k with
  | 0 => ("SwornPounds$Town", "sworn", "[I", true)
  | 1 => ("SwornPounds$Town", "weight", "[I", true)
  | 2 => ("SwornPounds$Town", "drift", "[I", true)
  | 3 => ("SwornPounds$Town", "spouse", "[I", true)
  | 4 => ("SwornPounds$Town", "sightFirst", "[I", true)
  | 5 => ("SwornPounds$Town", "sightSecond", "[I", true)
  | 6 => ("SwornPounds$Town", "sightHow", "[I", true)
  | 7 => ("SwornPounds$Town", "there", "I", false)
  | 8 => ("SwornPounds$Town", "colds", "I", false)
  | 9 => ("SwornPounds$Town", "limit", "I", false)
  | 10 => ("SwornPounds$Town", "day", "I", false)
  | _ => ("SwornPounds$Town", "sights", "I", false)
def tyX4 : Nat → FieldType := fun k => match k with
  | 0 => .array .int
  | 1 => .array .int
  | 2 => .array .int
  | 3 => .array .int
  | 4 => .array .int
  | 5 => .array .int
  | 6 => .array .int
  | 7 => .int
  | 8 => .int
  | 9 => .int
  | 10 => .int
  | _ => .int
abbrev wsX40 : List Cond := u_ws RX4 TX4 12
theorem nmX4 : ∀ a, a < 12 → ∀ b, b < 12 → a ≠ b → (TX4 a).2.1 ≠ (TX4 b).2.1 := by decide +kernel
theorem tyX4_ok : ∀ k, k < 12 → parseFieldDescriptor (TX4 k).2.2.1 = some (tyX4 k) := by decide +kernel
abbrev cX4_init : ByteArray := prog_6_method_1_code
def yX4_init : MethodName := ⟨RX4, "<init>", "()V"⟩
abbrev cX4_copyFrom : ByteArray := prog_6_method_2_code
def yX4_copyFrom : MethodName := ⟨RX4, "copyFrom", "(LSwornPounds$Town;)V"⟩
abbrev cX4_has : ByteArray := prog_6_method_3_code
def yX4_has : MethodName := ⟨RX4, "has", "(I)Z"⟩
abbrev cX4_hasTwo : ByteArray := prog_6_method_4_code
def yX4_hasTwo : MethodName := ⟨RX4, "hasTwo", "(II)Z"⟩
abbrev cX4_hasAll : ByteArray := prog_6_method_5_code
def yX4_hasAll : MethodName := ⟨RX4, "hasAll", "(I)Z"⟩
abbrev cX4_headcount : ByteArray := prog_6_method_6_code
def yX4_headcount : MethodName := ⟨RX4, "headcount", "()I"⟩
abbrev cX4_settle : ByteArray := prog_6_method_7_code
def yX4_settle : MethodName := ⟨RX4, "settle", "(IIII)V"⟩
abbrev cX4_remove : ByteArray := prog_6_method_8_code
def yX4_remove : MethodName := ⟨RX4, "remove", "(I)V"⟩
abbrev cX4_areMarried : ByteArray := prog_6_method_9_code
def yX4_areMarried : MethodName := ⟨RX4, "areMarried", "(II)Z"⟩
abbrev cX4_mayMarry : ByteArray := prog_6_method_10_code
def yX4_mayMarry : MethodName := ⟨RX4, "mayMarry", "(II)Z"⟩
abbrev cX4_join : ByteArray := prog_6_method_11_code
def yX4_join : MethodName := ⟨RX4, "join", "(II)V"⟩
abbrev cX4_part : ByteArray := prog_6_method_12_code
def yX4_part : MethodName := ⟨RX4, "part", "(I)V"⟩
abbrev cX4_marriages : ByteArray := prog_6_method_13_code
def yX4_marriages : MethodName := ⟨RX4, "marriages", "()I"⟩
abbrev cX4_partner : ByteArray := prog_6_method_14_code
def yX4_partner : MethodName := ⟨RX4, "partner", "(I)I"⟩
abbrev cX4_together : ByteArray := prog_6_method_15_code
def yX4_together : MethodName := ⟨RX4, "together", "(I)Z"⟩
abbrev cX4_poundsOf : ByteArray := prog_6_method_16_code
def yX4_poundsOf : MethodName := ⟨RX4, "poundsOf", "(I)I"⟩
abbrev cX4_withCold : ByteArray := prog_6_method_17_code
def yX4_withCold : MethodName := ⟨RX4, "withCold", "(II)I"⟩
abbrev cX4_poundsOfAll : ByteArray := prog_6_method_18_code
def yX4_poundsOfAll : MethodName := ⟨RX4, "poundsOfAll", "(I)I"⟩
abbrev cX4_sumOver : ByteArray := prog_6_method_19_code
def yX4_sumOver : MethodName := ⟨RX4, "sumOver", "(I[I)I"⟩
abbrev cX4_drifted : ByteArray := prog_6_method_20_code
def yX4_drifted : MethodName := ⟨RX4, "drifted", "(II)I"⟩
abbrev cX4_passDay : ByteArray := prog_6_method_21_code
def yX4_passDay : MethodName := ⟨RX4, "passDay", "()V"⟩
abbrev cX4_feast : ByteArray := prog_6_method_22_code
def yX4_feast : MethodName := ⟨RX4, "feast", "()V"⟩
abbrev cX4_turnCold : ByteArray := prog_6_method_23_code
def yX4_turnCold : MethodName := ⟨RX4, "turnCold", "(I)V"⟩
abbrev cX4_firstDayOff : ByteArray := prog_6_method_24_code
def yX4_firstDayOff : MethodName := ⟨RX4, "firstDayOff", "(I)I"⟩
abbrev cX4_firstDayAlike : ByteArray := prog_6_method_25_code
def yX4_firstDayAlike : MethodName := ⟨RX4, "firstDayAlike", "(II)I"⟩
abbrev cX4_ranked : ByteArray := prog_6_method_26_code
def yX4_ranked : MethodName := ⟨RX4, "ranked", "(I)I"⟩
abbrev cX4_howManyAhead : ByteArray := prog_6_method_27_code
def yX4_howManyAhead : MethodName := ⟨RX4, "howManyAhead", "(I)I"⟩
abbrev cX4_mostAlike : ByteArray := prog_6_method_28_code
def yX4_mostAlike : MethodName := ⟨RX4, "mostAlike", "()I"⟩
abbrev cX4_howManyLike : ByteArray := prog_6_method_29_code
def yX4_howManyLike : MethodName := ⟨RX4, "howManyLike", "(I)I"⟩
abbrev cX4_mayBeWeighed : ByteArray := prog_6_method_30_code
def yX4_mayBeWeighed : MethodName := ⟨RX4, "mayBeWeighed", "(II)Z"⟩
abbrev cX4_addSight : ByteArray := prog_6_method_31_code
def yX4_addSight : MethodName := ⟨RX4, "addSight", "(III)Z"⟩
def RX5 : String := "SwornPounds$Worlds"
def TX5 : u_T := fun k => match k with
  | 0 => ("SwornPounds$Worlds", "who", "[I", true)
  | 1 => ("SwornPounds$Worlds", "more", "[I", true)
  | 2 => ("SwornPounds$Worlds", "leads", "[I", true)
  | 3 => ("SwornPounds$Worlds", "left", "[I", true)
  | 4 => ("SwornPounds$Worlds", "count", "I", false)
  | 5 => ("SwornPounds$Worlds", "bestPair", "I", false)
  | _ => ("SwornPounds$Worlds", "bestLeft", "I", false)
def tyX5 : Nat → FieldType := fun k => match k with
  | 0 => .array .int
  | 1 => .array .int
  | 2 => .array .int
  | 3 => .array .int
  | 4 => .int
  | 5 => .int
  | _ => .int
abbrev wsX50 : List Cond := u_ws RX5 TX5 7
theorem nmX5 : ∀ a, a < 7 → ∀ b, b < 7 → a ≠ b → (TX5 a).2.1 ≠ (TX5 b).2.1 := by decide +kernel
theorem tyX5_ok : ∀ k, k < 7 → parseFieldDescriptor (TX5 k).2.2.1 = some (tyX5 k) := by decide +kernel
abbrev cX5_init : ByteArray := prog_7_method_1_code
def yX5_init : MethodName := ⟨RX5, "<init>", "()V"⟩
abbrev cX5_find : ByteArray := prog_7_method_2_code
def yX5_find : MethodName := ⟨RX5, "find", "(LSwornPounds$Town;)V"⟩
abbrev cX5_findOf : ByteArray := prog_7_method_3_code
def yX5_findOf : MethodName := ⟨RX5, "findOf", "(LSwornPounds$Town;I)V"⟩
abbrev cX5_addIfSeen : ByteArray := prog_7_method_4_code
def yX5_addIfSeen : MethodName := ⟨RX5, "addIfSeen", "(LSwornPounds$Town;II)V"⟩
abbrev cX5_fillLeads : ByteArray := prog_7_method_5_code
def yX5_fillLeads : MethodName := ⟨RX5, "fillLeads", "(LSwornPounds$Town;)V"⟩
abbrev cX5_isAsSeen : ByteArray := prog_7_method_6_code
def yX5_isAsSeen : MethodName := ⟨RX5, "isAsSeen", "(LSwornPounds$Town;II)Z"⟩
abbrev cX5_suspects : ByteArray := prog_7_method_7_code
def yX5_suspects : MethodName := ⟨RX5, "suspects", "()I"⟩
abbrev cX5_leastMore : ByteArray := prog_7_method_8_code
def yX5_leastMore : MethodName := ⟨RX5, "leastMore", "(I)I"⟩
abbrev cX5_choosePair : ByteArray := prog_7_method_9_code
def yX5_choosePair : MethodName := ⟨RX5, "choosePair", "(LSwornPounds$Town;)V"⟩
abbrev cX5_tryPair : ByteArray := prog_7_method_10_code
def yX5_tryPair : MethodName := ⟨RX5, "tryPair", "(LSwornPounds$Town;II)V"⟩
def RX6 : String := "SwornPounds$Year"
def TX6 : u_T := fun k => match k with
  | 0 => ("SwornPounds$Year", "then", "LSwornPounds$Town;", true)
  | 1 => ("SwornPounds$Year", "sold", "I", false)
  | 2 => ("SwornPounds$Year", "pounds", "I", false)
  | _ => ("SwornPounds$Year", "salesOff", "I", false)
def tyX6 : Nat → FieldType := fun k => match k with
  | 0 => .object "SwornPounds$Town"
  | 1 => .int
  | 2 => .int
  | _ => .int
abbrev wsX60 : List Cond := u_ws RX6 TX6 4
theorem nmX6 : ∀ a, a < 4 → ∀ b, b < 4 → a ≠ b → (TX6 a).2.1 ≠ (TX6 b).2.1 := by decide +kernel
theorem tyX6_ok : ∀ k, k < 4 → parseFieldDescriptor (TX6 k).2.2.1 = some (tyX6 k) := by decide +kernel
abbrev cX6_init : ByteArray := prog_8_method_1_code
def yX6_init : MethodName := ⟨RX6, "<init>", "()V"⟩
abbrev cX6_pass : ByteArray := prog_8_method_2_code
def yX6_pass : MethodName := ⟨RX6, "pass", "(LSwornPounds$Town;II)V"⟩
abbrev cX6_sell : ByteArray := prog_8_method_3_code
def yX6_sell : MethodName := ⟨RX6, "sell", "(I)V"⟩
def RX7 : String := "SwornPounds"
def TX7 : u_T := fun k => match k with
  | 0 => ("SwornPounds", "town", "LSwornPounds$Town;", true)
  | 1 => ("SwornPounds", "images", "[LSwornPounds$Town;", true)
  | 2 => ("SwornPounds", "kept", "[Z", true)
  | 3 => ("SwornPounds", "pad", "LSwornPounds$Pad;", true)
  | 4 => ("SwornPounds", "market", "LSwornPounds$Market;", true)
  | 5 => ("SwornPounds", "pans", "LSwornPounds$Pans;", true)
  | 6 => ("SwornPounds", "worlds", "LSwornPounds$Worlds;", true)
  | 7 => ("SwornPounds", "fraction", "LSwornPounds$Fraction;", true)
  | _ => ("SwornPounds", "years", "LSwornPounds$Year;", true)
def tyX7 : Nat → FieldType := fun k => match k with
  | 0 => .object "SwornPounds$Town"
  | 1 => .array (.object "SwornPounds$Town")
  | 2 => .array .boolean
  | 3 => .object "SwornPounds$Pad"
  | 4 => .object "SwornPounds$Market"
  | 5 => .object "SwornPounds$Pans"
  | 6 => .object "SwornPounds$Worlds"
  | 7 => .object "SwornPounds$Fraction"
  | _ => .object "SwornPounds$Year"
abbrev wsX70 : List Cond := u_ws RX7 TX7 9
theorem nmX7 : ∀ a, a < 9 → ∀ b, b < 9 → a ≠ b → (TX7 a).2.1 ≠ (TX7 b).2.1 := by decide +kernel
theorem tyX7_ok : ∀ k, k < 9 → parseFieldDescriptor (TX7 k).2.2.1 = some (tyX7 k) := by decide +kernel
abbrev cX7_init : ByteArray := prog_1_method_1_code
def yX7_init : MethodName := ⟨RX7, "<init>", "()V"⟩
abbrev cX7_person : ByteArray := prog_1_method_2_code
def yX7_person : MethodName := ⟨RX7, "person", "(IIII)I"⟩
abbrev cX7_leave : ByteArray := prog_1_method_3_code
def yX7_leave : MethodName := ⟨RX7, "leave", "(I)I"⟩
abbrev cX7_marry : ByteArray := prog_1_method_4_code
def yX7_marry : MethodName := ⟨RX7, "marry", "(IIZ)I"⟩
abbrev cX7_limit : ByteArray := prog_1_method_5_code
def yX7_limit : MethodName := ⟨RX7, "limit", "(I)I"⟩
abbrev cX7_say : ByteArray := prog_1_method_6_code
def yX7_say : MethodName := ⟨RX7, "say", "(I)I"⟩
abbrev cX7_wipe : ByteArray := prog_1_method_7_code
def yX7_wipe : MethodName := ⟨RX7, "wipe", "()I"⟩
abbrev cX7_fault : ByteArray := prog_1_method_8_code
def yX7_fault : MethodName := ⟨RX7, "fault", "()I"⟩
abbrev cX7_judge : ByteArray := prog_1_method_9_code
def yX7_judge : MethodName := ⟨RX7, "judge", "(I)I"⟩
abbrev cX7_behind : ByteArray := prog_1_method_10_code
def yX7_behind : MethodName := ⟨RX7, "behind", "(II)I"⟩
abbrev cX7_done : ByteArray := prog_1_method_11_code
def yX7_done : MethodName := ⟨RX7, "done", "()I"⟩
abbrev cX7_weighs : ByteArray := prog_1_method_12_code
def yX7_weighs : MethodName := ⟨RX7, "weighs", "(I)I"⟩
abbrev cX7_off : ByteArray := prog_1_method_13_code
def yX7_off : MethodName := ⟨RX7, "off", "(I)I"⟩
abbrev cX7_out : ByteArray := prog_1_method_14_code
def yX7_out : MethodName := ⟨RX7, "out", "(I)I"⟩
abbrev cX7_even : ByteArray := prog_1_method_15_code
def yX7_even : MethodName := ⟨RX7, "even", "(II)I"⟩
abbrev cX7_make : ByteArray := prog_1_method_16_code
def yX7_make : MethodName := ⟨RX7, "make", "(IZI)I"⟩
abbrev cX7_near : ByteArray := prog_1_method_17_code
def yX7_near : MethodName := ⟨RX7, "near", "(IZ)I"⟩
abbrev cX7_gap : ByteArray := prog_1_method_18_code
def yX7_gap : MethodName := ⟨RX7, "gap", "(Z)I"⟩
abbrev cX7_assize : ByteArray := prog_1_method_19_code
def yX7_assize : MethodName := ⟨RX7, "assize", "(I)I"⟩
abbrev cX7_just : ByteArray := prog_1_method_20_code
def yX7_just : MethodName := ⟨RX7, "just", "()I"⟩
abbrev cX7_price : ByteArray := prog_1_method_21_code
def yX7_price : MethodName := ⟨RX7, "price", "(III)I"⟩
abbrev cX7_seen : ByteArray := prog_1_method_22_code
def yX7_seen : MethodName := ⟨RX7, "seen", "(III)I"⟩
abbrev cX7_forget : ByteArray := prog_1_method_23_code
def yX7_forget : MethodName := ⟨RX7, "forget", "()I"⟩
abbrev cX7_airs : ByteArray := prog_1_method_24_code
def yX7_airs : MethodName := ⟨RX7, "airs", "(I)I"⟩
abbrev cX7_air : ByteArray := prog_1_method_25_code
def yX7_air : MethodName := ⟨RX7, "air", "(I)I"⟩
abbrev cX7_cross : ByteArray := prog_1_method_26_code
def yX7_cross : MethodName := ⟨RX7, "cross", "(I)I"⟩
abbrev cX7_chance : ByteArray := prog_1_method_27_code
def yX7_chance : MethodName := ⟨RX7, "chance", "(IIIIII)J"⟩
abbrev cX7_year : ByteArray := prog_1_method_28_code
def yX7_year : MethodName := ⟨RX7, "year", "(III)I"⟩
abbrev cX7_image : ByteArray := prog_1_method_29_code
def yX7_image : MethodName := ⟨RX7, "image", "(I)I"⟩
abbrev cX7_restore : ByteArray := prog_1_method_30_code
def yX7_restore : MethodName := ⟨RX7, "restore", "(I)I"⟩
abbrev cX7_told : ByteArray := prog_1_method_31_code
def yX7_told : MethodName := ⟨RX7, "told", "(I)I"⟩
abbrev cX7_tellPerson : ByteArray := prog_1_method_32_code
def yX7_tellPerson : MethodName := ⟨RX7, "tellPerson", "(II)I"⟩
abbrev cX7_holdMarket : ByteArray := prog_1_method_33_code
def yX7_holdMarket : MethodName := ⟨RX7, "holdMarket", "()I"⟩
abbrev cX7_within : ByteArray := prog_1_method_34_code
def yX7_within : MethodName := ⟨RX7, "within", "(III)Z"⟩
abbrev cX7_holds : ByteArray := prog_1_method_35_code
def yX7_holds : MethodName := ⟨RX7, "holds", "(II)Z"⟩
abbrev cX7_nextSubset : ByteArray := prog_1_method_36_code
def yX7_nextSubset : MethodName := ⟨RX7, "nextSubset", "(II)I"⟩
abbrev cX7_subsetsOf : ByteArray := prog_1_method_37_code
def yX7_subsetsOf : MethodName := ⟨RX7, "subsetsOf", "(I)I"⟩
abbrev cX7_balance : ByteArray := prog_1_method_38_code
def yX7_balance : MethodName := ⟨RX7, "balance", "(II)I"⟩
def RX8 : String := "SwornPoundsModel"
def TX8 : u_T := fun k => match k with
  | 0 => ("SwornPoundsModel", "persons", "I", false)
  | 1 => ("SwornPoundsModel", "colds", "I", false)
  | 2 => ("SwornPoundsModel", "limit", "I", false)
  | 3 => ("SwornPoundsModel", "today", "I", false)
  | 4 => ("SwornPoundsModel", "sworn", "[I", true)
  | 5 => ("SwornPoundsModel", "weight", "[I", true)
  | 6 => ("SwornPoundsModel", "drift", "[I", true)
  | 7 => ("SwornPoundsModel", "mate", "[I", true)
  | 8 => ("SwornPoundsModel", "sightFirst", "[I", true)
  | 9 => ("SwornPoundsModel", "sightSecond", "[I", true)
  | 10 => ("SwornPoundsModel", "sightHow", "[I", true)
  | 11 => ("SwornPoundsModel", "sights", "I", false)
  | 12 => ("SwornPoundsModel", "pad", "[I", true)
  | 13 => ("SwornPoundsModel", "padMany", "I", false)
  | 14 => ("SwornPoundsModel", "act", "[I", true)
  | 15 => ("SwornPoundsModel", "near", "[I", true)
  | 16 => ("SwornPoundsModel", "across", "[I", true)
  | 17 => ("SwornPoundsModel", "twice", "[I", true)
  | 18 => ("SwornPoundsModel", "acts", "I", false)
  | 19 => ("SwornPoundsModel", "sales", "I", false)
  | 20 => ("SwornPoundsModel", "sold", "I", false)
  | 21 => ("SwornPoundsModel", "were", "I", false)
  | 22 => ("SwornPoundsModel", "firstOff", "I", false)
  | 23 => ("SwornPoundsModel", "hadWeight", "[I", true)
  | 24 => ("SwornPoundsModel", "hadColds", "I", false)
  | 25 => ("SwornPoundsModel", "hadToday", "I", false)
  | 26 => ("SwornPoundsModel", "badAct", "I", false)
  | 27 => ("SwornPoundsModel", "badWhy", "I", false)
  | 28 => ("SwornPoundsModel", "leavesPounds", "[I", true)
  | 29 => ("SwornPoundsModel", "leavesWeight", "[I", true)
  | 30 => ("SwornPoundsModel", "leavesDay", "I", false)
  | 31 => ("SwornPoundsModel", "onFirst", "I", false)
  | 32 => ("SwornPoundsModel", "onSecond", "I", false)
  | 33 => ("SwornPoundsModel", "made", "[Z", true)
  | 34 => ("SwornPoundsModel", "worldWho", "[I", true)
  | 35 => ("SwornPoundsModel", "worldBy", "[I", true)
  | 36 => ("SwornPoundsModel", "worlds", "I", false)
  | 37 => ("SwornPoundsModel", "kept", "[I", true)
  | 38 => ("SwornPoundsModel", "isKept", "[Z", true)
  | 39 => ("SwornPoundsModel", "keptAt", "I", false)
  | _ => ("SwornPoundsModel", "isWriting", "Z", false)
def tyX8 : Nat → FieldType := fun k => match k with
  | 0 => .int
  | 1 => .int
  | 2 => .int
  | 3 => .int
  | 4 => .array .int
  | 5 => .array .int
  | 6 => .array .int
  | 7 => .array .int
  | 8 => .array .int
  | 9 => .array .int
  | 10 => .array .int
  | 11 => .int
  | 12 => .array .int
  | 13 => .int
  | 14 => .array .int
  | 15 => .array .int
  | 16 => .array .int
  | 17 => .array .int
  | 18 => .int
  | 19 => .int
  | 20 => .int
  | 21 => .int
  | 22 => .int
  | 23 => .array .int
  | 24 => .int
  | 25 => .int
  | 26 => .int
  | 27 => .int
  | 28 => .array .int
  | 29 => .array .int
  | 30 => .int
  | 31 => .int
  | 32 => .int
  | 33 => .array .boolean
  | 34 => .array .int
  | 35 => .array .int
  | 36 => .int
  | 37 => .array .int
  | 38 => .array .boolean
  | 39 => .int
  | _ => .boolean
abbrev wsX80 : List Cond := u_ws RX8 TX8 41
theorem nmX8 : ∀ a, a < 41 → ∀ b, b < 41 → a ≠ b → (TX8 a).2.1 ≠ (TX8 b).2.1 := by decide +kernel
theorem tyX8_ok : ∀ k, k < 41 → parseFieldDescriptor (TX8 k).2.2.1 = some (tyX8 k) := by decide +kernel
abbrev cX8_init : ByteArray := prog_10_method_1_code
def yX8_init : MethodName := ⟨RX8, "<init>", "()V"⟩
abbrev cX8_in : ByteArray := prog_10_method_3_code
def yX8_in : MethodName := ⟨RX8, "in", "(JJJ)Z"⟩
abbrev cX8_ones : ByteArray := prog_10_method_4_code
def yX8_ones : MethodName := ⟨RX8, "ones", "(I)I"⟩
abbrev cX8_size : ByteArray := prog_10_method_5_code
def yX8_size : MethodName := ⟨RX8, "size", "(I)I"⟩
abbrev cX8_isPerson : ByteArray := prog_10_method_6_code
def yX8_isPerson : MethodName := ⟨RX8, "isPerson", "(I)Z"⟩
abbrev cX8_areTwo : ByteArray := prog_10_method_7_code
def yX8_areTwo : MethodName := ⟨RX8, "areTwo", "(II)Z"⟩
abbrev cX8_pounds : ByteArray := prog_10_method_8_code
def yX8_pounds : MethodName := ⟨RX8, "pounds", "(I)I"⟩
abbrev cX8_person : ByteArray := prog_10_method_9_code
def yX8_person : MethodName := ⟨RX8, "person", "(IIII)I"⟩
abbrev cX8_part : ByteArray := prog_10_method_10_code
def yX8_part : MethodName := ⟨RX8, "part", "(I)V"⟩
abbrev cX8_leave : ByteArray := prog_10_method_11_code
def yX8_leave : MethodName := ⟨RX8, "leave", "(I)I"⟩
abbrev cX8_marriages : ByteArray := prog_10_method_12_code
def yX8_marriages : MethodName := ⟨RX8, "marriages", "()I"⟩
abbrev cX8_marry : ByteArray := prog_10_method_13_code
def yX8_marry : MethodName := ⟨RX8, "marry", "(IIZ)I"⟩
abbrev cX8_limit : ByteArray := prog_10_method_14_code
def yX8_limit : MethodName := ⟨RX8, "limit", "(I)I"⟩
abbrev cX8_say : ByteArray := prog_10_method_15_code
def yX8_say : MethodName := ⟨RX8, "say", "(I)I"⟩
abbrev cX8_wipe : ByteArray := prog_10_method_16_code
def yX8_wipe : MethodName := ⟨RX8, "wipe", "()I"⟩
abbrev cX8_beginAct : ByteArray := prog_10_method_17_code
def yX8_beginAct : MethodName := ⟨RX8, "beginAct", "(I)I"⟩
abbrev cX8_isLetter : ByteArray := prog_10_method_18_code
def yX8_isLetter : MethodName := ⟨RX8, "isLetter", "(I)Z"⟩
abbrev cX8_sit : ByteArray := prog_10_method_19_code
def yX8_sit : MethodName := ⟨RX8, "sit", "(I)V"⟩
abbrev cX8_readNear : ByteArray := prog_10_method_20_code
def yX8_readNear : MethodName := ⟨RX8, "readNear", "(I)I"⟩
abbrev cX8_readAcross : ByteArray := prog_10_method_21_code
def yX8_readAcross : MethodName := ⟨RX8, "readAcross", "(II)I"⟩
abbrev cX8_readCold : ByteArray := prog_10_method_22_code
def yX8_readCold : MethodName := ⟨RX8, "readCold", "(I)I"⟩
abbrev cX8_fault : ByteArray := prog_10_method_23_code
def yX8_fault : MethodName := ⟨RX8, "fault", "()I"⟩
abbrev cX8_areTogether : ByteArray := prog_10_method_24_code
def yX8_areTogether : MethodName := ⟨RX8, "areTogether", "(I)Z"⟩
abbrev cX8_swornOf : ByteArray := prog_10_method_25_code
def yX8_swornOf : MethodName := ⟨RX8, "swornOf", "(I)I"⟩
abbrev cX8_poundsOf : ByteArray := prog_10_method_26_code
def yX8_poundsOf : MethodName := ⟨RX8, "poundsOf", "(I)I"⟩
abbrev cX8_whyNot : ByteArray := prog_10_method_27_code
def yX8_whyNot : MethodName := ⟨RX8, "whyNot", "(I)I"⟩
abbrev cX8_bounded : ByteArray := prog_10_method_28_code
def yX8_bounded : MethodName := ⟨RX8, "bounded", "(I)I"⟩
abbrev cX8_passDay : ByteArray := prog_10_method_29_code
def yX8_passDay : MethodName := ⟨RX8, "passDay", "()V"⟩
abbrev cX8_feast : ByteArray := prog_10_method_30_code
def yX8_feast : MethodName := ⟨RX8, "feast", "()V"⟩
abbrev cX8_sell : ByteArray := prog_10_method_31_code
def yX8_sell : MethodName := ⟨RX8, "sell", "(I)V"⟩
abbrev cX8_happen : ByteArray := prog_10_method_32_code
def yX8_happen : MethodName := ⟨RX8, "happen", "(I)V"⟩
abbrev cX8_keepNow : ByteArray := prog_10_method_33_code
def yX8_keepNow : MethodName := ⟨RX8, "keepNow", "()V"⟩
abbrev cX8_putBack : ByteArray := prog_10_method_34_code
def yX8_putBack : MethodName := ⟨RX8, "putBack", "()V"⟩
abbrev cX8_goMarket : ByteArray := prog_10_method_35_code
def yX8_goMarket : MethodName := ⟨RX8, "goMarket", "()V"⟩
abbrev cX8_refusal : ByteArray := prog_10_method_36_code
def yX8_refusal : MethodName := ⟨RX8, "refusal", "()I"⟩
abbrev cX8_judge : ByteArray := prog_10_method_37_code
def yX8_judge : MethodName := ⟨RX8, "judge", "(I)I"⟩
abbrev cX8_behind : ByteArray := prog_10_method_38_code
def yX8_behind : MethodName := ⟨RX8, "behind", "(II)I"⟩
abbrev cX8_done : ByteArray := prog_10_method_39_code
def yX8_done : MethodName := ⟨RX8, "done", "()I"⟩
abbrev cX8_weighs : ByteArray := prog_10_method_40_code
def yX8_weighs : MethodName := ⟨RX8, "weighs", "(I)I"⟩
abbrev cX8_off : ByteArray := prog_10_method_41_code
def yX8_off : MethodName := ⟨RX8, "off", "(I)I"⟩
abbrev cX8_out : ByteArray := prog_10_method_42_code
def yX8_out : MethodName := ⟨RX8, "out", "(I)I"⟩
abbrev cX8_even : ByteArray := prog_10_method_43_code
def yX8_even : MethodName := ⟨RX8, "even", "(II)I"⟩
abbrev cX8_seat : ByteArray := prog_10_method_44_code
def yX8_seat : MethodName := ⟨RX8, "seat", "(I)Z"⟩
abbrev cX8_difference : ByteArray := prog_10_method_45_code
def yX8_difference : MethodName := ⟨RX8, "difference", "(Z)I"⟩
abbrev cX8_make : ByteArray := prog_10_method_46_code
def yX8_make : MethodName := ⟨RX8, "make", "(IZI)I"⟩
abbrev cX8_near : ByteArray := prog_10_method_47_code
def yX8_near : MethodName := ⟨RX8, "near", "(IZ)I"⟩
abbrev cX8_gap : ByteArray := prog_10_method_48_code
def yX8_gap : MethodName := ⟨RX8, "gap", "(Z)I"⟩
abbrev cX8_assize : ByteArray := prog_10_method_49_code
def yX8_assize : MethodName := ⟨RX8, "assize", "(I)I"⟩
abbrev cX8_just : ByteArray := prog_10_method_50_code
def yX8_just : MethodName := ⟨RX8, "just", "()I"⟩
abbrev cX8_price : ByteArray := prog_10_method_51_code
def yX8_price : MethodName := ⟨RX8, "price", "(III)I"⟩
abbrev cX8_areSides : ByteArray := prog_10_method_52_code
def yX8_areSides : MethodName := ⟨RX8, "areSides", "(II)Z"⟩
abbrev cX8_seen : ByteArray := prog_10_method_53_code
def yX8_seen : MethodName := ⟨RX8, "seen", "(III)I"⟩
abbrev cX8_forget : ByteArray := prog_10_method_54_code
def yX8_forget : MethodName := ⟨RX8, "forget", "()I"⟩
abbrev cX8_airyOf : ByteArray := prog_10_method_55_code
def yX8_airyOf : MethodName := ⟨RX8, "airyOf", "(III)I"⟩
abbrev cX8_howAcross : ByteArray := prog_10_method_56_code
def yX8_howAcross : MethodName := ⟨RX8, "howAcross", "(IIII)I"⟩
abbrev cX8_isWorld : ByteArray := prog_10_method_57_code
def yX8_isWorld : MethodName := ⟨RX8, "isWorld", "(II)Z"⟩
abbrev cX8_addWorld : ByteArray := prog_10_method_58_code
def yX8_addWorld : MethodName := ⟨RX8, "addWorld", "(II)V"⟩
abbrev cX8_findWorlds : ByteArray := prog_10_method_59_code
def yX8_findWorlds : MethodName := ⟨RX8, "findWorlds", "()V"⟩
abbrev cX8_airs : ByteArray := prog_10_method_60_code
def yX8_airs : MethodName := ⟨RX8, "airs", "(I)I"⟩
abbrev cX8_air : ByteArray := prog_10_method_61_code
def yX8_air : MethodName := ⟨RX8, "air", "(I)I"⟩
abbrev cX8_mostLeft : ByteArray := prog_10_method_62_code
def yX8_mostLeft : MethodName := ⟨RX8, "mostLeft", "(II)I"⟩
abbrev cX8_cross : ByteArray := prog_10_method_63_code
def yX8_cross : MethodName := ⟨RX8, "cross", "(I)I"⟩
abbrev cX8_lowest : ByteArray := prog_10_method_64_code
def yX8_lowest : MethodName := ⟨RX8, "lowest", "(JJI)J"⟩
abbrev cX8_chance : ByteArray := prog_10_method_65_code
def yX8_chance : MethodName := ⟨RX8, "chance", "(IIIIII)J"⟩
abbrev cX8_year : ByteArray := prog_10_method_66_code
def yX8_year : MethodName := ⟨RX8, "year", "(III)I"⟩
abbrev cX8_pass : ByteArray := prog_10_method_67_code
def yX8_pass : MethodName := ⟨RX8, "pass", "(I)I"⟩
abbrev cX8_passAll : ByteArray := prog_10_method_68_code
def yX8_passAll : MethodName := ⟨RX8, "passAll", "()V"⟩
abbrev cX8_image : ByteArray := prog_10_method_69_code
def yX8_image : MethodName := ⟨RX8, "image", "(I)I"⟩
abbrev cX8_restore : ByteArray := prog_10_method_70_code
def yX8_restore : MethodName := ⟨RX8, "restore", "(I)I"⟩
abbrev cX8_toldOf : ByteArray := prog_10_method_71_code
def yX8_toldOf : MethodName := ⟨RX8, "toldOf", "(II)I"⟩
abbrev cX8_told : ByteArray := prog_10_method_72_code
def yX8_told : MethodName := ⟨RX8, "told", "(I)I"⟩
def RJ6 : String := "java/lang/Integer"
def TJ6 : u_T := fun k => match k with
  | _ => ("", "", "", false)
def tyJ6 : Nat → FieldType := fun k => match k with
  | _ => .int
abbrev wsJ60 : List Cond := u_ws RJ6 TJ6 0
theorem nmJ6 : ∀ a, a < 0 → ∀ b, b < 0 → a ≠ b → (TJ6 a).2.1 ≠ (TJ6 b).2.1 := by decide +kernel
theorem tyJ6_ok : ∀ k, k < 0 → parseFieldDescriptor (TJ6 k).2.2.1 = some (tyJ6 k) := by decide +kernel
abbrev cJ6_bitCount_0f7a4 : ByteArray := prog_11_method_49_code
def yJ6_bitCount_0f7a4 : MethodName := ⟨RJ6, "bitCount", "(I)I"⟩
def RJ9 : String := "java/lang/Math"
def TJ9 : u_T := fun k => match k with
  | _ => ("", "", "", false)
def tyJ9 : Nat → FieldType := fun k => match k with
  | _ => .int
abbrev wsJ90 : List Cond := u_ws RJ9 TJ9 0
theorem nmJ9 : ∀ a, a < 0 → ∀ b, b < 0 → a ≠ b → (TJ9 a).2.1 ≠ (TJ9 b).2.1 := by decide +kernel
theorem tyJ9_ok : ∀ k, k < 0 → parseFieldDescriptor (TJ9 k).2.2.1 = some (tyJ9 k) := by decide +kernel
abbrev cJ9_abs_0f7a4 : ByteArray := prog_12_method_59_code
def yJ9_abs_0f7a4 : MethodName := ⟨RJ9, "abs", "(I)I"⟩
abbrev cJ9_abs_067f4 : ByteArray := prog_12_method_61_code
def yJ9_abs_067f4 : MethodName := ⟨RJ9, "abs", "(J)J"⟩
abbrev cJ9_max_7cf53 : ByteArray := prog_12_method_65_code
def yJ9_max_7cf53 : MethodName := ⟨RJ9, "max", "(II)I"⟩
abbrev cJ9_min_7cf53 : ByteArray := prog_12_method_69_code
def yJ9_min_7cf53 : MethodName := ⟨RJ9, "min", "(II)I"⟩
def RJ10 : String := "java/lang/System"
def TJ10 : u_T := fun k => match k with
  | _ => ("", "", "", false)
def tyJ10 : Nat → FieldType := fun k => match k with
  | _ => .int
abbrev wsJ100 : List Cond := u_ws RJ10 TJ10 0
theorem nmJ10 : ∀ a, a < 0 → ∀ b, b < 0 → a ≠ b → (TJ10 a).2.1 ≠ (TJ10 b).2.1 := by decide +kernel
theorem tyJ10_ok : ∀ k, k < 0 → parseFieldDescriptor (TJ10 k).2.2.1 = some (tyJ10 k) := by decide +kernel
def RJ7 : String := "java/util/Arrays"
def TJ7 : u_T := fun k => match k with
  | _ => ("", "", "", false)
def tyJ7 : Nat → FieldType := fun k => match k with
  | _ => .int
abbrev wsJ70 : List Cond := u_ws RJ7 TJ7 0
theorem nmJ7 : ∀ a, a < 0 → ∀ b, b < 0 → a ≠ b → (TJ7 a).2.1 ≠ (TJ7 b).2.1 := by decide +kernel
theorem tyJ7_ok : ∀ k, k < 0 → parseFieldDescriptor (TJ7 k).2.2.1 = some (tyJ7 k) := by decide +kernel
abbrev cJ7_fill_53178 : ByteArray := prog_14_method_103_code
def yJ7_fill_53178 : MethodName := ⟨RJ7, "fill", "([II)V"⟩
abbrev cJ7_fill_031fb : ByteArray := prog_14_method_109_code
def yJ7_fill_031fb : MethodName := ⟨RJ7, "fill", "([BB)V"⟩
def RL : String := "SwornPoundsLaw"
abbrev cL_law : ByteArray := code
def yL_law : MethodName := ⟨RL, "law", "([I)Z"⟩
abbrev vwCl : List vw_C := [(RX0, TX0, 2), (RX1, TX1, 13), (RX2, TX2, 2), (RX3, TX3, 10), (RX4, TX4, 12), (RX5, TX5, 7), (RX6, TX6, 4), (RX7, TX7, 9), (RX8, TX8, 41)]
/-! the words that the contracts rest on: the good ones of the tables; each used one by its place -/
def wL : List Cond := lw_tbl.filter goodWord
theorem wL_good : GoodIn wL wL := fun _ h => ⟨h, good_of_word (List.mem_filter.mp h).2⟩
theorem wL_tbl : ∀ w ∈ wL, w ∈ lw_tbl := fun _ h => (List.mem_filter.mp h).1
theorem wL_t1 : ∀ w ∈ tables_1_1, w ∈ lw_tbl := fun _ h => List.mem_append_right _ (List.mem_append_left _ h)
theorem wL_t2 : ∀ w ∈ tables_1_2, w ∈ lw_tbl := fun _ h => List.mem_append_right _ (List.mem_append_right _ (List.mem_append_left _ h))
theorem wL_t3 : ∀ w ∈ tables_1_3, w ∈ lw_tbl := fun _ h => List.mem_append_right _ (List.mem_append_right _ (List.mem_append_right _ (List.mem_append_left _ h)))
theorem wL_t4 : ∀ w ∈ tables_1_4, w ∈ lw_tbl := fun _ h => List.mem_append_right _ (List.mem_append_right _ (List.mem_append_right _ (List.mem_append_right _ (List.mem_append_left _ h))))
theorem wL_t5 : ∀ w ∈ tables_1_5, w ∈ lw_tbl := fun _ h => List.mem_append_right _ (List.mem_append_right _ (List.mem_append_right _ (List.mem_append_right _ (List.mem_append_right _ (List.mem_append_left _ h)))))
theorem wL_t6 : ∀ w ∈ tables_1_6, w ∈ lw_tbl := fun _ h => List.mem_append_right _ (List.mem_append_right _ (List.mem_append_right _ (List.mem_append_right _ (List.mem_append_right _ (List.mem_append_right _ h)))))
theorem wL_p1 : ∀ q ∈ lw_privs_1, Cond.selects q.1.cls q.1 q.1 ∈ lw_tbl := fun q h => List.mem_append_left _ (List.mem_map_of_mem (f := fun q : MethodName × Nat => Cond.selects q.1.cls q.1 q.1) (show q ∈ lw_privs from (List.mem_append_left _ h)))
theorem wL_p2 : ∀ q ∈ lw_privs_2, Cond.selects q.1.cls q.1 q.1 ∈ lw_tbl := fun q h => List.mem_append_left _ (List.mem_map_of_mem (f := fun q : MethodName × Nat => Cond.selects q.1.cls q.1 q.1) (show q ∈ lw_privs from (List.mem_append_right _ (List.mem_append_left _ h))))
theorem wL_p3 : ∀ q ∈ lw_privs_3, Cond.selects q.1.cls q.1 q.1 ∈ lw_tbl := fun q h => List.mem_append_left _ (List.mem_map_of_mem (f := fun q : MethodName × Nat => Cond.selects q.1.cls q.1 q.1) (show q ∈ lw_privs from (List.mem_append_right _ (List.mem_append_right _ (List.mem_append_left _ h)))))
theorem wL_p4 : ∀ q ∈ lw_privs_4, Cond.selects q.1.cls q.1 q.1 ∈ lw_tbl := fun q h => List.mem_append_left _ (List.mem_map_of_mem (f := fun q : MethodName × Nat => Cond.selects q.1.cls q.1 q.1) (show q ∈ lw_privs from (List.mem_append_right _ (List.mem_append_right _ (List.mem_append_right _ h)))))
theorem wm_kl_L_7 : Cond.classLink RL 7 RX7 ∈ wL := List.mem_filter.mpr ⟨wL_t1 _ (List.mem_of_getElem? (i := 14) rfl), rfl⟩
theorem wm_it_X7 : Cond.instantiable RX7 9 ∈ wL := List.mem_filter.mpr ⟨wL_t1 _ (List.mem_of_getElem? (i := 15) rfl), rfl⟩
theorem wm_ini_X7 : Cond.initialized RX7 ∈ wL := List.mem_filter.mpr ⟨wL_t1 _ (List.mem_of_getElem? (i := 1) rfl), rfl⟩
theorem wm_kl_L_10 : Cond.classLink RL 10 RX8 ∈ wL := List.mem_filter.mpr ⟨wL_t4 _ (List.mem_of_getElem? (i := 60) rfl), rfl⟩
theorem wm_it_X8 : Cond.instantiable RX8 41 ∈ wL := List.mem_filter.mpr ⟨wL_t4 _ (List.mem_of_getElem? (i := 61) rfl), rfl⟩
theorem wm_ini_X8 : Cond.initialized RX8 ∈ wL := List.mem_filter.mpr ⟨wL_t1 _ (List.mem_of_getElem? (i := 10) rfl), rfl⟩
theorem wm_ml_L_9 : Cond.methodLink RL 9 yX7_init ∈ wL := List.mem_filter.mpr ⟨wL_t1 _ (List.mem_of_getElem? (i := 16) rfl), rfl⟩
theorem wm_im_X7_init : Cond.instanceMethod yX7_init ∈ wL := List.mem_filter.mpr ⟨wL_t1 _ (List.mem_of_getElem? (i := 17) rfl), rfl⟩
theorem wm_cd_X7_init : Cond.code yX7_init cX7_init 2 none ∈ wL := List.mem_filter.mpr ⟨wL_t1 _ (List.mem_of_getElem? (i := 18) rfl), rfl⟩
theorem wm_ml_X7_1 : Cond.methodLink RX7 1 objectInit ∈ wL := List.mem_filter.mpr ⟨wL_t1 _ (List.mem_of_getElem? (i := 19) rfl), rfl⟩
theorem wm_im_objectInit : Cond.instanceMethod objectInit ∈ wL := List.mem_filter.mpr ⟨wL_t1 _ (List.mem_of_getElem? (i := 20) rfl), rfl⟩
theorem wm_cd_objectInit : Cond.code objectInit ⟨#[0xb1]⟩ 1 none ∈ wL := List.mem_filter.mpr ⟨wL_t1 _ (List.mem_of_getElem? (i := 21) rfl), rfl⟩
theorem wm_kl_X7_7 : Cond.classLink RX7 7 RX4 ∈ wL := List.mem_filter.mpr ⟨wL_t1 _ (List.mem_of_getElem? (i := 22) rfl), rfl⟩
theorem wm_it_X4 : Cond.instantiable RX4 12 ∈ wL := List.mem_filter.mpr ⟨wL_t1 _ (List.mem_of_getElem? (i := 23) rfl), rfl⟩
theorem wm_ini_X4 : Cond.initialized RX4 ∈ wL := List.mem_filter.mpr ⟨wL_t1 _ (List.mem_of_getElem? (i := 2) rfl), rfl⟩
theorem wm_fl_X7_10 : Cond.fieldLink RX7 10 "SwornPounds" "town" "LSwornPounds$Town;" ∈ wL := List.mem_filter.mpr ⟨wL_t2 _ (List.mem_of_getElem? (i := 33) rfl), rfl⟩
theorem wm_fl_X7_16 : Cond.fieldLink RX7 16 "SwornPounds" "images" "[LSwornPounds$Town;" ∈ wL := List.mem_filter.mpr ⟨wL_t2 _ (List.mem_of_getElem? (i := 34) rfl), rfl⟩
theorem wm_ac_boolean : Cond.arrayClass .boolean ∈ wL := List.mem_filter.mpr ⟨wL_t1 _ (List.mem_of_getElem? (i := 107) rfl), rfl⟩
theorem wm_fl_X7_20 : Cond.fieldLink RX7 20 "SwornPounds" "kept" "[Z" ∈ wL := List.mem_filter.mpr ⟨wL_t2 _ (List.mem_of_getElem? (i := 35) rfl), rfl⟩
theorem wm_kl_X7_24 : Cond.classLink RX7 24 RX2 ∈ wL := List.mem_filter.mpr ⟨wL_t1 _ (List.mem_of_getElem? (i := 91) rfl), rfl⟩
theorem wm_it_X2 : Cond.instantiable RX2 2 ∈ wL := List.mem_filter.mpr ⟨wL_t1 _ (List.mem_of_getElem? (i := 92) rfl), rfl⟩
theorem wm_ini_X2 : Cond.initialized RX2 ∈ wL := List.mem_filter.mpr ⟨wL_t1 _ (List.mem_of_getElem? (i := 4) rfl), rfl⟩
theorem wm_fl_X7_27 : Cond.fieldLink RX7 27 "SwornPounds" "pad" "LSwornPounds$Pad;" ∈ wL := List.mem_filter.mpr ⟨wL_t2 _ (List.mem_of_getElem? (i := 36) rfl), rfl⟩
theorem wm_kl_X7_31 : Cond.classLink RX7 31 RX1 ∈ wL := List.mem_filter.mpr ⟨wL_t1 _ (List.mem_of_getElem? (i := 108) rfl), rfl⟩
theorem wm_it_X1 : Cond.instantiable RX1 13 ∈ wL := List.mem_filter.mpr ⟨wL_t1 _ (List.mem_of_getElem? (i := 109) rfl), rfl⟩
theorem wm_ini_X1 : Cond.initialized RX1 ∈ wL := List.mem_filter.mpr ⟨wL_t1 _ (List.mem_of_getElem? (i := 5) rfl), rfl⟩
theorem wm_fl_X7_34 : Cond.fieldLink RX7 34 "SwornPounds" "market" "LSwornPounds$Market;" ∈ wL := List.mem_filter.mpr ⟨wL_t2 _ (List.mem_of_getElem? (i := 37) rfl), rfl⟩
theorem wm_kl_X7_38 : Cond.classLink RX7 38 RX3 ∈ wL := List.mem_filter.mpr ⟨wL_t1 _ (List.mem_of_getElem? (i := 159) rfl), rfl⟩
theorem wm_it_X3 : Cond.instantiable RX3 10 ∈ wL := List.mem_filter.mpr ⟨wL_t1 _ (List.mem_of_getElem? (i := 160) rfl), rfl⟩
theorem wm_ini_X3 : Cond.initialized RX3 ∈ wL := List.mem_filter.mpr ⟨wL_t1 _ (List.mem_of_getElem? (i := 6) rfl), rfl⟩
theorem wm_fl_X7_41 : Cond.fieldLink RX7 41 "SwornPounds" "pans" "LSwornPounds$Pans;" ∈ wL := List.mem_filter.mpr ⟨wL_t2 _ (List.mem_of_getElem? (i := 38) rfl), rfl⟩
theorem wm_kl_X7_45 : Cond.classLink RX7 45 RX5 ∈ wL := List.mem_filter.mpr ⟨wL_t1 _ (List.mem_of_getElem? (i := 203) rfl), rfl⟩
theorem wm_it_X5 : Cond.instantiable RX5 7 ∈ wL := List.mem_filter.mpr ⟨wL_t1 _ (List.mem_of_getElem? (i := 204) rfl), rfl⟩
theorem wm_ini_X5 : Cond.initialized RX5 ∈ wL := List.mem_filter.mpr ⟨wL_t1 _ (List.mem_of_getElem? (i := 7) rfl), rfl⟩
theorem wm_fl_X7_48 : Cond.fieldLink RX7 48 "SwornPounds" "worlds" "LSwornPounds$Worlds;" ∈ wL := List.mem_filter.mpr ⟨wL_t2 _ (List.mem_of_getElem? (i := 39) rfl), rfl⟩
theorem wm_kl_X7_52 : Cond.classLink RX7 52 RX0 ∈ wL := List.mem_filter.mpr ⟨wL_t1 _ (List.mem_of_getElem? (i := 234) rfl), rfl⟩
theorem wm_it_X0 : Cond.instantiable RX0 2 ∈ wL := List.mem_filter.mpr ⟨wL_t1 _ (List.mem_of_getElem? (i := 235) rfl), rfl⟩
theorem wm_ini_X0 : Cond.initialized RX0 ∈ wL := List.mem_filter.mpr ⟨wL_t1 _ (List.mem_of_getElem? (i := 8) rfl), rfl⟩
theorem wm_fl_X7_55 : Cond.fieldLink RX7 55 "SwornPounds" "fraction" "LSwornPounds$Fraction;" ∈ wL := List.mem_filter.mpr ⟨wL_t2 _ (List.mem_of_getElem? (i := 40) rfl), rfl⟩
theorem wm_kl_X7_59 : Cond.classLink RX7 59 RX6 ∈ wL := List.mem_filter.mpr ⟨wL_t2 _ (List.mem_of_getElem? (i := 9) rfl), rfl⟩
theorem wm_it_X6 : Cond.instantiable RX6 4 ∈ wL := List.mem_filter.mpr ⟨wL_t2 _ (List.mem_of_getElem? (i := 10) rfl), rfl⟩
theorem wm_ini_X6 : Cond.initialized RX6 ∈ wL := List.mem_filter.mpr ⟨wL_t1 _ (List.mem_of_getElem? (i := 9) rfl), rfl⟩
theorem wm_fl_X7_62 : Cond.fieldLink RX7 62 "SwornPounds" "years" "LSwornPounds$Year;" ∈ wL := List.mem_filter.mpr ⟨wL_t2 _ (List.mem_of_getElem? (i := 41) rfl), rfl⟩
theorem wm_ml_X7_9 : Cond.methodLink RX7 9 yX4_init ∈ wL := List.mem_filter.mpr ⟨wL_t1 _ (List.mem_of_getElem? (i := 24) rfl), rfl⟩
theorem wm_im_X4_init : Cond.instanceMethod yX4_init ∈ wL := List.mem_filter.mpr ⟨wL_t1 _ (List.mem_of_getElem? (i := 25) rfl), rfl⟩
theorem wm_cd_X4_init : Cond.code yX4_init cX4_init 1 none ∈ wL := List.mem_filter.mpr ⟨wL_t1 _ (List.mem_of_getElem? (i := 26) rfl), rfl⟩
theorem wm_ml_X4_3 : Cond.methodLink RX4 3 objectInit ∈ wL := List.mem_filter.mpr ⟨wL_t1 _ (List.mem_of_getElem? (i := 27) rfl), rfl⟩
theorem wm_ac_int : Cond.arrayClass .int ∈ wL := List.mem_filter.mpr ⟨wL_t1 _ (List.mem_of_getElem? (i := 89) rfl), rfl⟩
theorem wm_fl_X4_9 : Cond.fieldLink RX4 9 "SwornPounds$Town" "sworn" "[I" ∈ wL := List.mem_filter.mpr ⟨wL_t1 _ (List.mem_of_getElem? (i := 31) rfl), rfl⟩
theorem wm_fl_X4_15 : Cond.fieldLink RX4 15 "SwornPounds$Town" "weight" "[I" ∈ wL := List.mem_filter.mpr ⟨wL_t1 _ (List.mem_of_getElem? (i := 37) rfl), rfl⟩
theorem wm_fl_X4_18 : Cond.fieldLink RX4 18 "SwornPounds$Town" "drift" "[I" ∈ wL := List.mem_filter.mpr ⟨wL_t1 _ (List.mem_of_getElem? (i := 40) rfl), rfl⟩
theorem wm_fl_X4_21 : Cond.fieldLink RX4 21 "SwornPounds$Town" "spouse" "[I" ∈ wL := List.mem_filter.mpr ⟨wL_t1 _ (List.mem_of_getElem? (i := 42) rfl), rfl⟩
theorem wm_fl_X4_24 : Cond.fieldLink RX4 24 "SwornPounds$Town" "sightFirst" "[I" ∈ wL := List.mem_filter.mpr ⟨wL_t1 _ (List.mem_of_getElem? (i := 44) rfl), rfl⟩
theorem wm_fl_X4_27 : Cond.fieldLink RX4 27 "SwornPounds$Town" "sightSecond" "[I" ∈ wL := List.mem_filter.mpr ⟨wL_t1 _ (List.mem_of_getElem? (i := 46) rfl), rfl⟩
theorem wm_fl_X4_30 : Cond.fieldLink RX4 30 "SwornPounds$Town" "sightHow" "[I" ∈ wL := List.mem_filter.mpr ⟨wL_t1 _ (List.mem_of_getElem? (i := 48) rfl), rfl⟩
theorem wm_fl_X4_33 : Cond.fieldLink RX4 33 "SwornPounds$Town" "limit" "I" ∈ wL := List.mem_filter.mpr ⟨wL_t1 _ (List.mem_of_getElem? (i := 55) rfl), rfl⟩
theorem wm_ml_X4_37 : Cond.methodLink RX4 37 yJ7_fill_53178 ∈ wL := List.mem_filter.mpr ⟨wL_t1 _ (List.mem_of_getElem? (i := 28) rfl), rfl⟩
theorem wm_st_J7_fill_53178 : Cond.static yJ7_fill_53178 ∈ wL := List.mem_filter.mpr ⟨wL_t1 _ (List.mem_of_getElem? (i := 29) rfl), rfl⟩
theorem wm_ini_J7 : Cond.initialized RJ7 ∈ wL := List.mem_filter.mpr ⟨wL_t1 _ (List.mem_of_getElem? (i := 3) rfl), rfl⟩
theorem wm_cd_J7_fill_53178 : Cond.code yJ7_fill_53178 cJ7_fill_53178 4 none ∈ wL := List.mem_filter.mpr ⟨wL_t1 _ (List.mem_of_getElem? (i := 30) rfl), rfl⟩
theorem wm_im_X2_init : Cond.instanceMethod yX2_init ∈ wL := List.mem_filter.mpr ⟨wL_t1 _ (List.mem_of_getElem? (i := 94) rfl), rfl⟩
theorem wm_cd_X2_init : Cond.code yX2_init cX2_init 1 none ∈ wL := List.mem_filter.mpr ⟨wL_t1 _ (List.mem_of_getElem? (i := 95) rfl), rfl⟩
theorem wm_ml_X2_3 : Cond.methodLink RX2 3 objectInit ∈ wL := List.mem_filter.mpr ⟨wL_t1 _ (List.mem_of_getElem? (i := 96) rfl), rfl⟩
theorem wm_fl_X2_9 : Cond.fieldLink RX2 9 "SwornPounds$Pad" "signs" "[I" ∈ wL := List.mem_filter.mpr ⟨wL_t1 _ (List.mem_of_getElem? (i := 97) rfl), rfl⟩
theorem wm_im_X1_init : Cond.instanceMethod yX1_init ∈ wL := List.mem_filter.mpr ⟨wL_t1 _ (List.mem_of_getElem? (i := 111) rfl), rfl⟩
theorem wm_cd_X1_init : Cond.code yX1_init cX1_init 1 none ∈ wL := List.mem_filter.mpr ⟨wL_t1 _ (List.mem_of_getElem? (i := 112) rfl), rfl⟩
theorem wm_ml_X1_3 : Cond.methodLink RX1 3 objectInit ∈ wL := List.mem_filter.mpr ⟨wL_t1 _ (List.mem_of_getElem? (i := 113) rfl), rfl⟩
theorem wm_kl_X1_9 : Cond.classLink RX1 9 RX4 ∈ wL := List.mem_filter.mpr ⟨wL_t1 _ (List.mem_of_getElem? (i := 114) rfl), rfl⟩
theorem wm_fl_X1_12 : Cond.fieldLink RX1 12 "SwornPounds$Market" "after" "LSwornPounds$Town;" ∈ wL := List.mem_filter.mpr ⟨wL_t1 _ (List.mem_of_getElem? (i := 116) rfl), rfl⟩
theorem wm_ml_X1_11 : Cond.methodLink RX1 11 yX4_init ∈ wL := List.mem_filter.mpr ⟨wL_t1 _ (List.mem_of_getElem? (i := 115) rfl), rfl⟩
theorem wm_im_X3_init : Cond.instanceMethod yX3_init ∈ wL := List.mem_filter.mpr ⟨wL_t1 _ (List.mem_of_getElem? (i := 162) rfl), rfl⟩
theorem wm_cd_X3_init : Cond.code yX3_init cX3_init 1 none ∈ wL := List.mem_filter.mpr ⟨wL_t1 _ (List.mem_of_getElem? (i := 163) rfl), rfl⟩
theorem wm_ml_X3_3 : Cond.methodLink RX3 3 objectInit ∈ wL := List.mem_filter.mpr ⟨wL_t1 _ (List.mem_of_getElem? (i := 164) rfl), rfl⟩
theorem wm_fl_X3_9 : Cond.fieldLink RX3 9 "SwornPounds$Pans" "pounds" "[I" ∈ wL := List.mem_filter.mpr ⟨wL_t1 _ (List.mem_of_getElem? (i := 165) rfl), rfl⟩
theorem wm_fl_X3_15 : Cond.fieldLink RX3 15 "SwornPounds$Pans" "sworn" "[I" ∈ wL := List.mem_filter.mpr ⟨wL_t1 _ (List.mem_of_getElem? (i := 166) rfl), rfl⟩
theorem wm_fl_X3_18 : Cond.fieldLink RX3 18 "SwornPounds$Pans" "partners" "[I" ∈ wL := List.mem_filter.mpr ⟨wL_t1 _ (List.mem_of_getElem? (i := 167) rfl), rfl⟩
theorem wm_ac_byte : Cond.arrayClass .byte ∈ wL := List.mem_filter.mpr ⟨wL_t1 _ (List.mem_of_getElem? (i := 202) rfl), rfl⟩
theorem wm_fl_X3_21 : Cond.fieldLink RX3 21 "SwornPounds$Pans" "made" "[B" ∈ wL := List.mem_filter.mpr ⟨wL_t1 _ (List.mem_of_getElem? (i := 168) rfl), rfl⟩
theorem wm_im_X5_init : Cond.instanceMethod yX5_init ∈ wL := List.mem_filter.mpr ⟨wL_t1 _ (List.mem_of_getElem? (i := 206) rfl), rfl⟩
theorem wm_cd_X5_init : Cond.code yX5_init cX5_init 1 none ∈ wL := List.mem_filter.mpr ⟨wL_t1 _ (List.mem_of_getElem? (i := 207) rfl), rfl⟩
theorem wm_ml_X5_5 : Cond.methodLink RX5 5 objectInit ∈ wL := List.mem_filter.mpr ⟨wL_t1 _ (List.mem_of_getElem? (i := 208) rfl), rfl⟩
theorem wm_fl_X5_11 : Cond.fieldLink RX5 11 "SwornPounds$Worlds" "who" "[I" ∈ wL := List.mem_filter.mpr ⟨wL_t1 _ (List.mem_of_getElem? (i := 209) rfl), rfl⟩
theorem wm_fl_X5_15 : Cond.fieldLink RX5 15 "SwornPounds$Worlds" "more" "[I" ∈ wL := List.mem_filter.mpr ⟨wL_t1 _ (List.mem_of_getElem? (i := 210) rfl), rfl⟩
theorem wm_fl_X5_18 : Cond.fieldLink RX5 18 "SwornPounds$Worlds" "leads" "[I" ∈ wL := List.mem_filter.mpr ⟨wL_t1 _ (List.mem_of_getElem? (i := 211) rfl), rfl⟩
theorem wm_fl_X5_21 : Cond.fieldLink RX5 21 "SwornPounds$Worlds" "left" "[I" ∈ wL := List.mem_filter.mpr ⟨wL_t1 _ (List.mem_of_getElem? (i := 212) rfl), rfl⟩
theorem wm_im_X0_init : Cond.instanceMethod yX0_init ∈ wL := List.mem_filter.mpr ⟨wL_t1 _ (List.mem_of_getElem? (i := 237) rfl), rfl⟩
theorem wm_cd_X0_init : Cond.code yX0_init cX0_init 1 none ∈ wL := List.mem_filter.mpr ⟨wL_t1 _ (List.mem_of_getElem? (i := 238) rfl), rfl⟩
theorem wm_ml_X0_1 : Cond.methodLink RX0 1 objectInit ∈ wL := List.mem_filter.mpr ⟨wL_t1 _ (List.mem_of_getElem? (i := 239) rfl), rfl⟩
theorem wm_im_X6_init : Cond.instanceMethod yX6_init ∈ wL := List.mem_filter.mpr ⟨wL_t2 _ (List.mem_of_getElem? (i := 12) rfl), rfl⟩
theorem wm_cd_X6_init : Cond.code yX6_init cX6_init 1 none ∈ wL := List.mem_filter.mpr ⟨wL_t2 _ (List.mem_of_getElem? (i := 13) rfl), rfl⟩
theorem wm_ml_X6_1 : Cond.methodLink RX6 1 objectInit ∈ wL := List.mem_filter.mpr ⟨wL_t2 _ (List.mem_of_getElem? (i := 14) rfl), rfl⟩
theorem wm_kl_X6_7 : Cond.classLink RX6 7 RX4 ∈ wL := List.mem_filter.mpr ⟨wL_t2 _ (List.mem_of_getElem? (i := 15) rfl), rfl⟩
theorem wm_fl_X6_10 : Cond.fieldLink RX6 10 "SwornPounds$Year" "then" "LSwornPounds$Town;" ∈ wL := List.mem_filter.mpr ⟨wL_t2 _ (List.mem_of_getElem? (i := 17) rfl), rfl⟩
theorem wm_ml_X6_9 : Cond.methodLink RX6 9 yX4_init ∈ wL := List.mem_filter.mpr ⟨wL_t2 _ (List.mem_of_getElem? (i := 16) rfl), rfl⟩
theorem wm_ml_L_12 : Cond.methodLink RL 12 yX8_init ∈ wL := List.mem_filter.mpr ⟨wL_t4 _ (List.mem_of_getElem? (i := 62) rfl), rfl⟩
theorem wm_im_X8_init : Cond.instanceMethod yX8_init ∈ wL := List.mem_filter.mpr ⟨wL_t4 _ (List.mem_of_getElem? (i := 63) rfl), rfl⟩
theorem wm_cd_X8_init : Cond.code yX8_init cX8_init 2 none ∈ wL := List.mem_filter.mpr ⟨wL_t4 _ (List.mem_of_getElem? (i := 64) rfl), rfl⟩
theorem wm_ml_X8_1 : Cond.methodLink RX8 1 objectInit ∈ wL := List.mem_filter.mpr ⟨wL_t4 _ (List.mem_of_getElem? (i := 65) rfl), rfl⟩
theorem wm_fl_X8_7 : Cond.fieldLink RX8 7 "SwornPoundsModel" "sworn" "[I" ∈ wL := List.mem_filter.mpr ⟨wL_t4 _ (List.mem_of_getElem? (i := 70) rfl), rfl⟩
theorem wm_fl_X8_13 : Cond.fieldLink RX8 13 "SwornPoundsModel" "weight" "[I" ∈ wL := List.mem_filter.mpr ⟨wL_t4 _ (List.mem_of_getElem? (i := 71) rfl), rfl⟩
theorem wm_fl_X8_16 : Cond.fieldLink RX8 16 "SwornPoundsModel" "drift" "[I" ∈ wL := List.mem_filter.mpr ⟨wL_t4 _ (List.mem_of_getElem? (i := 72) rfl), rfl⟩
theorem wm_fl_X8_19 : Cond.fieldLink RX8 19 "SwornPoundsModel" "mate" "[I" ∈ wL := List.mem_filter.mpr ⟨wL_t4 _ (List.mem_of_getElem? (i := 73) rfl), rfl⟩
theorem wm_fl_X8_22 : Cond.fieldLink RX8 22 "SwornPoundsModel" "sightFirst" "[I" ∈ wL := List.mem_filter.mpr ⟨wL_t4 _ (List.mem_of_getElem? (i := 74) rfl), rfl⟩
theorem wm_fl_X8_25 : Cond.fieldLink RX8 25 "SwornPoundsModel" "sightSecond" "[I" ∈ wL := List.mem_filter.mpr ⟨wL_t4 _ (List.mem_of_getElem? (i := 75) rfl), rfl⟩
theorem wm_fl_X8_28 : Cond.fieldLink RX8 28 "SwornPoundsModel" "sightHow" "[I" ∈ wL := List.mem_filter.mpr ⟨wL_t4 _ (List.mem_of_getElem? (i := 76) rfl), rfl⟩
theorem wm_fl_X8_31 : Cond.fieldLink RX8 31 "SwornPoundsModel" "pad" "[I" ∈ wL := List.mem_filter.mpr ⟨wL_t4 _ (List.mem_of_getElem? (i := 78) rfl), rfl⟩
theorem wm_fl_X8_34 : Cond.fieldLink RX8 34 "SwornPoundsModel" "act" "[I" ∈ wL := List.mem_filter.mpr ⟨wL_t4 _ (List.mem_of_getElem? (i := 80) rfl), rfl⟩
theorem wm_fl_X8_37 : Cond.fieldLink RX8 37 "SwornPoundsModel" "near" "[I" ∈ wL := List.mem_filter.mpr ⟨wL_t4 _ (List.mem_of_getElem? (i := 81) rfl), rfl⟩
theorem wm_fl_X8_40 : Cond.fieldLink RX8 40 "SwornPoundsModel" "across" "[I" ∈ wL := List.mem_filter.mpr ⟨wL_t4 _ (List.mem_of_getElem? (i := 82) rfl), rfl⟩
theorem wm_fl_X8_43 : Cond.fieldLink RX8 43 "SwornPoundsModel" "twice" "[I" ∈ wL := List.mem_filter.mpr ⟨wL_t4 _ (List.mem_of_getElem? (i := 83) rfl), rfl⟩
theorem wm_fl_X8_46 : Cond.fieldLink RX8 46 "SwornPoundsModel" "hadWeight" "[I" ∈ wL := List.mem_filter.mpr ⟨wL_t4 _ (List.mem_of_getElem? (i := 89) rfl), rfl⟩
theorem wm_fl_X8_49 : Cond.fieldLink RX8 49 "SwornPoundsModel" "leavesPounds" "[I" ∈ wL := List.mem_filter.mpr ⟨wL_t4 _ (List.mem_of_getElem? (i := 94) rfl), rfl⟩
theorem wm_fl_X8_52 : Cond.fieldLink RX8 52 "SwornPoundsModel" "leavesWeight" "[I" ∈ wL := List.mem_filter.mpr ⟨wL_t4 _ (List.mem_of_getElem? (i := 95) rfl), rfl⟩
theorem wm_fl_X8_55 : Cond.fieldLink RX8 55 "SwornPoundsModel" "made" "[Z" ∈ wL := List.mem_filter.mpr ⟨wL_t4 _ (List.mem_of_getElem? (i := 99) rfl), rfl⟩
theorem wm_fl_X8_59 : Cond.fieldLink RX8 59 "SwornPoundsModel" "worldWho" "[I" ∈ wL := List.mem_filter.mpr ⟨wL_t4 _ (List.mem_of_getElem? (i := 100) rfl), rfl⟩
theorem wm_fl_X8_62 : Cond.fieldLink RX8 62 "SwornPoundsModel" "worldBy" "[I" ∈ wL := List.mem_filter.mpr ⟨wL_t4 _ (List.mem_of_getElem? (i := 101) rfl), rfl⟩
theorem wm_fl_X8_65 : Cond.fieldLink RX8 65 "SwornPoundsModel" "kept" "[I" ∈ wL := List.mem_filter.mpr ⟨wL_t4 _ (List.mem_of_getElem? (i := 103) rfl), rfl⟩
theorem wm_fl_X8_68 : Cond.fieldLink RX8 68 "SwornPoundsModel" "isKept" "[Z" ∈ wL := List.mem_filter.mpr ⟨wL_t4 _ (List.mem_of_getElem? (i := 104) rfl), rfl⟩
theorem wm_fl_X8_71 : Cond.fieldLink RX8 71 "SwornPoundsModel" "limit" "I" ∈ wL := List.mem_filter.mpr ⟨wL_t4 _ (List.mem_of_getElem? (i := 68) rfl), rfl⟩
theorem wm_ml_L_13 : Cond.methodLink RL 13 yX7_person ∈ wL := List.mem_filter.mpr ⟨wL_t2 _ (List.mem_of_getElem? (i := 61) rfl), rfl⟩
theorem wm_im_X7_person : Cond.instanceMethod yX7_person ∈ wL := List.mem_filter.mpr ⟨wL_t2 _ (List.mem_of_getElem? (i := 62) rfl), rfl⟩
theorem wm_se_X7_person : Cond.selects RX7 yX7_person yX7_person ∈ wL := List.mem_filter.mpr ⟨wL_t2 _ (List.mem_of_getElem? (i := 63) rfl), rfl⟩
theorem wm_cd_X7_person : Cond.code yX7_person cX7_person 5 (some .int) ∈ wL := List.mem_filter.mpr ⟨wL_t2 _ (List.mem_of_getElem? (i := 64) rfl), rfl⟩
theorem wm_ml_X7_66 : Cond.methodLink RX7 66 yX7_within ∈ wL := List.mem_filter.mpr ⟨wL_t2 _ (List.mem_of_getElem? (i := 65) rfl), rfl⟩
theorem wm_st_X7_within : Cond.static yX7_within ∈ wL := List.mem_filter.mpr ⟨wL_t2 _ (List.mem_of_getElem? (i := 66) rfl), rfl⟩
theorem wm_cd_X7_within : Cond.code yX7_within cX7_within 3 (some .boolean) ∈ wL := List.mem_filter.mpr ⟨wL_t2 _ (List.mem_of_getElem? (i := 67) rfl), rfl⟩
theorem wm_ml_X7_70 : Cond.methodLink RX7 70 yX4_settle ∈ wL := List.mem_filter.mpr ⟨wL_t2 _ (List.mem_of_getElem? (i := 68) rfl), rfl⟩
theorem wm_im_X4_settle : Cond.instanceMethod yX4_settle ∈ wL := List.mem_filter.mpr ⟨wL_t2 _ (List.mem_of_getElem? (i := 69) rfl), rfl⟩
theorem wm_se_X4_settle : Cond.selects RX4 yX4_settle yX4_settle ∈ wL := List.mem_filter.mpr ⟨wL_t2 _ (List.mem_of_getElem? (i := 70) rfl), rfl⟩
theorem wm_cd_X4_settle : Cond.code yX4_settle cX4_settle 5 none ∈ wL := List.mem_filter.mpr ⟨wL_t2 _ (List.mem_of_getElem? (i := 71) rfl), rfl⟩
theorem wm_fl_X4_49 : Cond.fieldLink RX4 49 "SwornPounds$Town" "there" "I" ∈ wL := List.mem_filter.mpr ⟨wL_t1 _ (List.mem_of_getElem? (i := 50) rfl), rfl⟩
theorem wm_fl_X4_52 : Cond.fieldLink RX4 52 "SwornPounds$Town" "colds" "I" ∈ wL := List.mem_filter.mpr ⟨wL_t1 _ (List.mem_of_getElem? (i := 53) rfl), rfl⟩
theorem wm_ml_X7_74 : Cond.methodLink RX7 74 yX4_headcount ∈ wL := List.mem_filter.mpr ⟨wL_t2 _ (List.mem_of_getElem? (i := 72) rfl), rfl⟩
theorem wm_im_X4_headcount : Cond.instanceMethod yX4_headcount ∈ wL := List.mem_filter.mpr ⟨wL_t2 _ (List.mem_of_getElem? (i := 73) rfl), rfl⟩
theorem wm_se_X4_headcount : Cond.selects RX4 yX4_headcount yX4_headcount ∈ wL := List.mem_filter.mpr ⟨wL_t2 _ (List.mem_of_getElem? (i := 74) rfl), rfl⟩
theorem wm_cd_X4_headcount : Cond.code yX4_headcount cX4_headcount 1 (some .int) ∈ wL := List.mem_filter.mpr ⟨wL_t2 _ (List.mem_of_getElem? (i := 75) rfl), rfl⟩
theorem wm_ml_X4_65 : Cond.methodLink RX4 65 yJ6_bitCount_0f7a4 ∈ wL := List.mem_filter.mpr ⟨wL_t2 _ (List.mem_of_getElem? (i := 76) rfl), rfl⟩
theorem wm_st_J6_bitCount_0f7a4 : Cond.static yJ6_bitCount_0f7a4 ∈ wL := List.mem_filter.mpr ⟨wL_t2 _ (List.mem_of_getElem? (i := 77) rfl), rfl⟩
theorem wm_ini_J6 : Cond.initialized RJ6 ∈ wL := List.mem_filter.mpr ⟨wL_t1 _ (List.mem_of_getElem? (i := 11) rfl), rfl⟩
theorem wm_cd_J6_bitCount_0f7a4 : Cond.code yJ6_bitCount_0f7a4 cJ6_bitCount_0f7a4 1 (some .int) ∈ wL := List.mem_filter.mpr ⟨wL_t2 _ (List.mem_of_getElem? (i := 78) rfl), rfl⟩
theorem wm_ck_J6_265 : Cond.constant RJ6 265 (1431655765) ∈ wL := List.mem_filter.mpr ⟨wL_t2 _ (List.mem_of_getElem? (i := 79) rfl), rfl⟩
theorem wm_ck_J6_266 : Cond.constant RJ6 266 (858993459) ∈ wL := List.mem_filter.mpr ⟨wL_t2 _ (List.mem_of_getElem? (i := 80) rfl), rfl⟩
theorem wm_ck_J6_267 : Cond.constant RJ6 267 (252645135) ∈ wL := List.mem_filter.mpr ⟨wL_t2 _ (List.mem_of_getElem? (i := 81) rfl), rfl⟩
theorem wm_ml_L_17 : Cond.methodLink RL 17 yX8_person ∈ wL := List.mem_filter.mpr ⟨wL_t4 _ (List.mem_of_getElem? (i := 190) rfl), rfl⟩
theorem wm_im_X8_person : Cond.instanceMethod yX8_person ∈ wL := List.mem_filter.mpr ⟨wL_t4 _ (List.mem_of_getElem? (i := 191) rfl), rfl⟩
theorem wm_se_X8_person : Cond.selects RX8 yX8_person yX8_person ∈ wL := List.mem_filter.mpr ⟨wL_t4 _ (List.mem_of_getElem? (i := 192) rfl), rfl⟩
theorem wm_cd_X8_person : Cond.code yX8_person cX8_person 5 (some .int) ∈ wL := List.mem_filter.mpr ⟨wL_t4 _ (List.mem_of_getElem? (i := 193) rfl), rfl⟩
theorem wm_cl_X8_75 : Cond.constantLong RX8 75 (7) ∈ wL := List.mem_filter.mpr ⟨wL_t4 _ (List.mem_of_getElem? (i := 194) rfl), rfl⟩
theorem wm_cl_X8_91 : Cond.constantLong RX8 91 (200) ∈ wL := List.mem_filter.mpr ⟨wL_t4 _ (List.mem_of_getElem? (i := 198) rfl), rfl⟩
theorem wm_cl_X8_93 : Cond.constantLong RX8 93 (400) ∈ wL := List.mem_filter.mpr ⟨wL_t4 _ (List.mem_of_getElem? (i := 199) rfl), rfl⟩
theorem wm_cl_X8_95 : Cond.constantLong RX8 95 (-9) ∈ wL := List.mem_filter.mpr ⟨wL_t4 _ (List.mem_of_getElem? (i := 200) rfl), rfl⟩
theorem wm_cl_X8_97 : Cond.constantLong RX8 97 (9) ∈ wL := List.mem_filter.mpr ⟨wL_t4 _ (List.mem_of_getElem? (i := 201) rfl), rfl⟩
theorem wm_fl_X8_81 : Cond.fieldLink RX8 81 "SwornPoundsModel" "persons" "I" ∈ wL := List.mem_filter.mpr ⟨wL_t4 _ (List.mem_of_getElem? (i := 66) rfl), rfl⟩
theorem wm_fl_X8_88 : Cond.fieldLink RX8 88 "SwornPoundsModel" "colds" "I" ∈ wL := List.mem_filter.mpr ⟨wL_t4 _ (List.mem_of_getElem? (i := 67) rfl), rfl⟩
theorem wm_ml_X8_77 : Cond.methodLink RX8 77 yX8_in ∈ wL := List.mem_filter.mpr ⟨wL_t4 _ (List.mem_of_getElem? (i := 195) rfl), rfl⟩
theorem wm_st_X8_in : Cond.static yX8_in ∈ wL := List.mem_filter.mpr ⟨wL_t4 _ (List.mem_of_getElem? (i := 196) rfl), rfl⟩
theorem wm_cd_X8_in : Cond.code yX8_in cX8_in 6 (some .boolean) ∈ wL := List.mem_filter.mpr ⟨wL_t4 _ (List.mem_of_getElem? (i := 197) rfl), rfl⟩
theorem wm_ml_X8_99 : Cond.methodLink RX8 99 yX8_ones ∈ wL := List.mem_filter.mpr ⟨wL_t4 _ (List.mem_of_getElem? (i := 202) rfl), rfl⟩
theorem wm_st_X8_ones : Cond.static yX8_ones ∈ wL := List.mem_filter.mpr ⟨wL_t4 _ (List.mem_of_getElem? (i := 203) rfl), rfl⟩
theorem wm_cd_X8_ones : Cond.code yX8_ones cX8_ones 3 (some .int) ∈ wL := List.mem_filter.mpr ⟨wL_t4 _ (List.mem_of_getElem? (i := 204) rfl), rfl⟩
theorem wm_ml_L_18 : Cond.methodLink RL 18 yX7_leave ∈ wL := List.mem_filter.mpr ⟨wL_t2 _ (List.mem_of_getElem? (i := 82) rfl), rfl⟩
theorem wm_im_X7_leave : Cond.instanceMethod yX7_leave ∈ wL := List.mem_filter.mpr ⟨wL_t2 _ (List.mem_of_getElem? (i := 83) rfl), rfl⟩
theorem wm_se_X7_leave : Cond.selects RX7 yX7_leave yX7_leave ∈ wL := List.mem_filter.mpr ⟨wL_t2 _ (List.mem_of_getElem? (i := 84) rfl), rfl⟩
theorem wm_cd_X7_leave : Cond.code yX7_leave cX7_leave 2 (some .int) ∈ wL := List.mem_filter.mpr ⟨wL_t2 _ (List.mem_of_getElem? (i := 85) rfl), rfl⟩
theorem wm_ml_X7_78 : Cond.methodLink RX7 78 yX4_has ∈ wL := List.mem_filter.mpr ⟨wL_t2 _ (List.mem_of_getElem? (i := 86) rfl), rfl⟩
theorem wm_im_X4_has : Cond.instanceMethod yX4_has ∈ wL := List.mem_filter.mpr ⟨wL_t2 _ (List.mem_of_getElem? (i := 87) rfl), rfl⟩
theorem wm_se_X4_has : Cond.selects RX4 yX4_has yX4_has ∈ wL := List.mem_filter.mpr ⟨wL_t2 _ (List.mem_of_getElem? (i := 88) rfl), rfl⟩
theorem wm_cd_X4_has : Cond.code yX4_has cX4_has 2 (some .boolean) ∈ wL := List.mem_filter.mpr ⟨wL_t2 _ (List.mem_of_getElem? (i := 89) rfl), rfl⟩
theorem wm_ml_X7_82 : Cond.methodLink RX7 82 yX4_remove ∈ wL := List.mem_filter.mpr ⟨wL_t2 _ (List.mem_of_getElem? (i := 90) rfl), rfl⟩
theorem wm_im_X4_remove : Cond.instanceMethod yX4_remove ∈ wL := List.mem_filter.mpr ⟨wL_t2 _ (List.mem_of_getElem? (i := 91) rfl), rfl⟩
theorem wm_se_X4_remove : Cond.selects RX4 yX4_remove yX4_remove ∈ wL := List.mem_filter.mpr ⟨wL_t2 _ (List.mem_of_getElem? (i := 92) rfl), rfl⟩
theorem wm_cd_X4_remove : Cond.code yX4_remove cX4_remove 2 none ∈ wL := List.mem_filter.mpr ⟨wL_t2 _ (List.mem_of_getElem? (i := 93) rfl), rfl⟩
theorem wm_ml_X4_71 : Cond.methodLink RX4 71 yX4_part ∈ wL := List.mem_filter.mpr ⟨wL_t2 _ (List.mem_of_getElem? (i := 94) rfl), rfl⟩
theorem wm_im_X4_part : Cond.instanceMethod yX4_part ∈ wL := List.mem_filter.mpr ⟨wL_t2 _ (List.mem_of_getElem? (i := 95) rfl), rfl⟩
theorem wm_se_X4_part : Cond.selects RX4 yX4_part yX4_part ∈ wL := List.mem_filter.mpr ⟨wL_t2 _ (List.mem_of_getElem? (i := 96) rfl), rfl⟩
theorem wm_cd_X4_part : Cond.code yX4_part cX4_part 3 none ∈ wL := List.mem_filter.mpr ⟨wL_t2 _ (List.mem_of_getElem? (i := 97) rfl), rfl⟩
theorem wm_ml_X4_61 : Cond.methodLink RX4 61 yX4_has ∈ wL := List.mem_filter.mpr ⟨wL_t2 _ (List.mem_of_getElem? (i := 98) rfl), rfl⟩
theorem wm_ml_L_22 : Cond.methodLink RL 22 yX8_leave ∈ wL := List.mem_filter.mpr ⟨wL_t4 _ (List.mem_of_getElem? (i := 205) rfl), rfl⟩
theorem wm_im_X8_leave : Cond.instanceMethod yX8_leave ∈ wL := List.mem_filter.mpr ⟨wL_t4 _ (List.mem_of_getElem? (i := 206) rfl), rfl⟩
theorem wm_se_X8_leave : Cond.selects RX8 yX8_leave yX8_leave ∈ wL := List.mem_filter.mpr ⟨wL_t4 _ (List.mem_of_getElem? (i := 207) rfl), rfl⟩
theorem wm_cd_X8_leave : Cond.code yX8_leave cX8_leave 2 (some .int) ∈ wL := List.mem_filter.mpr ⟨wL_t4 _ (List.mem_of_getElem? (i := 208) rfl), rfl⟩
theorem wm_ml_X8_84 : Cond.methodLink RX8 84 yX8_isPerson ∈ wL := List.mem_filter.mpr ⟨wL_t4 _ (List.mem_of_getElem? (i := 209) rfl), rfl⟩
theorem wm_im_X8_isPerson : Cond.instanceMethod yX8_isPerson ∈ wL := List.mem_filter.mpr ⟨wL_t4 _ (List.mem_of_getElem? (i := 211) rfl), rfl⟩
theorem wm_se_X8_isPerson : Cond.selects RX8 yX8_isPerson yX8_isPerson ∈ wL := List.mem_filter.mpr ⟨wL_p2 (⟨"SwornPoundsModel", "isPerson", "(I)Z"⟩, _) (List.mem_of_getElem? (i := 8) rfl), rfl⟩
theorem wm_cd_X8_isPerson : Cond.code yX8_isPerson cX8_isPerson 2 (some .boolean) ∈ wL := List.mem_filter.mpr ⟨wL_t4 _ (List.mem_of_getElem? (i := 212) rfl), rfl⟩
theorem wm_ml_X8_103 : Cond.methodLink RX8 103 yX8_part ∈ wL := List.mem_filter.mpr ⟨wL_t4 _ (List.mem_of_getElem? (i := 213) rfl), rfl⟩
theorem wm_im_X8_part : Cond.instanceMethod yX8_part ∈ wL := List.mem_filter.mpr ⟨wL_t4 _ (List.mem_of_getElem? (i := 215) rfl), rfl⟩
theorem wm_se_X8_part : Cond.selects RX8 yX8_part yX8_part ∈ wL := List.mem_filter.mpr ⟨wL_p2 (⟨"SwornPoundsModel", "part", "(I)V"⟩, _) (List.mem_of_getElem? (i := 9) rfl), rfl⟩
theorem wm_cd_X8_part : Cond.code yX8_part cX8_part 2 none ∈ wL := List.mem_filter.mpr ⟨wL_t4 _ (List.mem_of_getElem? (i := 216) rfl), rfl⟩
theorem wm_ml_L_23 : Cond.methodLink RL 23 yX7_marry ∈ wL := List.mem_filter.mpr ⟨wL_t2 _ (List.mem_of_getElem? (i := 99) rfl), rfl⟩
theorem wm_im_X7_marry : Cond.instanceMethod yX7_marry ∈ wL := List.mem_filter.mpr ⟨wL_t2 _ (List.mem_of_getElem? (i := 100) rfl), rfl⟩
theorem wm_se_X7_marry : Cond.selects RX7 yX7_marry yX7_marry ∈ wL := List.mem_filter.mpr ⟨wL_t2 _ (List.mem_of_getElem? (i := 101) rfl), rfl⟩
theorem wm_cd_X7_marry : Cond.code yX7_marry cX7_marry 4 (some .int) ∈ wL := List.mem_filter.mpr ⟨wL_t2 _ (List.mem_of_getElem? (i := 102) rfl), rfl⟩
theorem wm_ml_X7_86 : Cond.methodLink RX7 86 yX4_hasTwo ∈ wL := List.mem_filter.mpr ⟨wL_t2 _ (List.mem_of_getElem? (i := 103) rfl), rfl⟩
theorem wm_im_X4_hasTwo : Cond.instanceMethod yX4_hasTwo ∈ wL := List.mem_filter.mpr ⟨wL_t2 _ (List.mem_of_getElem? (i := 104) rfl), rfl⟩
theorem wm_se_X4_hasTwo : Cond.selects RX4 yX4_hasTwo yX4_hasTwo ∈ wL := List.mem_filter.mpr ⟨wL_t2 _ (List.mem_of_getElem? (i := 105) rfl), rfl⟩
theorem wm_cd_X4_hasTwo : Cond.code yX4_hasTwo cX4_hasTwo 3 (some .boolean) ∈ wL := List.mem_filter.mpr ⟨wL_t2 _ (List.mem_of_getElem? (i := 106) rfl), rfl⟩
theorem wm_ml_X7_90 : Cond.methodLink RX7 90 yX4_mayMarry ∈ wL := List.mem_filter.mpr ⟨wL_t2 _ (List.mem_of_getElem? (i := 107) rfl), rfl⟩
theorem wm_im_X4_mayMarry : Cond.instanceMethod yX4_mayMarry ∈ wL := List.mem_filter.mpr ⟨wL_t2 _ (List.mem_of_getElem? (i := 108) rfl), rfl⟩
theorem wm_se_X4_mayMarry : Cond.selects RX4 yX4_mayMarry yX4_mayMarry ∈ wL := List.mem_filter.mpr ⟨wL_t2 _ (List.mem_of_getElem? (i := 109) rfl), rfl⟩
theorem wm_cd_X4_mayMarry : Cond.code yX4_mayMarry cX4_mayMarry 3 (some .boolean) ∈ wL := List.mem_filter.mpr ⟨wL_t2 _ (List.mem_of_getElem? (i := 110) rfl), rfl⟩
theorem wm_ml_X4_75 : Cond.methodLink RX4 75 yX4_areMarried ∈ wL := List.mem_filter.mpr ⟨wL_t2 _ (List.mem_of_getElem? (i := 111) rfl), rfl⟩
theorem wm_im_X4_areMarried : Cond.instanceMethod yX4_areMarried ∈ wL := List.mem_filter.mpr ⟨wL_t2 _ (List.mem_of_getElem? (i := 112) rfl), rfl⟩
theorem wm_se_X4_areMarried : Cond.selects RX4 yX4_areMarried yX4_areMarried ∈ wL := List.mem_filter.mpr ⟨wL_t2 _ (List.mem_of_getElem? (i := 113) rfl), rfl⟩
theorem wm_cd_X4_areMarried : Cond.code yX4_areMarried cX4_areMarried 3 (some .boolean) ∈ wL := List.mem_filter.mpr ⟨wL_t2 _ (List.mem_of_getElem? (i := 114) rfl), rfl⟩
theorem wm_ml_X7_93 : Cond.methodLink RX7 93 yX4_areMarried ∈ wL := List.mem_filter.mpr ⟨wL_t2 _ (List.mem_of_getElem? (i := 115) rfl), rfl⟩
theorem wm_ml_X7_96 : Cond.methodLink RX7 96 yX4_join ∈ wL := List.mem_filter.mpr ⟨wL_t2 _ (List.mem_of_getElem? (i := 116) rfl), rfl⟩
theorem wm_im_X4_join : Cond.instanceMethod yX4_join ∈ wL := List.mem_filter.mpr ⟨wL_t2 _ (List.mem_of_getElem? (i := 117) rfl), rfl⟩
theorem wm_se_X4_join : Cond.selects RX4 yX4_join yX4_join ∈ wL := List.mem_filter.mpr ⟨wL_t2 _ (List.mem_of_getElem? (i := 118) rfl), rfl⟩
theorem wm_cd_X4_join : Cond.code yX4_join cX4_join 3 none ∈ wL := List.mem_filter.mpr ⟨wL_t2 _ (List.mem_of_getElem? (i := 119) rfl), rfl⟩
theorem wm_ml_X7_100 : Cond.methodLink RX7 100 yX4_part ∈ wL := List.mem_filter.mpr ⟨wL_t2 _ (List.mem_of_getElem? (i := 120) rfl), rfl⟩
theorem wm_ml_X7_103 : Cond.methodLink RX7 103 yX4_marriages ∈ wL := List.mem_filter.mpr ⟨wL_t2 _ (List.mem_of_getElem? (i := 121) rfl), rfl⟩
theorem wm_im_X4_marriages : Cond.instanceMethod yX4_marriages ∈ wL := List.mem_filter.mpr ⟨wL_t2 _ (List.mem_of_getElem? (i := 122) rfl), rfl⟩
theorem wm_se_X4_marriages : Cond.selects RX4 yX4_marriages yX4_marriages ∈ wL := List.mem_filter.mpr ⟨wL_t2 _ (List.mem_of_getElem? (i := 123) rfl), rfl⟩
theorem wm_cd_X4_marriages : Cond.code yX4_marriages cX4_marriages 3 (some .int) ∈ wL := List.mem_filter.mpr ⟨wL_t2 _ (List.mem_of_getElem? (i := 124) rfl), rfl⟩
theorem wm_ml_L_27 : Cond.methodLink RL 27 yX8_marry ∈ wL := List.mem_filter.mpr ⟨wL_t4 _ (List.mem_of_getElem? (i := 217) rfl), rfl⟩
theorem wm_im_X8_marry : Cond.instanceMethod yX8_marry ∈ wL := List.mem_filter.mpr ⟨wL_t4 _ (List.mem_of_getElem? (i := 218) rfl), rfl⟩
theorem wm_se_X8_marry : Cond.selects RX8 yX8_marry yX8_marry ∈ wL := List.mem_filter.mpr ⟨wL_t4 _ (List.mem_of_getElem? (i := 219) rfl), rfl⟩
theorem wm_cd_X8_marry : Cond.code yX8_marry cX8_marry 6 (some .int) ∈ wL := List.mem_filter.mpr ⟨wL_t4 _ (List.mem_of_getElem? (i := 220) rfl), rfl⟩
theorem wm_ml_X8_107 : Cond.methodLink RX8 107 yX8_areTwo ∈ wL := List.mem_filter.mpr ⟨wL_t4 _ (List.mem_of_getElem? (i := 221) rfl), rfl⟩
theorem wm_im_X8_areTwo : Cond.instanceMethod yX8_areTwo ∈ wL := List.mem_filter.mpr ⟨wL_t4 _ (List.mem_of_getElem? (i := 223) rfl), rfl⟩
theorem wm_se_X8_areTwo : Cond.selects RX8 yX8_areTwo yX8_areTwo ∈ wL := List.mem_filter.mpr ⟨wL_p2 (⟨"SwornPoundsModel", "areTwo", "(II)Z"⟩, _) (List.mem_of_getElem? (i := 10) rfl), rfl⟩
theorem wm_cd_X8_areTwo : Cond.code yX8_areTwo cX8_areTwo 3 (some .boolean) ∈ wL := List.mem_filter.mpr ⟨wL_t4 _ (List.mem_of_getElem? (i := 224) rfl), rfl⟩
theorem wm_ml_X8_111 : Cond.methodLink RX8 111 yX8_marriages ∈ wL := List.mem_filter.mpr ⟨wL_t4 _ (List.mem_of_getElem? (i := 225) rfl), rfl⟩
theorem wm_im_X8_marriages : Cond.instanceMethod yX8_marriages ∈ wL := List.mem_filter.mpr ⟨wL_t4 _ (List.mem_of_getElem? (i := 227) rfl), rfl⟩
theorem wm_se_X8_marriages : Cond.selects RX8 yX8_marriages yX8_marriages ∈ wL := List.mem_filter.mpr ⟨wL_p2 (⟨"SwornPoundsModel", "marriages", "()I"⟩, _) (List.mem_of_getElem? (i := 11) rfl), rfl⟩
theorem wm_cd_X8_marriages : Cond.code yX8_marriages cX8_marriages 3 (some .int) ∈ wL := List.mem_filter.mpr ⟨wL_t4 _ (List.mem_of_getElem? (i := 228) rfl), rfl⟩
theorem wm_ml_L_28 : Cond.methodLink RL 28 yX7_limit ∈ wL := List.mem_filter.mpr ⟨wL_t2 _ (List.mem_of_getElem? (i := 125) rfl), rfl⟩
theorem wm_im_X7_limit : Cond.instanceMethod yX7_limit ∈ wL := List.mem_filter.mpr ⟨wL_t2 _ (List.mem_of_getElem? (i := 126) rfl), rfl⟩
theorem wm_se_X7_limit : Cond.selects RX7 yX7_limit yX7_limit ∈ wL := List.mem_filter.mpr ⟨wL_t2 _ (List.mem_of_getElem? (i := 127) rfl), rfl⟩
theorem wm_cd_X7_limit : Cond.code yX7_limit cX7_limit 3 (some .int) ∈ wL := List.mem_filter.mpr ⟨wL_t2 _ (List.mem_of_getElem? (i := 128) rfl), rfl⟩
theorem wm_fl_X7_106 : Cond.fieldLink RX7 106 "SwornPounds$Town" "limit" "I" ∈ wL := List.mem_filter.mpr ⟨wL_t1 _ (List.mem_of_getElem? (i := 57) rfl), rfl⟩
theorem wm_ml_L_31 : Cond.methodLink RL 31 yX8_limit ∈ wL := List.mem_filter.mpr ⟨wL_t4 _ (List.mem_of_getElem? (i := 229) rfl), rfl⟩
theorem wm_im_X8_limit : Cond.instanceMethod yX8_limit ∈ wL := List.mem_filter.mpr ⟨wL_t4 _ (List.mem_of_getElem? (i := 230) rfl), rfl⟩
theorem wm_se_X8_limit : Cond.selects RX8 yX8_limit yX8_limit ∈ wL := List.mem_filter.mpr ⟨wL_t4 _ (List.mem_of_getElem? (i := 231) rfl), rfl⟩
theorem wm_cd_X8_limit : Cond.code yX8_limit cX8_limit 3 (some .int) ∈ wL := List.mem_filter.mpr ⟨wL_t4 _ (List.mem_of_getElem? (i := 232) rfl), rfl⟩
theorem wm_cl_X8_115 : Cond.constantLong RX8 115 (99) ∈ wL := List.mem_filter.mpr ⟨wL_t4 _ (List.mem_of_getElem? (i := 233) rfl), rfl⟩
theorem wm_ml_L_32 : Cond.methodLink RL 32 yX7_say ∈ wL := List.mem_filter.mpr ⟨wL_t2 _ (List.mem_of_getElem? (i := 129) rfl), rfl⟩
theorem wm_im_X7_say : Cond.instanceMethod yX7_say ∈ wL := List.mem_filter.mpr ⟨wL_t2 _ (List.mem_of_getElem? (i := 130) rfl), rfl⟩
theorem wm_se_X7_say : Cond.selects RX7 yX7_say yX7_say ∈ wL := List.mem_filter.mpr ⟨wL_t2 _ (List.mem_of_getElem? (i := 131) rfl), rfl⟩
theorem wm_cd_X7_say : Cond.code yX7_say cX7_say 2 (some .int) ∈ wL := List.mem_filter.mpr ⟨wL_t2 _ (List.mem_of_getElem? (i := 132) rfl), rfl⟩
theorem wm_fl_X7_113 : Cond.fieldLink RX7 113 "SwornPounds$Pad" "count" "I" ∈ wL := List.mem_filter.mpr ⟨wL_t1 _ (List.mem_of_getElem? (i := 101) rfl), rfl⟩
theorem wm_ml_X7_110 : Cond.methodLink RX7 110 yX2_add ∈ wL := List.mem_filter.mpr ⟨wL_t2 _ (List.mem_of_getElem? (i := 133) rfl), rfl⟩
theorem wm_im_X2_add : Cond.instanceMethod yX2_add ∈ wL := List.mem_filter.mpr ⟨wL_t2 _ (List.mem_of_getElem? (i := 134) rfl), rfl⟩
theorem wm_se_X2_add : Cond.selects RX2 yX2_add yX2_add ∈ wL := List.mem_filter.mpr ⟨wL_t2 _ (List.mem_of_getElem? (i := 135) rfl), rfl⟩
theorem wm_cd_X2_add : Cond.code yX2_add cX2_add 2 (some .boolean) ∈ wL := List.mem_filter.mpr ⟨wL_t2 _ (List.mem_of_getElem? (i := 136) rfl), rfl⟩
theorem wm_fl_X2_15 : Cond.fieldLink RX2 15 "SwornPounds$Pad" "count" "I" ∈ wL := List.mem_filter.mpr ⟨wL_t1 _ (List.mem_of_getElem? (i := 99) rfl), rfl⟩
theorem wm_ml_L_35 : Cond.methodLink RL 35 yX8_say ∈ wL := List.mem_filter.mpr ⟨wL_t4 _ (List.mem_of_getElem? (i := 234) rfl), rfl⟩
theorem wm_im_X8_say : Cond.instanceMethod yX8_say ∈ wL := List.mem_filter.mpr ⟨wL_t4 _ (List.mem_of_getElem? (i := 235) rfl), rfl⟩
theorem wm_se_X8_say : Cond.selects RX8 yX8_say yX8_say ∈ wL := List.mem_filter.mpr ⟨wL_t4 _ (List.mem_of_getElem? (i := 236) rfl), rfl⟩
theorem wm_cd_X8_say : Cond.code yX8_say cX8_say 2 (some .int) ∈ wL := List.mem_filter.mpr ⟨wL_t4 _ (List.mem_of_getElem? (i := 237) rfl), rfl⟩
theorem wm_cl_X8_117 : Cond.constantLong RX8 117 (33) ∈ wL := List.mem_filter.mpr ⟨wL_t4 _ (List.mem_of_getElem? (i := 238) rfl), rfl⟩
theorem wm_cl_X8_119 : Cond.constantLong RX8 119 (126) ∈ wL := List.mem_filter.mpr ⟨wL_t4 _ (List.mem_of_getElem? (i := 239) rfl), rfl⟩
theorem wm_fl_X8_121 : Cond.fieldLink RX8 121 "SwornPoundsModel" "padMany" "I" ∈ wL := List.mem_filter.mpr ⟨wL_t4 _ (List.mem_of_getElem? (i := 79) rfl), rfl⟩
theorem wm_ml_L_36 : Cond.methodLink RL 36 yX7_wipe ∈ wL := List.mem_filter.mpr ⟨wL_t2 _ (List.mem_of_getElem? (i := 137) rfl), rfl⟩
theorem wm_im_X7_wipe : Cond.instanceMethod yX7_wipe ∈ wL := List.mem_filter.mpr ⟨wL_t2 _ (List.mem_of_getElem? (i := 138) rfl), rfl⟩
theorem wm_se_X7_wipe : Cond.selects RX7 yX7_wipe yX7_wipe ∈ wL := List.mem_filter.mpr ⟨wL_t2 _ (List.mem_of_getElem? (i := 139) rfl), rfl⟩
theorem wm_cd_X7_wipe : Cond.code yX7_wipe cX7_wipe 2 (some .int) ∈ wL := List.mem_filter.mpr ⟨wL_t2 _ (List.mem_of_getElem? (i := 140) rfl), rfl⟩
theorem wm_ml_L_40 : Cond.methodLink RL 40 yX8_wipe ∈ wL := List.mem_filter.mpr ⟨wL_t5 _ (List.mem_of_getElem? (i := 0) rfl), rfl⟩
theorem wm_im_X8_wipe : Cond.instanceMethod yX8_wipe ∈ wL := List.mem_filter.mpr ⟨wL_t5 _ (List.mem_of_getElem? (i := 1) rfl), rfl⟩
theorem wm_se_X8_wipe : Cond.selects RX8 yX8_wipe yX8_wipe ∈ wL := List.mem_filter.mpr ⟨wL_t5 _ (List.mem_of_getElem? (i := 2) rfl), rfl⟩
theorem wm_cd_X8_wipe : Cond.code yX8_wipe cX8_wipe 2 (some .int) ∈ wL := List.mem_filter.mpr ⟨wL_t5 _ (List.mem_of_getElem? (i := 3) rfl), rfl⟩
theorem wm_ml_L_41 : Cond.methodLink RL 41 yX7_fault ∈ wL := List.mem_filter.mpr ⟨wL_t2 _ (List.mem_of_getElem? (i := 141) rfl), rfl⟩
theorem wm_im_X7_fault : Cond.instanceMethod yX7_fault ∈ wL := List.mem_filter.mpr ⟨wL_t2 _ (List.mem_of_getElem? (i := 142) rfl), rfl⟩
theorem wm_se_X7_fault : Cond.selects RX7 yX7_fault yX7_fault ∈ wL := List.mem_filter.mpr ⟨wL_t2 _ (List.mem_of_getElem? (i := 143) rfl), rfl⟩
theorem wm_cd_X7_fault : Cond.code yX7_fault cX7_fault 1 (some .int) ∈ wL := List.mem_filter.mpr ⟨wL_t2 _ (List.mem_of_getElem? (i := 144) rfl), rfl⟩
theorem wm_ml_X7_116 : Cond.methodLink RX7 116 yX2_firstFault ∈ wL := List.mem_filter.mpr ⟨wL_t2 _ (List.mem_of_getElem? (i := 145) rfl), rfl⟩
theorem wm_im_X2_firstFault : Cond.instanceMethod yX2_firstFault ∈ wL := List.mem_filter.mpr ⟨wL_t2 _ (List.mem_of_getElem? (i := 146) rfl), rfl⟩
theorem wm_se_X2_firstFault : Cond.selects RX2 yX2_firstFault yX2_firstFault ∈ wL := List.mem_filter.mpr ⟨wL_t2 _ (List.mem_of_getElem? (i := 147) rfl), rfl⟩
theorem wm_cd_X2_firstFault : Cond.code yX2_firstFault cX2_firstFault 3 (some .int) ∈ wL := List.mem_filter.mpr ⟨wL_t2 _ (List.mem_of_getElem? (i := 148) rfl), rfl⟩
theorem wm_ml_X2_19 : Cond.methodLink RX2 19 yX2_after ∈ wL := List.mem_filter.mpr ⟨wL_t2 _ (List.mem_of_getElem? (i := 149) rfl), rfl⟩
theorem wm_st_X2_after : Cond.static yX2_after ∈ wL := List.mem_filter.mpr ⟨wL_t2 _ (List.mem_of_getElem? (i := 150) rfl), rfl⟩
theorem wm_cd_X2_after : Cond.code yX2_after cX2_after 2 (some .int) ∈ wL := List.mem_filter.mpr ⟨wL_t2 _ (List.mem_of_getElem? (i := 151) rfl), rfl⟩
theorem wm_ml_X2_23 : Cond.methodLink RX2 23 yX2_afterNothing ∈ wL := List.mem_filter.mpr ⟨wL_t2 _ (List.mem_of_getElem? (i := 152) rfl), rfl⟩
theorem wm_st_X2_afterNothing : Cond.static yX2_afterNothing ∈ wL := List.mem_filter.mpr ⟨wL_t2 _ (List.mem_of_getElem? (i := 153) rfl), rfl⟩
theorem wm_cd_X2_afterNothing : Cond.code yX2_afterNothing cX2_afterNothing 1 (some .int) ∈ wL := List.mem_filter.mpr ⟨wL_t2 _ (List.mem_of_getElem? (i := 154) rfl), rfl⟩
theorem wm_ml_X2_27 : Cond.methodLink RX2 27 yX2_isLetter ∈ wL := List.mem_filter.mpr ⟨wL_t2 _ (List.mem_of_getElem? (i := 155) rfl), rfl⟩
theorem wm_st_X2_isLetter : Cond.static yX2_isLetter ∈ wL := List.mem_filter.mpr ⟨wL_t2 _ (List.mem_of_getElem? (i := 156) rfl), rfl⟩
theorem wm_cd_X2_isLetter : Cond.code yX2_isLetter cX2_isLetter 1 (some .boolean) ∈ wL := List.mem_filter.mpr ⟨wL_t2 _ (List.mem_of_getElem? (i := 157) rfl), rfl⟩
theorem wm_ml_L_44 : Cond.methodLink RL 44 yX8_fault ∈ wL := List.mem_filter.mpr ⟨wL_t5 _ (List.mem_of_getElem? (i := 4) rfl), rfl⟩
theorem wm_im_X8_fault : Cond.instanceMethod yX8_fault ∈ wL := List.mem_filter.mpr ⟨wL_t5 _ (List.mem_of_getElem? (i := 5) rfl), rfl⟩
theorem wm_se_X8_fault : Cond.selects RX8 yX8_fault yX8_fault ∈ wL := List.mem_filter.mpr ⟨wL_t5 _ (List.mem_of_getElem? (i := 6) rfl), rfl⟩
theorem wm_cd_X8_fault : Cond.code yX8_fault cX8_fault 4 (some .int) ∈ wL := List.mem_filter.mpr ⟨wL_t5 _ (List.mem_of_getElem? (i := 7) rfl), rfl⟩
theorem wm_fl_X8_124 : Cond.fieldLink RX8 124 "SwornPoundsModel" "acts" "I" ∈ wL := List.mem_filter.mpr ⟨wL_t4 _ (List.mem_of_getElem? (i := 84) rfl), rfl⟩
theorem wm_ml_X8_140 : Cond.methodLink RX8 140 yX8_beginAct ∈ wL := List.mem_filter.mpr ⟨wL_t5 _ (List.mem_of_getElem? (i := 8) rfl), rfl⟩
theorem wm_im_X8_beginAct : Cond.instanceMethod yX8_beginAct ∈ wL := List.mem_filter.mpr ⟨wL_t5 _ (List.mem_of_getElem? (i := 10) rfl), rfl⟩
theorem wm_se_X8_beginAct : Cond.selects RX8 yX8_beginAct yX8_beginAct ∈ wL := List.mem_filter.mpr ⟨wL_p2 (⟨"SwornPoundsModel", "beginAct", "(I)I"⟩, _) (List.mem_of_getElem? (i := 12) rfl), rfl⟩
theorem wm_cd_X8_beginAct : Cond.code yX8_beginAct cX8_beginAct 2 (some .int) ∈ wL := List.mem_filter.mpr ⟨wL_t5 _ (List.mem_of_getElem? (i := 11) rfl), rfl⟩
theorem wm_ml_X8_127 : Cond.methodLink RX8 127 yX8_readNear ∈ wL := List.mem_filter.mpr ⟨wL_t5 _ (List.mem_of_getElem? (i := 12) rfl), rfl⟩
theorem wm_im_X8_readNear : Cond.instanceMethod yX8_readNear ∈ wL := List.mem_filter.mpr ⟨wL_t5 _ (List.mem_of_getElem? (i := 14) rfl), rfl⟩
theorem wm_se_X8_readNear : Cond.selects RX8 yX8_readNear yX8_readNear ∈ wL := List.mem_filter.mpr ⟨wL_p2 (⟨"SwornPoundsModel", "readNear", "(I)I"⟩, _) (List.mem_of_getElem? (i := 13) rfl), rfl⟩
theorem wm_cd_X8_readNear : Cond.code yX8_readNear cX8_readNear 2 (some .int) ∈ wL := List.mem_filter.mpr ⟨wL_t5 _ (List.mem_of_getElem? (i := 15) rfl), rfl⟩
theorem wm_ml_X8_134 : Cond.methodLink RX8 134 yX8_isLetter ∈ wL := List.mem_filter.mpr ⟨wL_t5 _ (List.mem_of_getElem? (i := 16) rfl), rfl⟩
theorem wm_st_X8_isLetter : Cond.static yX8_isLetter ∈ wL := List.mem_filter.mpr ⟨wL_t5 _ (List.mem_of_getElem? (i := 17) rfl), rfl⟩
theorem wm_cd_X8_isLetter : Cond.code yX8_isLetter cX8_isLetter 1 (some .boolean) ∈ wL := List.mem_filter.mpr ⟨wL_t5 _ (List.mem_of_getElem? (i := 18) rfl), rfl⟩
theorem wm_cl_X8_130 : Cond.constantLong RX8 130 (65) ∈ wL := List.mem_filter.mpr ⟨wL_t5 _ (List.mem_of_getElem? (i := 19) rfl), rfl⟩
theorem wm_cl_X8_132 : Cond.constantLong RX8 132 (72) ∈ wL := List.mem_filter.mpr ⟨wL_t5 _ (List.mem_of_getElem? (i := 20) rfl), rfl⟩
theorem wm_ml_X8_137 : Cond.methodLink RX8 137 yX8_sit ∈ wL := List.mem_filter.mpr ⟨wL_t5 _ (List.mem_of_getElem? (i := 21) rfl), rfl⟩
theorem wm_im_X8_sit : Cond.instanceMethod yX8_sit ∈ wL := List.mem_filter.mpr ⟨wL_t5 _ (List.mem_of_getElem? (i := 23) rfl), rfl⟩
theorem wm_se_X8_sit : Cond.selects RX8 yX8_sit yX8_sit ∈ wL := List.mem_filter.mpr ⟨wL_p2 (⟨"SwornPoundsModel", "sit", "(I)V"⟩, _) (List.mem_of_getElem? (i := 14) rfl), rfl⟩
theorem wm_cd_X8_sit : Cond.code yX8_sit cX8_sit 3 none ∈ wL := List.mem_filter.mpr ⟨wL_t5 _ (List.mem_of_getElem? (i := 24) rfl), rfl⟩
theorem wm_ml_X8_143 : Cond.methodLink RX8 143 yX8_readCold ∈ wL := List.mem_filter.mpr ⟨wL_t5 _ (List.mem_of_getElem? (i := 25) rfl), rfl⟩
theorem wm_im_X8_readCold : Cond.instanceMethod yX8_readCold ∈ wL := List.mem_filter.mpr ⟨wL_t5 _ (List.mem_of_getElem? (i := 27) rfl), rfl⟩
theorem wm_se_X8_readCold : Cond.selects RX8 yX8_readCold yX8_readCold ∈ wL := List.mem_filter.mpr ⟨wL_p2 (⟨"SwornPoundsModel", "readCold", "(I)I"⟩, _) (List.mem_of_getElem? (i := 15) rfl), rfl⟩
theorem wm_cd_X8_readCold : Cond.code yX8_readCold cX8_readCold 2 (some .int) ∈ wL := List.mem_filter.mpr ⟨wL_t5 _ (List.mem_of_getElem? (i := 28) rfl), rfl⟩
theorem wm_ml_X8_146 : Cond.methodLink RX8 146 yX8_readAcross ∈ wL := List.mem_filter.mpr ⟨wL_t5 _ (List.mem_of_getElem? (i := 29) rfl), rfl⟩
theorem wm_im_X8_readAcross : Cond.instanceMethod yX8_readAcross ∈ wL := List.mem_filter.mpr ⟨wL_t5 _ (List.mem_of_getElem? (i := 31) rfl), rfl⟩
theorem wm_se_X8_readAcross : Cond.selects RX8 yX8_readAcross yX8_readAcross ∈ wL := List.mem_filter.mpr ⟨wL_p3 (⟨"SwornPoundsModel", "readAcross", "(II)I"⟩, _) (List.mem_of_getElem? (i := 0) rfl), rfl⟩
theorem wm_cd_X8_readAcross : Cond.code yX8_readAcross cX8_readAcross 3 (some .int) ∈ wL := List.mem_filter.mpr ⟨wL_t5 _ (List.mem_of_getElem? (i := 32) rfl), rfl⟩
theorem wm_ml_L_45 : Cond.methodLink RL 45 yX7_judge ∈ wL := List.mem_filter.mpr ⟨wL_t2 _ (List.mem_of_getElem? (i := 159) rfl), rfl⟩
theorem wm_im_X7_judge : Cond.instanceMethod yX7_judge ∈ wL := List.mem_filter.mpr ⟨wL_t2 _ (List.mem_of_getElem? (i := 160) rfl), rfl⟩
theorem wm_se_X7_judge : Cond.selects RX7 yX7_judge yX7_judge ∈ wL := List.mem_filter.mpr ⟨wL_t2 _ (List.mem_of_getElem? (i := 161) rfl), rfl⟩
theorem wm_cd_X7_judge : Cond.code yX7_judge cX7_judge 3 (some .int) ∈ wL := List.mem_filter.mpr ⟨wL_t2 _ (List.mem_of_getElem? (i := 162) rfl), rfl⟩
theorem wm_ml_X7_119 : Cond.methodLink RX7 119 yX7_holdMarket ∈ wL := List.mem_filter.mpr ⟨wL_t2 _ (List.mem_of_getElem? (i := 163) rfl), rfl⟩
theorem wm_im_X7_holdMarket : Cond.instanceMethod yX7_holdMarket ∈ wL := List.mem_filter.mpr ⟨wL_t2 _ (List.mem_of_getElem? (i := 165) rfl), rfl⟩
theorem wm_se_X7_holdMarket : Cond.selects RX7 yX7_holdMarket yX7_holdMarket ∈ wL := List.mem_filter.mpr ⟨wL_p1 (⟨"SwornPounds", "holdMarket", "()I"⟩, _) (List.mem_of_getElem? (i := 0) rfl), rfl⟩
theorem wm_cd_X7_holdMarket : Cond.code yX7_holdMarket cX7_holdMarket 1 (some .int) ∈ wL := List.mem_filter.mpr ⟨wL_t2 _ (List.mem_of_getElem? (i := 166) rfl), rfl⟩
theorem wm_fl_X7_274 : Cond.fieldLink RX7 274 "SwornPounds$Market" "badAct" "I" ∈ wL := List.mem_filter.mpr ⟨wL_t1 _ (List.mem_of_getElem? (i := 121) rfl), rfl⟩
theorem wm_ml_X7_270 : Cond.methodLink RX7 270 yX1_hold ∈ wL := List.mem_filter.mpr ⟨wL_t2 _ (List.mem_of_getElem? (i := 167) rfl), rfl⟩
theorem wm_im_X1_hold : Cond.instanceMethod yX1_hold ∈ wL := List.mem_filter.mpr ⟨wL_t2 _ (List.mem_of_getElem? (i := 168) rfl), rfl⟩
theorem wm_se_X1_hold : Cond.selects RX1 yX1_hold yX1_hold ∈ wL := List.mem_filter.mpr ⟨wL_t2 _ (List.mem_of_getElem? (i := 169) rfl), rfl⟩
theorem wm_cd_X1_hold : Cond.code yX1_hold cX1_hold 4 none ∈ wL := List.mem_filter.mpr ⟨wL_t2 _ (List.mem_of_getElem? (i := 170) rfl), rfl⟩
theorem wm_fl_X1_22 : Cond.fieldLink RX1 22 "SwornPounds$Market" "acts" "I" ∈ wL := List.mem_filter.mpr ⟨wL_t1 _ (List.mem_of_getElem? (i := 118) rfl), rfl⟩
theorem wm_fl_X1_26 : Cond.fieldLink RX1 26 "SwornPounds$Market" "badAct" "I" ∈ wL := List.mem_filter.mpr ⟨wL_t1 _ (List.mem_of_getElem? (i := 120) rfl), rfl⟩
theorem wm_fl_X1_29 : Cond.fieldLink RX1 29 "SwornPounds$Market" "why" "I" ∈ wL := List.mem_filter.mpr ⟨wL_t1 _ (List.mem_of_getElem? (i := 122) rfl), rfl⟩
theorem wm_fl_X1_32 : Cond.fieldLink RX1 32 "SwornPounds$Market" "sales" "I" ∈ wL := List.mem_filter.mpr ⟨wL_t1 _ (List.mem_of_getElem? (i := 123) rfl), rfl⟩
theorem wm_fl_X1_35 : Cond.fieldLink RX1 35 "SwornPounds$Market" "sold" "I" ∈ wL := List.mem_filter.mpr ⟨wL_t1 _ (List.mem_of_getElem? (i := 124) rfl), rfl⟩
theorem wm_fl_X1_38 : Cond.fieldLink RX1 38 "SwornPounds$Market" "pounds" "I" ∈ wL := List.mem_filter.mpr ⟨wL_t1 _ (List.mem_of_getElem? (i := 125) rfl), rfl⟩
theorem wm_fl_X1_41 : Cond.fieldLink RX1 41 "SwornPounds$Market" "offAct" "I" ∈ wL := List.mem_filter.mpr ⟨wL_t1 _ (List.mem_of_getElem? (i := 126) rfl), rfl⟩
theorem wm_fl_X1_47 : Cond.fieldLink RX1 47 "SwornPounds$Pad" "count" "I" ∈ wL := List.mem_filter.mpr ⟨wL_t1 _ (List.mem_of_getElem? (i := 100) rfl), rfl⟩
theorem wm_fl_X1_52 : Cond.fieldLink RX1 52 "SwornPounds$Pad" "signs" "[I" ∈ wL := List.mem_filter.mpr ⟨wL_t1 _ (List.mem_of_getElem? (i := 98) rfl), rfl⟩
theorem wm_ml_X1_18 : Cond.methodLink RX1 18 yX4_copyFrom ∈ wL := List.mem_filter.mpr ⟨wL_t2 _ (List.mem_of_getElem? (i := 171) rfl), rfl⟩
theorem wm_im_X4_copyFrom : Cond.instanceMethod yX4_copyFrom ∈ wL := List.mem_filter.mpr ⟨wL_t2 _ (List.mem_of_getElem? (i := 172) rfl), rfl⟩
theorem wm_se_X4_copyFrom : Cond.selects RX4 yX4_copyFrom yX4_copyFrom ∈ wL := List.mem_filter.mpr ⟨wL_t2 _ (List.mem_of_getElem? (i := 173) rfl), rfl⟩
theorem wm_cd_X4_copyFrom : Cond.code yX4_copyFrom cX4_copyFrom 2 none ∈ wL := List.mem_filter.mpr ⟨wL_t2 _ (List.mem_of_getElem? (i := 174) rfl), rfl⟩
theorem wm_ml_X4_43 : Cond.methodLink RX4 43 arraycopyName ∈ wL := List.mem_filter.mpr ⟨wL_t2 _ (List.mem_of_getElem? (i := 175) rfl), rfl⟩
theorem wm_nat_arraycopyName : Cond.native arraycopyName ∈ wL := List.mem_filter.mpr ⟨wL_t2 _ (List.mem_of_getElem? (i := 177) rfl), rfl⟩
theorem wm_st_arraycopyName : Cond.static arraycopyName ∈ wL := List.mem_filter.mpr ⟨wL_t2 _ (List.mem_of_getElem? (i := 176) rfl), rfl⟩
theorem wm_ini_System : Cond.initialized "java/lang/System" ∈ wL := List.mem_filter.mpr ⟨wL_t1 _ (List.mem_of_getElem? (i := 12) rfl), rfl⟩
theorem wm_fl_X4_55 : Cond.fieldLink RX4 55 "SwornPounds$Town" "day" "I" ∈ wL := List.mem_filter.mpr ⟨wL_t1 _ (List.mem_of_getElem? (i := 59) rfl), rfl⟩
theorem wm_fl_X4_58 : Cond.fieldLink RX4 58 "SwornPounds$Town" "sights" "I" ∈ wL := List.mem_filter.mpr ⟨wL_t1 _ (List.mem_of_getElem? (i := 61) rfl), rfl⟩
theorem wm_ml_X1_44 : Cond.methodLink RX1 44 yX1_beginAct ∈ wL := List.mem_filter.mpr ⟨wL_t2 _ (List.mem_of_getElem? (i := 178) rfl), rfl⟩
theorem wm_im_X1_beginAct : Cond.instanceMethod yX1_beginAct ∈ wL := List.mem_filter.mpr ⟨wL_t2 _ (List.mem_of_getElem? (i := 180) rfl), rfl⟩
theorem wm_se_X1_beginAct : Cond.selects RX1 yX1_beginAct yX1_beginAct ∈ wL := List.mem_filter.mpr ⟨wL_p1 (⟨"SwornPounds$Market", "beginAct", "()V"⟩, _) (List.mem_of_getElem? (i := 1) rfl), rfl⟩
theorem wm_cd_X1_beginAct : Cond.code yX1_beginAct cX1_beginAct 1 none ∈ wL := List.mem_filter.mpr ⟨wL_t2 _ (List.mem_of_getElem? (i := 181) rfl), rfl⟩
theorem wm_fl_X1_60 : Cond.fieldLink RX1 60 "SwornPounds$Market" "by" "I" ∈ wL := List.mem_filter.mpr ⟨wL_t1 _ (List.mem_of_getElem? (i := 127) rfl), rfl⟩
theorem wm_fl_X1_63 : Cond.fieldLink RX1 63 "SwornPounds$Market" "across" "I" ∈ wL := List.mem_filter.mpr ⟨wL_t1 _ (List.mem_of_getElem? (i := 128) rfl), rfl⟩
theorem wm_fl_X1_66 : Cond.fieldLink RX1 66 "SwornPounds$Market" "twice" "Z" ∈ wL := List.mem_filter.mpr ⟨wL_t1 _ (List.mem_of_getElem? (i := 129) rfl), rfl⟩
theorem wm_fl_X1_70 : Cond.fieldLink RX1 70 "SwornPounds$Market" "barred" "Z" ∈ wL := List.mem_filter.mpr ⟨wL_t1 _ (List.mem_of_getElem? (i := 130) rfl), rfl⟩
theorem wm_fl_X1_73 : Cond.fieldLink RX1 73 "SwornPounds$Market" "cold" "Z" ∈ wL := List.mem_filter.mpr ⟨wL_t1 _ (List.mem_of_getElem? (i := 131) rfl), rfl⟩
theorem wm_ml_X1_56 : Cond.methodLink RX1 56 yX1_read ∈ wL := List.mem_filter.mpr ⟨wL_t2 _ (List.mem_of_getElem? (i := 182) rfl), rfl⟩
theorem wm_im_X1_read : Cond.instanceMethod yX1_read ∈ wL := List.mem_filter.mpr ⟨wL_t2 _ (List.mem_of_getElem? (i := 184) rfl), rfl⟩
theorem wm_se_X1_read : Cond.selects RX1 yX1_read yX1_read ∈ wL := List.mem_filter.mpr ⟨wL_p1 (⟨"SwornPounds$Market", "read", "(I)V"⟩, _) (List.mem_of_getElem? (i := 2) rfl), rfl⟩
theorem wm_cd_X1_read : Cond.code yX1_read cX1_read 2 none ∈ wL := List.mem_filter.mpr ⟨wL_t2 _ (List.mem_of_getElem? (i := 185) rfl), rfl⟩
theorem wm_ml_X1_76 : Cond.methodLink RX1 76 yX2_isLetter ∈ wL := List.mem_filter.mpr ⟨wL_t2 _ (List.mem_of_getElem? (i := 186) rfl), rfl⟩
theorem wm_ml_X1_80 : Cond.methodLink RX1 80 yX1_readPerson ∈ wL := List.mem_filter.mpr ⟨wL_t2 _ (List.mem_of_getElem? (i := 187) rfl), rfl⟩
theorem wm_im_X1_readPerson : Cond.instanceMethod yX1_readPerson ∈ wL := List.mem_filter.mpr ⟨wL_t2 _ (List.mem_of_getElem? (i := 189) rfl), rfl⟩
theorem wm_se_X1_readPerson : Cond.selects RX1 yX1_readPerson yX1_readPerson ∈ wL := List.mem_filter.mpr ⟨wL_p1 (⟨"SwornPounds$Market", "readPerson", "(I)V"⟩, _) (List.mem_of_getElem? (i := 3) rfl), rfl⟩
theorem wm_cd_X1_readPerson : Cond.code yX1_readPerson cX1_readPerson 2 none ∈ wL := List.mem_filter.mpr ⟨wL_t2 _ (List.mem_of_getElem? (i := 190) rfl), rfl⟩
theorem wm_ml_X1_95 : Cond.methodLink RX1 95 yX1_sit ∈ wL := List.mem_filter.mpr ⟨wL_t2 _ (List.mem_of_getElem? (i := 191) rfl), rfl⟩
theorem wm_im_X1_sit : Cond.instanceMethod yX1_sit ∈ wL := List.mem_filter.mpr ⟨wL_t2 _ (List.mem_of_getElem? (i := 193) rfl), rfl⟩
theorem wm_se_X1_sit : Cond.selects RX1 yX1_sit yX1_sit ∈ wL := List.mem_filter.mpr ⟨wL_p1 (⟨"SwornPounds$Market", "sit", "(I)V"⟩, _) (List.mem_of_getElem? (i := 4) rfl), rfl⟩
theorem wm_cd_X1_sit : Cond.code yX1_sit cX1_sit 2 none ∈ wL := List.mem_filter.mpr ⟨wL_t2 _ (List.mem_of_getElem? (i := 194) rfl), rfl⟩
theorem wm_st_X7_holds : Cond.static yX7_holds ∈ wL := List.mem_filter.mpr ⟨wL_t2 _ (List.mem_of_getElem? (i := 196) rfl), rfl⟩
theorem wm_cd_X7_holds : Cond.code yX7_holds cX7_holds 2 (some .boolean) ∈ wL := List.mem_filter.mpr ⟨wL_t2 _ (List.mem_of_getElem? (i := 197) rfl), rfl⟩
theorem wm_ml_X1_98 : Cond.methodLink RX1 98 yX4_has ∈ wL := List.mem_filter.mpr ⟨wL_t2 _ (List.mem_of_getElem? (i := 198) rfl), rfl⟩
theorem wm_ml_X1_101 : Cond.methodLink RX1 101 yX4_turnCold ∈ wL := List.mem_filter.mpr ⟨wL_t2 _ (List.mem_of_getElem? (i := 199) rfl), rfl⟩
theorem wm_im_X4_turnCold : Cond.instanceMethod yX4_turnCold ∈ wL := List.mem_filter.mpr ⟨wL_t2 _ (List.mem_of_getElem? (i := 200) rfl), rfl⟩
theorem wm_se_X4_turnCold : Cond.selects RX4 yX4_turnCold yX4_turnCold ∈ wL := List.mem_filter.mpr ⟨wL_t2 _ (List.mem_of_getElem? (i := 201) rfl), rfl⟩
theorem wm_cd_X4_turnCold : Cond.code yX4_turnCold cX4_turnCold 2 none ∈ wL := List.mem_filter.mpr ⟨wL_t2 _ (List.mem_of_getElem? (i := 202) rfl), rfl⟩
theorem wm_ml_X1_86 : Cond.methodLink RX1 86 yX1_endAct ∈ wL := List.mem_filter.mpr ⟨wL_t2 _ (List.mem_of_getElem? (i := 203) rfl), rfl⟩
theorem wm_im_X1_endAct : Cond.instanceMethod yX1_endAct ∈ wL := List.mem_filter.mpr ⟨wL_t2 _ (List.mem_of_getElem? (i := 205) rfl), rfl⟩
theorem wm_se_X1_endAct : Cond.selects RX1 yX1_endAct yX1_endAct ∈ wL := List.mem_filter.mpr ⟨wL_p1 (⟨"SwornPounds$Market", "endAct", "()V"⟩, _) (List.mem_of_getElem? (i := 5) rfl), rfl⟩
theorem wm_cd_X1_endAct : Cond.code yX1_endAct cX1_endAct 1 none ∈ wL := List.mem_filter.mpr ⟨wL_t2 _ (List.mem_of_getElem? (i := 206) rfl), rfl⟩
theorem wm_ml_X1_104 : Cond.methodLink RX1 104 yX1_breakOff ∈ wL := List.mem_filter.mpr ⟨wL_t2 _ (List.mem_of_getElem? (i := 207) rfl), rfl⟩
theorem wm_im_X1_breakOff : Cond.instanceMethod yX1_breakOff ∈ wL := List.mem_filter.mpr ⟨wL_t2 _ (List.mem_of_getElem? (i := 209) rfl), rfl⟩
theorem wm_se_X1_breakOff : Cond.selects RX1 yX1_breakOff yX1_breakOff ∈ wL := List.mem_filter.mpr ⟨wL_p1 (⟨"SwornPounds$Market", "breakOff", "(I)V"⟩, _) (List.mem_of_getElem? (i := 6) rfl), rfl⟩
theorem wm_cd_X1_breakOff : Cond.code yX1_breakOff cX1_breakOff 2 none ∈ wL := List.mem_filter.mpr ⟨wL_t2 _ (List.mem_of_getElem? (i := 210) rfl), rfl⟩
theorem wm_ml_X1_83 : Cond.methodLink RX1 83 yX4_passDay ∈ wL := List.mem_filter.mpr ⟨wL_t2 _ (List.mem_of_getElem? (i := 211) rfl), rfl⟩
theorem wm_im_X4_passDay : Cond.instanceMethod yX4_passDay ∈ wL := List.mem_filter.mpr ⟨wL_t2 _ (List.mem_of_getElem? (i := 212) rfl), rfl⟩
theorem wm_se_X4_passDay : Cond.selects RX4 yX4_passDay yX4_passDay ∈ wL := List.mem_filter.mpr ⟨wL_t2 _ (List.mem_of_getElem? (i := 213) rfl), rfl⟩
theorem wm_cd_X4_passDay : Cond.code yX4_passDay cX4_passDay 2 none ∈ wL := List.mem_filter.mpr ⟨wL_t2 _ (List.mem_of_getElem? (i := 214) rfl), rfl⟩
theorem wm_ml_X4_94 : Cond.methodLink RX4 94 yX4_drifted ∈ wL := List.mem_filter.mpr ⟨wL_t2 _ (List.mem_of_getElem? (i := 215) rfl), rfl⟩
theorem wm_im_X4_drifted : Cond.instanceMethod yX4_drifted ∈ wL := List.mem_filter.mpr ⟨wL_t2 _ (List.mem_of_getElem? (i := 216) rfl), rfl⟩
theorem wm_se_X4_drifted : Cond.selects RX4 yX4_drifted yX4_drifted ∈ wL := List.mem_filter.mpr ⟨wL_t2 _ (List.mem_of_getElem? (i := 217) rfl), rfl⟩
theorem wm_cd_X4_drifted : Cond.code yX4_drifted cX4_drifted 3 (some .int) ∈ wL := List.mem_filter.mpr ⟨wL_t2 _ (List.mem_of_getElem? (i := 218) rfl), rfl⟩
theorem wm_ml_X4_86 : Cond.methodLink RX4 86 Lib.Math.min.name ∈ wL := List.mem_filter.mpr ⟨wL_t2 _ (List.mem_of_getElem? (i := 219) rfl), rfl⟩
theorem wm_st_min : Cond.static Lib.Math.min.name ∈ wL := List.mem_filter.mpr ⟨wL_t2 _ (List.mem_of_getElem? (i := 220) rfl), rfl⟩
theorem wm_ini_Math : Cond.initialized "java/lang/Math" ∈ wL := List.mem_filter.mpr ⟨wL_t1 _ (List.mem_of_getElem? (i := 13) rfl), rfl⟩
theorem wm_cd_min : Cond.code Lib.Math.min.name Lib.Math.min.code 2 (some .int) ∈ wL := List.mem_filter.mpr ⟨wL_t2 _ (List.mem_of_getElem? (i := 221) rfl), rfl⟩
theorem wm_ml_X4_91 : Cond.methodLink RX4 91 Lib.Math.max.name ∈ wL := List.mem_filter.mpr ⟨wL_t2 _ (List.mem_of_getElem? (i := 222) rfl), rfl⟩
theorem wm_st_max : Cond.static Lib.Math.max.name ∈ wL := List.mem_filter.mpr ⟨wL_t2 _ (List.mem_of_getElem? (i := 223) rfl), rfl⟩
theorem wm_cd_max : Cond.code Lib.Math.max.name Lib.Math.max.code 2 (some .int) ∈ wL := List.mem_filter.mpr ⟨wL_t2 _ (List.mem_of_getElem? (i := 224) rfl), rfl⟩
theorem wm_ml_X1_89 : Cond.methodLink RX1 89 yX4_feast ∈ wL := List.mem_filter.mpr ⟨wL_t2 _ (List.mem_of_getElem? (i := 225) rfl), rfl⟩
theorem wm_im_X4_feast : Cond.instanceMethod yX4_feast ∈ wL := List.mem_filter.mpr ⟨wL_t2 _ (List.mem_of_getElem? (i := 226) rfl), rfl⟩
theorem wm_se_X4_feast : Cond.selects RX4 yX4_feast yX4_feast ∈ wL := List.mem_filter.mpr ⟨wL_t2 _ (List.mem_of_getElem? (i := 227) rfl), rfl⟩
theorem wm_cd_X4_feast : Cond.code yX4_feast cX4_feast 2 none ∈ wL := List.mem_filter.mpr ⟨wL_t2 _ (List.mem_of_getElem? (i := 228) rfl), rfl⟩
theorem wm_ml_X1_92 : Cond.methodLink RX1 92 yX1_sell ∈ wL := List.mem_filter.mpr ⟨wL_t2 _ (List.mem_of_getElem? (i := 229) rfl), rfl⟩
theorem wm_im_X1_sell : Cond.instanceMethod yX1_sell ∈ wL := List.mem_filter.mpr ⟨wL_t2 _ (List.mem_of_getElem? (i := 231) rfl), rfl⟩
theorem wm_se_X1_sell : Cond.selects RX1 yX1_sell yX1_sell ∈ wL := List.mem_filter.mpr ⟨wL_p1 (⟨"SwornPounds$Market", "sell", "()V"⟩, _) (List.mem_of_getElem? (i := 7) rfl), rfl⟩
theorem wm_cd_X1_sell : Cond.code yX1_sell cX1_sell 4 none ∈ wL := List.mem_filter.mpr ⟨wL_t2 _ (List.mem_of_getElem? (i := 232) rfl), rfl⟩
theorem wm_fl_X1_111 : Cond.fieldLink RX1 111 "SwornPounds$Town" "sworn" "[I" ∈ wL := List.mem_filter.mpr ⟨wL_t1 _ (List.mem_of_getElem? (i := 35) rfl), rfl⟩
theorem wm_ml_X1_125 : Cond.methodLink RX1 125 Lib.Math.max.name ∈ wL := List.mem_filter.mpr ⟨wL_t3 _ (List.mem_of_getElem? (i := 18) rfl), rfl⟩
theorem wm_ml_X1_131 : Cond.methodLink RX1 131 Lib.Math.abs.name ∈ wL := List.mem_filter.mpr ⟨wL_t3 _ (List.mem_of_getElem? (i := 19) rfl), rfl⟩
theorem wm_st_abs : Cond.static Lib.Math.abs.name ∈ wL := List.mem_filter.mpr ⟨wL_t3 _ (List.mem_of_getElem? (i := 20) rfl), rfl⟩
theorem wm_cd_abs : Cond.code Lib.Math.abs.name Lib.Math.abs.code 1 (some .int) ∈ wL := List.mem_filter.mpr ⟨wL_t3 _ (List.mem_of_getElem? (i := 21) rfl), rfl⟩
theorem wm_fl_X1_134 : Cond.fieldLink RX1 134 "SwornPounds$Town" "limit" "I" ∈ wL := List.mem_filter.mpr ⟨wL_t1 _ (List.mem_of_getElem? (i := 58) rfl), rfl⟩
theorem wm_ml_X1_114 : Cond.methodLink RX1 114 yX4_sumOver ∈ wL := List.mem_filter.mpr ⟨wL_t2 _ (List.mem_of_getElem? (i := 233) rfl), rfl⟩
theorem wm_im_X4_sumOver : Cond.instanceMethod yX4_sumOver ∈ wL := List.mem_filter.mpr ⟨wL_t2 _ (List.mem_of_getElem? (i := 234) rfl), rfl⟩
theorem wm_se_X4_sumOver : Cond.selects RX4 yX4_sumOver yX4_sumOver ∈ wL := List.mem_filter.mpr ⟨wL_t2 _ (List.mem_of_getElem? (i := 235) rfl), rfl⟩
theorem wm_cd_X4_sumOver : Cond.code yX4_sumOver cX4_sumOver 5 (some .int) ∈ wL := List.mem_filter.mpr ⟨wL_t2 _ (List.mem_of_getElem? (i := 236) rfl), rfl⟩
theorem wm_ml_X1_118 : Cond.methodLink RX1 118 yX1_reasonAgainst ∈ wL := List.mem_filter.mpr ⟨wL_t2 _ (List.mem_of_getElem? (i := 238) rfl), rfl⟩
theorem wm_im_X1_reasonAgainst : Cond.instanceMethod yX1_reasonAgainst ∈ wL := List.mem_filter.mpr ⟨wL_t3 _ (List.mem_of_getElem? (i := 0) rfl), rfl⟩
theorem wm_se_X1_reasonAgainst : Cond.selects RX1 yX1_reasonAgainst yX1_reasonAgainst ∈ wL := List.mem_filter.mpr ⟨wL_p1 (⟨"SwornPounds$Market", "reasonAgainst", "(I)I"⟩, _) (List.mem_of_getElem? (i := 8) rfl), rfl⟩
theorem wm_cd_X1_reasonAgainst : Cond.code yX1_reasonAgainst cX1_reasonAgainst 2 (some .int) ∈ wL := List.mem_filter.mpr ⟨wL_t3 _ (List.mem_of_getElem? (i := 1) rfl), rfl⟩
theorem wm_ml_X1_137 : Cond.methodLink RX1 137 yX4_hasAll ∈ wL := List.mem_filter.mpr ⟨wL_t3 _ (List.mem_of_getElem? (i := 2) rfl), rfl⟩
theorem wm_im_X4_hasAll : Cond.instanceMethod yX4_hasAll ∈ wL := List.mem_filter.mpr ⟨wL_t3 _ (List.mem_of_getElem? (i := 3) rfl), rfl⟩
theorem wm_se_X4_hasAll : Cond.selects RX4 yX4_hasAll yX4_hasAll ∈ wL := List.mem_filter.mpr ⟨wL_t3 _ (List.mem_of_getElem? (i := 4) rfl), rfl⟩
theorem wm_cd_X4_hasAll : Cond.code yX4_hasAll cX4_hasAll 2 (some .boolean) ∈ wL := List.mem_filter.mpr ⟨wL_t3 _ (List.mem_of_getElem? (i := 5) rfl), rfl⟩
theorem wm_ml_X1_140 : Cond.methodLink RX1 140 yX4_together ∈ wL := List.mem_filter.mpr ⟨wL_t3 _ (List.mem_of_getElem? (i := 6) rfl), rfl⟩
theorem wm_im_X4_together : Cond.instanceMethod yX4_together ∈ wL := List.mem_filter.mpr ⟨wL_t3 _ (List.mem_of_getElem? (i := 7) rfl), rfl⟩
theorem wm_se_X4_together : Cond.selects RX4 yX4_together yX4_together ∈ wL := List.mem_filter.mpr ⟨wL_t3 _ (List.mem_of_getElem? (i := 8) rfl), rfl⟩
theorem wm_cd_X4_together : Cond.code yX4_together cX4_together 3 (some .boolean) ∈ wL := List.mem_filter.mpr ⟨wL_t3 _ (List.mem_of_getElem? (i := 9) rfl), rfl⟩
theorem wm_ml_X1_122 : Cond.methodLink RX1 122 yX4_poundsOfAll ∈ wL := List.mem_filter.mpr ⟨wL_t3 _ (List.mem_of_getElem? (i := 10) rfl), rfl⟩
theorem wm_im_X4_poundsOfAll : Cond.instanceMethod yX4_poundsOfAll ∈ wL := List.mem_filter.mpr ⟨wL_t3 _ (List.mem_of_getElem? (i := 11) rfl), rfl⟩
theorem wm_se_X4_poundsOfAll : Cond.selects RX4 yX4_poundsOfAll yX4_poundsOfAll ∈ wL := List.mem_filter.mpr ⟨wL_t3 _ (List.mem_of_getElem? (i := 12) rfl), rfl⟩
theorem wm_cd_X4_poundsOfAll : Cond.code yX4_poundsOfAll cX4_poundsOfAll 4 (some .int) ∈ wL := List.mem_filter.mpr ⟨wL_t3 _ (List.mem_of_getElem? (i := 13) rfl), rfl⟩
theorem wm_ml_X4_79 : Cond.methodLink RX4 79 yX4_withCold ∈ wL := List.mem_filter.mpr ⟨wL_t3 _ (List.mem_of_getElem? (i := 14) rfl), rfl⟩
theorem wm_im_X4_withCold : Cond.instanceMethod yX4_withCold ∈ wL := List.mem_filter.mpr ⟨wL_t3 _ (List.mem_of_getElem? (i := 15) rfl), rfl⟩
theorem wm_se_X4_withCold : Cond.selects RX4 yX4_withCold yX4_withCold ∈ wL := List.mem_filter.mpr ⟨wL_t3 _ (List.mem_of_getElem? (i := 16) rfl), rfl⟩
theorem wm_cd_X4_withCold : Cond.code yX4_withCold cX4_withCold 3 (some .int) ∈ wL := List.mem_filter.mpr ⟨wL_t3 _ (List.mem_of_getElem? (i := 17) rfl), rfl⟩
theorem wm_ml_X7_122 : Cond.methodLink RX7 122 yX1_answer ∈ wL := List.mem_filter.mpr ⟨wL_t3 _ (List.mem_of_getElem? (i := 22) rfl), rfl⟩
theorem wm_im_X1_answer : Cond.instanceMethod yX1_answer ∈ wL := List.mem_filter.mpr ⟨wL_t3 _ (List.mem_of_getElem? (i := 23) rfl), rfl⟩
theorem wm_se_X1_answer : Cond.selects RX1 yX1_answer yX1_answer ∈ wL := List.mem_filter.mpr ⟨wL_t3 _ (List.mem_of_getElem? (i := 24) rfl), rfl⟩
theorem wm_cd_X1_answer : Cond.code yX1_answer cX1_answer 2 (some .int) ∈ wL := List.mem_filter.mpr ⟨wL_t3 _ (List.mem_of_getElem? (i := 25) rfl), rfl⟩
theorem wm_ml_L_48 : Cond.methodLink RL 48 yX8_judge ∈ wL := List.mem_filter.mpr ⟨wL_t5 _ (List.mem_of_getElem? (i := 33) rfl), rfl⟩
theorem wm_im_X8_judge : Cond.instanceMethod yX8_judge ∈ wL := List.mem_filter.mpr ⟨wL_t5 _ (List.mem_of_getElem? (i := 34) rfl), rfl⟩
theorem wm_se_X8_judge : Cond.selects RX8 yX8_judge yX8_judge ∈ wL := List.mem_filter.mpr ⟨wL_t5 _ (List.mem_of_getElem? (i := 35) rfl), rfl⟩
theorem wm_cd_X8_judge : Cond.code yX8_judge cX8_judge 3 (some .int) ∈ wL := List.mem_filter.mpr ⟨wL_t5 _ (List.mem_of_getElem? (i := 36) rfl), rfl⟩
theorem wm_cl_X8_225 : Cond.constantLong RX8 225 (5) ∈ wL := List.mem_filter.mpr ⟨wL_t5 _ (List.mem_of_getElem? (i := 37) rfl), rfl⟩
theorem wm_fl_X8_198 : Cond.fieldLink RX8 198 "SwornPoundsModel" "badAct" "I" ∈ wL := List.mem_filter.mpr ⟨wL_t4 _ (List.mem_of_getElem? (i := 92) rfl), rfl⟩
theorem wm_fl_X8_201 : Cond.fieldLink RX8 201 "SwornPoundsModel" "badWhy" "I" ∈ wL := List.mem_filter.mpr ⟨wL_t4 _ (List.mem_of_getElem? (i := 93) rfl), rfl⟩
theorem wm_fl_X8_168 : Cond.fieldLink RX8 168 "SwornPoundsModel" "sales" "I" ∈ wL := List.mem_filter.mpr ⟨wL_t4 _ (List.mem_of_getElem? (i := 85) rfl), rfl⟩
theorem wm_fl_X8_171 : Cond.fieldLink RX8 171 "SwornPoundsModel" "sold" "I" ∈ wL := List.mem_filter.mpr ⟨wL_t4 _ (List.mem_of_getElem? (i := 86) rfl), rfl⟩
theorem wm_fl_X8_174 : Cond.fieldLink RX8 174 "SwornPoundsModel" "were" "I" ∈ wL := List.mem_filter.mpr ⟨wL_t4 _ (List.mem_of_getElem? (i := 87) rfl), rfl⟩
theorem wm_fl_X8_177 : Cond.fieldLink RX8 177 "SwornPoundsModel" "firstOff" "I" ∈ wL := List.mem_filter.mpr ⟨wL_t4 _ (List.mem_of_getElem? (i := 88) rfl), rfl⟩
theorem wm_ml_X8_227 : Cond.methodLink RX8 227 yX8_refusal ∈ wL := List.mem_filter.mpr ⟨wL_t5 _ (List.mem_of_getElem? (i := 38) rfl), rfl⟩
theorem wm_im_X8_refusal : Cond.instanceMethod yX8_refusal ∈ wL := List.mem_filter.mpr ⟨wL_t5 _ (List.mem_of_getElem? (i := 40) rfl), rfl⟩
theorem wm_se_X8_refusal : Cond.selects RX8 yX8_refusal yX8_refusal ∈ wL := List.mem_filter.mpr ⟨wL_p3 (⟨"SwornPoundsModel", "refusal", "()I"⟩, _) (List.mem_of_getElem? (i := 1) rfl), rfl⟩
theorem wm_cd_X8_refusal : Cond.code yX8_refusal cX8_refusal 2 (some .int) ∈ wL := List.mem_filter.mpr ⟨wL_t5 _ (List.mem_of_getElem? (i := 41) rfl), rfl⟩
theorem wm_fl_X8_162 : Cond.fieldLink RX8 162 "SwornPoundsModel" "today" "I" ∈ wL := List.mem_filter.mpr ⟨wL_t4 _ (List.mem_of_getElem? (i := 69) rfl), rfl⟩
theorem wm_fl_X8_219 : Cond.fieldLink RX8 219 "SwornPoundsModel" "leavesDay" "I" ∈ wL := List.mem_filter.mpr ⟨wL_t4 _ (List.mem_of_getElem? (i := 96) rfl), rfl⟩
theorem wm_ml_X8_210 : Cond.methodLink RX8 210 yX8_fault ∈ wL := List.mem_filter.mpr ⟨wL_t5 _ (List.mem_of_getElem? (i := 42) rfl), rfl⟩
theorem wm_ml_X8_213 : Cond.methodLink RX8 213 yX8_keepNow ∈ wL := List.mem_filter.mpr ⟨wL_t5 _ (List.mem_of_getElem? (i := 43) rfl), rfl⟩
theorem wm_im_X8_keepNow : Cond.instanceMethod yX8_keepNow ∈ wL := List.mem_filter.mpr ⟨wL_t5 _ (List.mem_of_getElem? (i := 45) rfl), rfl⟩
theorem wm_se_X8_keepNow : Cond.selects RX8 yX8_keepNow yX8_keepNow ∈ wL := List.mem_filter.mpr ⟨wL_p3 (⟨"SwornPoundsModel", "keepNow", "()V"⟩, _) (List.mem_of_getElem? (i := 2) rfl), rfl⟩
theorem wm_cd_X8_keepNow : Cond.code yX8_keepNow cX8_keepNow 2 none ∈ wL := List.mem_filter.mpr ⟨wL_t5 _ (List.mem_of_getElem? (i := 46) rfl), rfl⟩
theorem wm_fl_X8_192 : Cond.fieldLink RX8 192 "SwornPoundsModel" "hadColds" "I" ∈ wL := List.mem_filter.mpr ⟨wL_t4 _ (List.mem_of_getElem? (i := 90) rfl), rfl⟩
theorem wm_fl_X8_195 : Cond.fieldLink RX8 195 "SwornPoundsModel" "hadToday" "I" ∈ wL := List.mem_filter.mpr ⟨wL_t4 _ (List.mem_of_getElem? (i := 91) rfl), rfl⟩
theorem wm_ml_X8_216 : Cond.methodLink RX8 216 yX8_goMarket ∈ wL := List.mem_filter.mpr ⟨wL_t5 _ (List.mem_of_getElem? (i := 47) rfl), rfl⟩
theorem wm_im_X8_goMarket : Cond.instanceMethod yX8_goMarket ∈ wL := List.mem_filter.mpr ⟨wL_t5 _ (List.mem_of_getElem? (i := 49) rfl), rfl⟩
theorem wm_se_X8_goMarket : Cond.selects RX8 yX8_goMarket yX8_goMarket ∈ wL := List.mem_filter.mpr ⟨wL_p3 (⟨"SwornPoundsModel", "goMarket", "()V"⟩, _) (List.mem_of_getElem? (i := 3) rfl), rfl⟩
theorem wm_cd_X8_goMarket : Cond.code yX8_goMarket cX8_goMarket 3 none ∈ wL := List.mem_filter.mpr ⟨wL_t5 _ (List.mem_of_getElem? (i := 50) rfl), rfl⟩
theorem wm_ml_X8_204 : Cond.methodLink RX8 204 yX8_whyNot ∈ wL := List.mem_filter.mpr ⟨wL_t5 _ (List.mem_of_getElem? (i := 51) rfl), rfl⟩
theorem wm_im_X8_whyNot : Cond.instanceMethod yX8_whyNot ∈ wL := List.mem_filter.mpr ⟨wL_t5 _ (List.mem_of_getElem? (i := 53) rfl), rfl⟩
theorem wm_se_X8_whyNot : Cond.selects RX8 yX8_whyNot yX8_whyNot ∈ wL := List.mem_filter.mpr ⟨wL_p3 (⟨"SwornPoundsModel", "whyNot", "(I)I"⟩, _) (List.mem_of_getElem? (i := 4) rfl), rfl⟩
theorem wm_cd_X8_whyNot : Cond.code yX8_whyNot cX8_whyNot 2 (some .int) ∈ wL := List.mem_filter.mpr ⟨wL_t5 _ (List.mem_of_getElem? (i := 54) rfl), rfl⟩
theorem wm_ml_X8_153 : Cond.methodLink RX8 153 yX8_areTogether ∈ wL := List.mem_filter.mpr ⟨wL_t5 _ (List.mem_of_getElem? (i := 55) rfl), rfl⟩
theorem wm_im_X8_areTogether : Cond.instanceMethod yX8_areTogether ∈ wL := List.mem_filter.mpr ⟨wL_t5 _ (List.mem_of_getElem? (i := 57) rfl), rfl⟩
theorem wm_se_X8_areTogether : Cond.selects RX8 yX8_areTogether yX8_areTogether ∈ wL := List.mem_filter.mpr ⟨wL_p3 (⟨"SwornPoundsModel", "areTogether", "(I)Z"⟩, _) (List.mem_of_getElem? (i := 5) rfl), rfl⟩
theorem wm_cd_X8_areTogether : Cond.code yX8_areTogether cX8_areTogether 4 (some .boolean) ∈ wL := List.mem_filter.mpr ⟨wL_t5 _ (List.mem_of_getElem? (i := 58) rfl), rfl⟩
theorem wm_ml_X8_156 : Cond.methodLink RX8 156 yX8_swornOf ∈ wL := List.mem_filter.mpr ⟨wL_t5 _ (List.mem_of_getElem? (i := 59) rfl), rfl⟩
theorem wm_im_X8_swornOf : Cond.instanceMethod yX8_swornOf ∈ wL := List.mem_filter.mpr ⟨wL_t5 _ (List.mem_of_getElem? (i := 61) rfl), rfl⟩
theorem wm_se_X8_swornOf : Cond.selects RX8 yX8_swornOf yX8_swornOf ∈ wL := List.mem_filter.mpr ⟨wL_p3 (⟨"SwornPoundsModel", "swornOf", "(I)I"⟩, _) (List.mem_of_getElem? (i := 6) rfl), rfl⟩
theorem wm_cd_X8_swornOf : Cond.code yX8_swornOf cX8_swornOf 4 (some .int) ∈ wL := List.mem_filter.mpr ⟨wL_t5 _ (List.mem_of_getElem? (i := 62) rfl), rfl⟩
theorem wm_ml_X8_207 : Cond.methodLink RX8 207 yX8_happen ∈ wL := List.mem_filter.mpr ⟨wL_t5 _ (List.mem_of_getElem? (i := 63) rfl), rfl⟩
theorem wm_im_X8_happen : Cond.instanceMethod yX8_happen ∈ wL := List.mem_filter.mpr ⟨wL_t5 _ (List.mem_of_getElem? (i := 65) rfl), rfl⟩
theorem wm_se_X8_happen : Cond.selects RX8 yX8_happen yX8_happen ∈ wL := List.mem_filter.mpr ⟨wL_p3 (⟨"SwornPoundsModel", "happen", "(I)V"⟩, _) (List.mem_of_getElem? (i := 7) rfl), rfl⟩
theorem wm_cd_X8_happen : Cond.code yX8_happen cX8_happen 2 none ∈ wL := List.mem_filter.mpr ⟨wL_t5 _ (List.mem_of_getElem? (i := 66) rfl), rfl⟩
theorem wm_ml_X8_183 : Cond.methodLink RX8 183 yX8_sell ∈ wL := List.mem_filter.mpr ⟨wL_t5 _ (List.mem_of_getElem? (i := 67) rfl), rfl⟩
theorem wm_im_X8_sell : Cond.instanceMethod yX8_sell ∈ wL := List.mem_filter.mpr ⟨wL_t5 _ (List.mem_of_getElem? (i := 69) rfl), rfl⟩
theorem wm_se_X8_sell : Cond.selects RX8 yX8_sell yX8_sell ∈ wL := List.mem_filter.mpr ⟨wL_p3 (⟨"SwornPoundsModel", "sell", "(I)V"⟩, _) (List.mem_of_getElem? (i := 8) rfl), rfl⟩
theorem wm_cd_X8_sell : Cond.code yX8_sell cX8_sell 4 none ∈ wL := List.mem_filter.mpr ⟨wL_t5 _ (List.mem_of_getElem? (i := 70) rfl), rfl⟩
theorem wm_ml_X8_165 : Cond.methodLink RX8 165 yX8_poundsOf ∈ wL := List.mem_filter.mpr ⟨wL_t5 _ (List.mem_of_getElem? (i := 71) rfl), rfl⟩
theorem wm_im_X8_poundsOf : Cond.instanceMethod yX8_poundsOf ∈ wL := List.mem_filter.mpr ⟨wL_t5 _ (List.mem_of_getElem? (i := 73) rfl), rfl⟩
theorem wm_se_X8_poundsOf : Cond.selects RX8 yX8_poundsOf yX8_poundsOf ∈ wL := List.mem_filter.mpr ⟨wL_p3 (⟨"SwornPoundsModel", "poundsOf", "(I)I"⟩, _) (List.mem_of_getElem? (i := 9) rfl), rfl⟩
theorem wm_cd_X8_poundsOf : Cond.code yX8_poundsOf cX8_poundsOf 4 (some .int) ∈ wL := List.mem_filter.mpr ⟨wL_t5 _ (List.mem_of_getElem? (i := 74) rfl), rfl⟩
theorem wm_ml_X8_150 : Cond.methodLink RX8 150 yX8_pounds ∈ wL := List.mem_filter.mpr ⟨wL_t5 _ (List.mem_of_getElem? (i := 75) rfl), rfl⟩
theorem wm_im_X8_pounds : Cond.instanceMethod yX8_pounds ∈ wL := List.mem_filter.mpr ⟨wL_t5 _ (List.mem_of_getElem? (i := 77) rfl), rfl⟩
theorem wm_se_X8_pounds : Cond.selects RX8 yX8_pounds yX8_pounds ∈ wL := List.mem_filter.mpr ⟨wL_p3 (⟨"SwornPoundsModel", "pounds", "(I)I"⟩, _) (List.mem_of_getElem? (i := 10) rfl), rfl⟩
theorem wm_cd_X8_pounds : Cond.code yX8_pounds cX8_pounds 2 (some .int) ∈ wL := List.mem_filter.mpr ⟨wL_t5 _ (List.mem_of_getElem? (i := 78) rfl), rfl⟩
theorem wm_ml_X8_180 : Cond.methodLink RX8 180 yX8_size ∈ wL := List.mem_filter.mpr ⟨wL_t5 _ (List.mem_of_getElem? (i := 79) rfl), rfl⟩
theorem wm_st_X8_size : Cond.static yX8_size ∈ wL := List.mem_filter.mpr ⟨wL_t5 _ (List.mem_of_getElem? (i := 80) rfl), rfl⟩
theorem wm_cd_X8_size : Cond.code yX8_size cX8_size 1 (some .int) ∈ wL := List.mem_filter.mpr ⟨wL_t5 _ (List.mem_of_getElem? (i := 81) rfl), rfl⟩
theorem wm_ml_X8_186 : Cond.methodLink RX8 186 yX8_passDay ∈ wL := List.mem_filter.mpr ⟨wL_t5 _ (List.mem_of_getElem? (i := 82) rfl), rfl⟩
theorem wm_im_X8_passDay : Cond.instanceMethod yX8_passDay ∈ wL := List.mem_filter.mpr ⟨wL_t5 _ (List.mem_of_getElem? (i := 84) rfl), rfl⟩
theorem wm_se_X8_passDay : Cond.selects RX8 yX8_passDay yX8_passDay ∈ wL := List.mem_filter.mpr ⟨wL_p3 (⟨"SwornPoundsModel", "passDay", "()V"⟩, _) (List.mem_of_getElem? (i := 11) rfl), rfl⟩
theorem wm_cd_X8_passDay : Cond.code yX8_passDay cX8_passDay 2 none ∈ wL := List.mem_filter.mpr ⟨wL_t5 _ (List.mem_of_getElem? (i := 85) rfl), rfl⟩
theorem wm_ml_X8_159 : Cond.methodLink RX8 159 yX8_bounded ∈ wL := List.mem_filter.mpr ⟨wL_t5 _ (List.mem_of_getElem? (i := 86) rfl), rfl⟩
theorem wm_st_X8_bounded : Cond.static yX8_bounded ∈ wL := List.mem_filter.mpr ⟨wL_t5 _ (List.mem_of_getElem? (i := 87) rfl), rfl⟩
theorem wm_cd_X8_bounded : Cond.code yX8_bounded cX8_bounded 1 (some .int) ∈ wL := List.mem_filter.mpr ⟨wL_t5 _ (List.mem_of_getElem? (i := 88) rfl), rfl⟩
theorem wm_ml_X8_189 : Cond.methodLink RX8 189 yX8_feast ∈ wL := List.mem_filter.mpr ⟨wL_t5 _ (List.mem_of_getElem? (i := 89) rfl), rfl⟩
theorem wm_im_X8_feast : Cond.instanceMethod yX8_feast ∈ wL := List.mem_filter.mpr ⟨wL_t5 _ (List.mem_of_getElem? (i := 91) rfl), rfl⟩
theorem wm_se_X8_feast : Cond.selects RX8 yX8_feast yX8_feast ∈ wL := List.mem_filter.mpr ⟨wL_p3 (⟨"SwornPoundsModel", "feast", "()V"⟩, _) (List.mem_of_getElem? (i := 12) rfl), rfl⟩
theorem wm_cd_X8_feast : Cond.code yX8_feast cX8_feast 2 none ∈ wL := List.mem_filter.mpr ⟨wL_t5 _ (List.mem_of_getElem? (i := 92) rfl), rfl⟩
theorem wm_ml_X8_222 : Cond.methodLink RX8 222 yX8_putBack ∈ wL := List.mem_filter.mpr ⟨wL_t5 _ (List.mem_of_getElem? (i := 93) rfl), rfl⟩
theorem wm_im_X8_putBack : Cond.instanceMethod yX8_putBack ∈ wL := List.mem_filter.mpr ⟨wL_t5 _ (List.mem_of_getElem? (i := 95) rfl), rfl⟩
theorem wm_se_X8_putBack : Cond.selects RX8 yX8_putBack yX8_putBack ∈ wL := List.mem_filter.mpr ⟨wL_p3 (⟨"SwornPoundsModel", "putBack", "()V"⟩, _) (List.mem_of_getElem? (i := 13) rfl), rfl⟩
theorem wm_cd_X8_putBack : Cond.code yX8_putBack cX8_putBack 2 none ∈ wL := List.mem_filter.mpr ⟨wL_t5 _ (List.mem_of_getElem? (i := 96) rfl), rfl⟩
theorem wm_ml_L_49 : Cond.methodLink RL 49 yX7_behind ∈ wL := List.mem_filter.mpr ⟨wL_t3 _ (List.mem_of_getElem? (i := 26) rfl), rfl⟩
theorem wm_im_X7_behind : Cond.instanceMethod yX7_behind ∈ wL := List.mem_filter.mpr ⟨wL_t3 _ (List.mem_of_getElem? (i := 27) rfl), rfl⟩
theorem wm_se_X7_behind : Cond.selects RX7 yX7_behind yX7_behind ∈ wL := List.mem_filter.mpr ⟨wL_t3 _ (List.mem_of_getElem? (i := 28) rfl), rfl⟩
theorem wm_cd_X7_behind : Cond.code yX7_behind cX7_behind 5 (some .int) ∈ wL := List.mem_filter.mpr ⟨wL_t3 _ (List.mem_of_getElem? (i := 29) rfl), rfl⟩
theorem wm_fl_X7_126 : Cond.fieldLink RX7 126 "SwornPounds$Market" "after" "LSwornPounds$Town;" ∈ wL := List.mem_filter.mpr ⟨wL_t1 _ (List.mem_of_getElem? (i := 117) rfl), rfl⟩
theorem wm_fl_X7_132 : Cond.fieldLink RX7 132 "SwornPounds$Town" "weight" "[I" ∈ wL := List.mem_filter.mpr ⟨wL_t1 _ (List.mem_of_getElem? (i := 39) rfl), rfl⟩
theorem wm_fl_X7_136 : Cond.fieldLink RX7 136 "SwornPounds$Town" "day" "I" ∈ wL := List.mem_filter.mpr ⟨wL_t1 _ (List.mem_of_getElem? (i := 60) rfl), rfl⟩
theorem wm_ml_X7_129 : Cond.methodLink RX7 129 yX4_poundsOf ∈ wL := List.mem_filter.mpr ⟨wL_t3 _ (List.mem_of_getElem? (i := 30) rfl), rfl⟩
theorem wm_im_X4_poundsOf : Cond.instanceMethod yX4_poundsOf ∈ wL := List.mem_filter.mpr ⟨wL_t3 _ (List.mem_of_getElem? (i := 31) rfl), rfl⟩
theorem wm_se_X4_poundsOf : Cond.selects RX4 yX4_poundsOf yX4_poundsOf ∈ wL := List.mem_filter.mpr ⟨wL_t3 _ (List.mem_of_getElem? (i := 32) rfl), rfl⟩
theorem wm_cd_X4_poundsOf : Cond.code yX4_poundsOf cX4_poundsOf 2 (some .int) ∈ wL := List.mem_filter.mpr ⟨wL_t3 _ (List.mem_of_getElem? (i := 33) rfl), rfl⟩
theorem wm_ml_L_53 : Cond.methodLink RL 53 yX8_behind ∈ wL := List.mem_filter.mpr ⟨wL_t5 _ (List.mem_of_getElem? (i := 97) rfl), rfl⟩
theorem wm_im_X8_behind : Cond.instanceMethod yX8_behind ∈ wL := List.mem_filter.mpr ⟨wL_t5 _ (List.mem_of_getElem? (i := 98) rfl), rfl⟩
theorem wm_se_X8_behind : Cond.selects RX8 yX8_behind yX8_behind ∈ wL := List.mem_filter.mpr ⟨wL_t5 _ (List.mem_of_getElem? (i := 99) rfl), rfl⟩
theorem wm_cd_X8_behind : Cond.code yX8_behind cX8_behind 4 (some .int) ∈ wL := List.mem_filter.mpr ⟨wL_t5 _ (List.mem_of_getElem? (i := 100) rfl), rfl⟩
theorem wm_cl_X8_230 : Cond.constantLong RX8 230 (2) ∈ wL := List.mem_filter.mpr ⟨wL_t5 _ (List.mem_of_getElem? (i := 101) rfl), rfl⟩
theorem wm_ml_L_54 : Cond.methodLink RL 54 yX7_done ∈ wL := List.mem_filter.mpr ⟨wL_t3 _ (List.mem_of_getElem? (i := 34) rfl), rfl⟩
theorem wm_im_X7_done : Cond.instanceMethod yX7_done ∈ wL := List.mem_filter.mpr ⟨wL_t3 _ (List.mem_of_getElem? (i := 35) rfl), rfl⟩
theorem wm_se_X7_done : Cond.selects RX7 yX7_done yX7_done ∈ wL := List.mem_filter.mpr ⟨wL_t3 _ (List.mem_of_getElem? (i := 36) rfl), rfl⟩
theorem wm_cd_X7_done : Cond.code yX7_done cX7_done 2 (some .int) ∈ wL := List.mem_filter.mpr ⟨wL_t3 _ (List.mem_of_getElem? (i := 37) rfl), rfl⟩
theorem wm_fl_X7_143 : Cond.fieldLink RX7 143 "SwornPounds$Market" "acts" "I" ∈ wL := List.mem_filter.mpr ⟨wL_t1 _ (List.mem_of_getElem? (i := 119) rfl), rfl⟩
theorem wm_ml_X7_139 : Cond.methodLink RX7 139 yX4_copyFrom ∈ wL := List.mem_filter.mpr ⟨wL_t3 _ (List.mem_of_getElem? (i := 38) rfl), rfl⟩
theorem wm_ml_L_57 : Cond.methodLink RL 57 yX8_done ∈ wL := List.mem_filter.mpr ⟨wL_t5 _ (List.mem_of_getElem? (i := 102) rfl), rfl⟩
theorem wm_im_X8_done : Cond.instanceMethod yX8_done ∈ wL := List.mem_filter.mpr ⟨wL_t5 _ (List.mem_of_getElem? (i := 103) rfl), rfl⟩
theorem wm_se_X8_done : Cond.selects RX8 yX8_done yX8_done ∈ wL := List.mem_filter.mpr ⟨wL_t5 _ (List.mem_of_getElem? (i := 104) rfl), rfl⟩
theorem wm_cd_X8_done : Cond.code yX8_done cX8_done 2 (some .int) ∈ wL := List.mem_filter.mpr ⟨wL_t5 _ (List.mem_of_getElem? (i := 105) rfl), rfl⟩
theorem wm_ml_L_58 : Cond.methodLink RL 58 yX7_weighs ∈ wL := List.mem_filter.mpr ⟨wL_t3 _ (List.mem_of_getElem? (i := 39) rfl), rfl⟩
theorem wm_im_X7_weighs : Cond.instanceMethod yX7_weighs ∈ wL := List.mem_filter.mpr ⟨wL_t3 _ (List.mem_of_getElem? (i := 40) rfl), rfl⟩
theorem wm_se_X7_weighs : Cond.selects RX7 yX7_weighs yX7_weighs ∈ wL := List.mem_filter.mpr ⟨wL_t3 _ (List.mem_of_getElem? (i := 41) rfl), rfl⟩
theorem wm_cd_X7_weighs : Cond.code yX7_weighs cX7_weighs 2 (some .int) ∈ wL := List.mem_filter.mpr ⟨wL_t3 _ (List.mem_of_getElem? (i := 42) rfl), rfl⟩
theorem wm_ml_L_61 : Cond.methodLink RL 61 yX8_weighs ∈ wL := List.mem_filter.mpr ⟨wL_t5 _ (List.mem_of_getElem? (i := 106) rfl), rfl⟩
theorem wm_im_X8_weighs : Cond.instanceMethod yX8_weighs ∈ wL := List.mem_filter.mpr ⟨wL_t5 _ (List.mem_of_getElem? (i := 107) rfl), rfl⟩
theorem wm_se_X8_weighs : Cond.selects RX8 yX8_weighs yX8_weighs ∈ wL := List.mem_filter.mpr ⟨wL_t5 _ (List.mem_of_getElem? (i := 108) rfl), rfl⟩
theorem wm_cd_X8_weighs : Cond.code yX8_weighs cX8_weighs 2 (some .int) ∈ wL := List.mem_filter.mpr ⟨wL_t5 _ (List.mem_of_getElem? (i := 109) rfl), rfl⟩
theorem wm_ml_L_62 : Cond.methodLink RL 62 yX7_off ∈ wL := List.mem_filter.mpr ⟨wL_t3 _ (List.mem_of_getElem? (i := 43) rfl), rfl⟩
theorem wm_im_X7_off : Cond.instanceMethod yX7_off ∈ wL := List.mem_filter.mpr ⟨wL_t3 _ (List.mem_of_getElem? (i := 44) rfl), rfl⟩
theorem wm_se_X7_off : Cond.selects RX7 yX7_off yX7_off ∈ wL := List.mem_filter.mpr ⟨wL_t3 _ (List.mem_of_getElem? (i := 45) rfl), rfl⟩
theorem wm_cd_X7_off : Cond.code yX7_off cX7_off 2 (some .int) ∈ wL := List.mem_filter.mpr ⟨wL_t3 _ (List.mem_of_getElem? (i := 46) rfl), rfl⟩
theorem wm_fl_X7_146 : Cond.fieldLink RX7 146 "SwornPounds$Town" "sworn" "[I" ∈ wL := List.mem_filter.mpr ⟨wL_t1 _ (List.mem_of_getElem? (i := 36) rfl), rfl⟩
theorem wm_ml_L_65 : Cond.methodLink RL 65 yX8_off ∈ wL := List.mem_filter.mpr ⟨wL_t5 _ (List.mem_of_getElem? (i := 110) rfl), rfl⟩
theorem wm_im_X8_off : Cond.instanceMethod yX8_off ∈ wL := List.mem_filter.mpr ⟨wL_t5 _ (List.mem_of_getElem? (i := 111) rfl), rfl⟩
theorem wm_se_X8_off : Cond.selects RX8 yX8_off yX8_off ∈ wL := List.mem_filter.mpr ⟨wL_t5 _ (List.mem_of_getElem? (i := 112) rfl), rfl⟩
theorem wm_cd_X8_off : Cond.code yX8_off cX8_off 2 (some .int) ∈ wL := List.mem_filter.mpr ⟨wL_t5 _ (List.mem_of_getElem? (i := 113) rfl), rfl⟩
theorem wm_ml_L_66 : Cond.methodLink RL 66 yX7_out ∈ wL := List.mem_filter.mpr ⟨wL_t3 _ (List.mem_of_getElem? (i := 47) rfl), rfl⟩
theorem wm_im_X7_out : Cond.instanceMethod yX7_out ∈ wL := List.mem_filter.mpr ⟨wL_t3 _ (List.mem_of_getElem? (i := 48) rfl), rfl⟩
theorem wm_se_X7_out : Cond.selects RX7 yX7_out yX7_out ∈ wL := List.mem_filter.mpr ⟨wL_t3 _ (List.mem_of_getElem? (i := 49) rfl), rfl⟩
theorem wm_cd_X7_out : Cond.code yX7_out cX7_out 2 (some .int) ∈ wL := List.mem_filter.mpr ⟨wL_t3 _ (List.mem_of_getElem? (i := 50) rfl), rfl⟩
theorem wm_ml_X7_149 : Cond.methodLink RX7 149 yX4_firstDayOff ∈ wL := List.mem_filter.mpr ⟨wL_t3 _ (List.mem_of_getElem? (i := 51) rfl), rfl⟩
theorem wm_im_X4_firstDayOff : Cond.instanceMethod yX4_firstDayOff ∈ wL := List.mem_filter.mpr ⟨wL_t3 _ (List.mem_of_getElem? (i := 52) rfl), rfl⟩
theorem wm_se_X4_firstDayOff : Cond.selects RX4 yX4_firstDayOff yX4_firstDayOff ∈ wL := List.mem_filter.mpr ⟨wL_t3 _ (List.mem_of_getElem? (i := 53) rfl), rfl⟩
theorem wm_cd_X4_firstDayOff : Cond.code yX4_firstDayOff cX4_firstDayOff 4 (some .int) ∈ wL := List.mem_filter.mpr ⟨wL_t3 _ (List.mem_of_getElem? (i := 54) rfl), rfl⟩
theorem wm_ml_X4_97 : Cond.methodLink RX4 97 Lib.Math.abs.name ∈ wL := List.mem_filter.mpr ⟨wL_t3 _ (List.mem_of_getElem? (i := 55) rfl), rfl⟩
theorem wm_ml_L_69 : Cond.methodLink RL 69 yX8_out ∈ wL := List.mem_filter.mpr ⟨wL_t5 _ (List.mem_of_getElem? (i := 114) rfl), rfl⟩
theorem wm_im_X8_out : Cond.instanceMethod yX8_out ∈ wL := List.mem_filter.mpr ⟨wL_t5 _ (List.mem_of_getElem? (i := 115) rfl), rfl⟩
theorem wm_se_X8_out : Cond.selects RX8 yX8_out yX8_out ∈ wL := List.mem_filter.mpr ⟨wL_t5 _ (List.mem_of_getElem? (i := 116) rfl), rfl⟩
theorem wm_cd_X8_out : Cond.code yX8_out cX8_out 4 (some .int) ∈ wL := List.mem_filter.mpr ⟨wL_t5 _ (List.mem_of_getElem? (i := 117) rfl), rfl⟩
theorem wm_ml_L_70 : Cond.methodLink RL 70 yX7_even ∈ wL := List.mem_filter.mpr ⟨wL_t3 _ (List.mem_of_getElem? (i := 56) rfl), rfl⟩
theorem wm_im_X7_even : Cond.instanceMethod yX7_even ∈ wL := List.mem_filter.mpr ⟨wL_t3 _ (List.mem_of_getElem? (i := 57) rfl), rfl⟩
theorem wm_se_X7_even : Cond.selects RX7 yX7_even yX7_even ∈ wL := List.mem_filter.mpr ⟨wL_t3 _ (List.mem_of_getElem? (i := 58) rfl), rfl⟩
theorem wm_cd_X7_even : Cond.code yX7_even cX7_even 3 (some .int) ∈ wL := List.mem_filter.mpr ⟨wL_t3 _ (List.mem_of_getElem? (i := 59) rfl), rfl⟩
theorem wm_ml_X7_152 : Cond.methodLink RX7 152 yX4_firstDayAlike ∈ wL := List.mem_filter.mpr ⟨wL_t3 _ (List.mem_of_getElem? (i := 60) rfl), rfl⟩
theorem wm_im_X4_firstDayAlike : Cond.instanceMethod yX4_firstDayAlike ∈ wL := List.mem_filter.mpr ⟨wL_t3 _ (List.mem_of_getElem? (i := 61) rfl), rfl⟩
theorem wm_se_X4_firstDayAlike : Cond.selects RX4 yX4_firstDayAlike yX4_firstDayAlike ∈ wL := List.mem_filter.mpr ⟨wL_t3 _ (List.mem_of_getElem? (i := 62) rfl), rfl⟩
theorem wm_cd_X4_firstDayAlike : Cond.code yX4_firstDayAlike cX4_firstDayAlike 6 (some .int) ∈ wL := List.mem_filter.mpr ⟨wL_t3 _ (List.mem_of_getElem? (i := 63) rfl), rfl⟩
theorem wm_ml_L_73 : Cond.methodLink RL 73 yX8_even ∈ wL := List.mem_filter.mpr ⟨wL_t5 _ (List.mem_of_getElem? (i := 118) rfl), rfl⟩
theorem wm_im_X8_even : Cond.instanceMethod yX8_even ∈ wL := List.mem_filter.mpr ⟨wL_t5 _ (List.mem_of_getElem? (i := 119) rfl), rfl⟩
theorem wm_se_X8_even : Cond.selects RX8 yX8_even yX8_even ∈ wL := List.mem_filter.mpr ⟨wL_t5 _ (List.mem_of_getElem? (i := 120) rfl), rfl⟩
theorem wm_cd_X8_even : Cond.code yX8_even cX8_even 5 (some .int) ∈ wL := List.mem_filter.mpr ⟨wL_t5 _ (List.mem_of_getElem? (i := 121) rfl), rfl⟩
theorem wm_ml_L_74 : Cond.methodLink RL 74 yX7_make ∈ wL := List.mem_filter.mpr ⟨wL_t3 _ (List.mem_of_getElem? (i := 64) rfl), rfl⟩
theorem wm_im_X7_make : Cond.instanceMethod yX7_make ∈ wL := List.mem_filter.mpr ⟨wL_t3 _ (List.mem_of_getElem? (i := 65) rfl), rfl⟩
theorem wm_se_X7_make : Cond.selects RX7 yX7_make yX7_make ∈ wL := List.mem_filter.mpr ⟨wL_t3 _ (List.mem_of_getElem? (i := 66) rfl), rfl⟩
theorem wm_cd_X7_make : Cond.code yX7_make cX7_make 4 (some .int) ∈ wL := List.mem_filter.mpr ⟨wL_t3 _ (List.mem_of_getElem? (i := 67) rfl), rfl⟩
theorem wm_fl_X7_160 : Cond.fieldLink RX7 160 "SwornPounds$Pans" "fewest" "I" ∈ wL := List.mem_filter.mpr ⟨wL_t1 _ (List.mem_of_getElem? (i := 170) rfl), rfl⟩
theorem wm_fl_X7_163 : Cond.fieldLink RX7 163 "SwornPounds$Pans" "bestFirst" "I" ∈ wL := List.mem_filter.mpr ⟨wL_t1 _ (List.mem_of_getElem? (i := 172) rfl), rfl⟩
theorem wm_fl_X7_166 : Cond.fieldLink RX7 166 "SwornPounds$Pans" "bestSecond" "I" ∈ wL := List.mem_filter.mpr ⟨wL_t1 _ (List.mem_of_getElem? (i := 174) rfl), rfl⟩
theorem wm_ml_X7_156 : Cond.methodLink RX7 156 yX3_seatAll ∈ wL := List.mem_filter.mpr ⟨wL_t3 _ (List.mem_of_getElem? (i := 68) rfl), rfl⟩
theorem wm_im_X3_seatAll : Cond.instanceMethod yX3_seatAll ∈ wL := List.mem_filter.mpr ⟨wL_t3 _ (List.mem_of_getElem? (i := 69) rfl), rfl⟩
theorem wm_se_X3_seatAll : Cond.selects RX3 yX3_seatAll yX3_seatAll ∈ wL := List.mem_filter.mpr ⟨wL_t3 _ (List.mem_of_getElem? (i := 70) rfl), rfl⟩
theorem wm_cd_X3_seatAll : Cond.code yX3_seatAll cX3_seatAll 8 none ∈ wL := List.mem_filter.mpr ⟨wL_t3 _ (List.mem_of_getElem? (i := 71) rfl), rfl⟩
theorem wm_fl_X3_43 : Cond.fieldLink RX3 43 "SwornPounds$Pans" "fewest" "I" ∈ wL := List.mem_filter.mpr ⟨wL_t1 _ (List.mem_of_getElem? (i := 169) rfl), rfl⟩
theorem wm_fl_X3_47 : Cond.fieldLink RX3 47 "SwornPounds$Pans" "bestFirst" "I" ∈ wL := List.mem_filter.mpr ⟨wL_t1 _ (List.mem_of_getElem? (i := 171) rfl), rfl⟩
theorem wm_fl_X3_50 : Cond.fieldLink RX3 50 "SwornPounds$Pans" "bestSecond" "I" ∈ wL := List.mem_filter.mpr ⟨wL_t1 _ (List.mem_of_getElem? (i := 173) rfl), rfl⟩
theorem wm_fl_X3_53 : Cond.fieldLink RX3 53 "SwornPounds$Pans" "nearest" "I" ∈ wL := List.mem_filter.mpr ⟨wL_t1 _ (List.mem_of_getElem? (i := 175) rfl), rfl⟩
theorem wm_fl_X3_62 : Cond.fieldLink RX3 62 "SwornPounds$Town" "there" "I" ∈ wL := List.mem_filter.mpr ⟨wL_t1 _ (List.mem_of_getElem? (i := 51) rfl), rfl⟩
theorem wm_ml_X3_39 : Cond.methodLink RX3 39 yX3_fillRows ∈ wL := List.mem_filter.mpr ⟨wL_t3 _ (List.mem_of_getElem? (i := 72) rfl), rfl⟩
theorem wm_im_X3_fillRows : Cond.instanceMethod yX3_fillRows ∈ wL := List.mem_filter.mpr ⟨wL_t3 _ (List.mem_of_getElem? (i := 74) rfl), rfl⟩
theorem wm_se_X3_fillRows : Cond.selects RX3 yX3_fillRows yX3_fillRows ∈ wL := List.mem_filter.mpr ⟨wL_p1 (⟨"SwornPounds$Pans", "fillRows", "(LSwornPounds$Town;)V"⟩, _) (List.mem_of_getElem? (i := 9) rfl), rfl⟩
theorem wm_cd_X3_fillRows : Cond.code yX3_fillRows cX3_fillRows 9 none ∈ wL := List.mem_filter.mpr ⟨wL_t3 _ (List.mem_of_getElem? (i := 75) rfl), rfl⟩
theorem wm_fl_X3_35 : Cond.fieldLink RX3 35 "SwornPounds$Town" "sworn" "[I" ∈ wL := List.mem_filter.mpr ⟨wL_t1 _ (List.mem_of_getElem? (i := 32) rfl), rfl⟩
theorem wm_ml_X3_25 : Cond.methodLink RX3 25 yX4_has ∈ wL := List.mem_filter.mpr ⟨wL_t3 _ (List.mem_of_getElem? (i := 76) rfl), rfl⟩
theorem wm_ml_X3_31 : Cond.methodLink RX3 31 yX4_poundsOf ∈ wL := List.mem_filter.mpr ⟨wL_t3 _ (List.mem_of_getElem? (i := 77) rfl), rfl⟩
theorem wm_ml_X3_36 : Cond.methodLink RX3 36 yX4_partner ∈ wL := List.mem_filter.mpr ⟨wL_t3 _ (List.mem_of_getElem? (i := 78) rfl), rfl⟩
theorem wm_im_X4_partner : Cond.instanceMethod yX4_partner ∈ wL := List.mem_filter.mpr ⟨wL_t3 _ (List.mem_of_getElem? (i := 79) rfl), rfl⟩
theorem wm_se_X4_partner : Cond.selects RX4 yX4_partner yX4_partner ∈ wL := List.mem_filter.mpr ⟨wL_t3 _ (List.mem_of_getElem? (i := 80) rfl), rfl⟩
theorem wm_cd_X4_partner : Cond.code yX4_partner cX4_partner 2 (some .int) ∈ wL := List.mem_filter.mpr ⟨wL_t3 _ (List.mem_of_getElem? (i := 81) rfl), rfl⟩
theorem wm_ml_X3_56 : Cond.methodLink RX3 56 yJ7_fill_031fb ∈ wL := List.mem_filter.mpr ⟨wL_t3 _ (List.mem_of_getElem? (i := 82) rfl), rfl⟩
theorem wm_st_J7_fill_031fb : Cond.static yJ7_fill_031fb ∈ wL := List.mem_filter.mpr ⟨wL_t3 _ (List.mem_of_getElem? (i := 83) rfl), rfl⟩
theorem wm_cd_J7_fill_031fb : Cond.code yJ7_fill_031fb cJ7_fill_031fb 4 none ∈ wL := List.mem_filter.mpr ⟨wL_t3 _ (List.mem_of_getElem? (i := 84) rfl), rfl⟩
theorem wm_st_X7_subsetsOf : Cond.static yX7_subsetsOf ∈ wL := List.mem_filter.mpr ⟨wL_t3 _ (List.mem_of_getElem? (i := 86) rfl), rfl⟩
theorem wm_cd_X7_subsetsOf : Cond.code yX7_subsetsOf cX7_subsetsOf 1 (some .int) ∈ wL := List.mem_filter.mpr ⟨wL_t3 _ (List.mem_of_getElem? (i := 87) rfl), rfl⟩
theorem wm_ml_X7_277 : Cond.methodLink RX7 277 yJ6_bitCount_0f7a4 ∈ wL := List.mem_filter.mpr ⟨wL_t3 _ (List.mem_of_getElem? (i := 88) rfl), rfl⟩
theorem wm_ml_X3_68 : Cond.methodLink RX3 68 yX3_mayIt ∈ wL := List.mem_filter.mpr ⟨wL_t3 _ (List.mem_of_getElem? (i := 89) rfl), rfl⟩
theorem wm_im_X3_mayIt : Cond.instanceMethod yX3_mayIt ∈ wL := List.mem_filter.mpr ⟨wL_t3 _ (List.mem_of_getElem? (i := 91) rfl), rfl⟩
theorem wm_se_X3_mayIt : Cond.selects RX3 yX3_mayIt yX3_mayIt ∈ wL := List.mem_filter.mpr ⟨wL_p1 (⟨"SwornPounds$Pans", "mayIt", "(I)Z"⟩, _) (List.mem_of_getElem? (i := 10) rfl), rfl⟩
theorem wm_cd_X3_mayIt : Cond.code yX3_mayIt cX3_mayIt 2 (some .boolean) ∈ wL := List.mem_filter.mpr ⟨wL_t3 _ (List.mem_of_getElem? (i := 92) rfl), rfl⟩
theorem wm_ml_X3_71 : Cond.methodLink RX3 71 yX3_seatSecond ∈ wL := List.mem_filter.mpr ⟨wL_t3 _ (List.mem_of_getElem? (i := 93) rfl), rfl⟩
theorem wm_im_X3_seatSecond : Cond.instanceMethod yX3_seatSecond ∈ wL := List.mem_filter.mpr ⟨wL_t3 _ (List.mem_of_getElem? (i := 95) rfl), rfl⟩
theorem wm_se_X3_seatSecond : Cond.selects RX3 yX3_seatSecond yX3_seatSecond ∈ wL := List.mem_filter.mpr ⟨wL_p1 (⟨"SwornPounds$Pans", "seatSecond", "([IIII)V"⟩, _) (List.mem_of_getElem? (i := 11) rfl), rfl⟩
theorem wm_cd_X3_seatSecond : Cond.code yX3_seatSecond cX3_seatSecond 9 none ∈ wL := List.mem_filter.mpr ⟨wL_t3 _ (List.mem_of_getElem? (i := 96) rfl), rfl⟩
theorem wm_ml_X3_79 : Cond.methodLink RX3 79 yX3_note ∈ wL := List.mem_filter.mpr ⟨wL_t3 _ (List.mem_of_getElem? (i := 97) rfl), rfl⟩
theorem wm_im_X3_note : Cond.instanceMethod yX3_note ∈ wL := List.mem_filter.mpr ⟨wL_t3 _ (List.mem_of_getElem? (i := 99) rfl), rfl⟩
theorem wm_se_X3_note : Cond.selects RX3 yX3_note yX3_note ∈ wL := List.mem_filter.mpr ⟨wL_p1 (⟨"SwornPounds$Pans", "note", "(IIII)V"⟩, _) (List.mem_of_getElem? (i := 12) rfl), rfl⟩
theorem wm_cd_X3_note : Cond.code yX3_note cX3_note 5 none ∈ wL := List.mem_filter.mpr ⟨wL_t3 _ (List.mem_of_getElem? (i := 100) rfl), rfl⟩
theorem wm_ml_X3_83 : Cond.methodLink RX3 83 Lib.Math.abs.name ∈ wL := List.mem_filter.mpr ⟨wL_t3 _ (List.mem_of_getElem? (i := 101) rfl), rfl⟩
theorem wm_ml_X3_88 : Cond.methodLink RX3 88 Lib.Math.min.name ∈ wL := List.mem_filter.mpr ⟨wL_t3 _ (List.mem_of_getElem? (i := 102) rfl), rfl⟩
theorem wm_ml_X3_91 : Cond.methodLink RX3 91 yX3_keepFewest ∈ wL := List.mem_filter.mpr ⟨wL_t3 _ (List.mem_of_getElem? (i := 103) rfl), rfl⟩
theorem wm_im_X3_keepFewest : Cond.instanceMethod yX3_keepFewest ∈ wL := List.mem_filter.mpr ⟨wL_t3 _ (List.mem_of_getElem? (i := 105) rfl), rfl⟩
theorem wm_se_X3_keepFewest : Cond.selects RX3 yX3_keepFewest yX3_keepFewest ∈ wL := List.mem_filter.mpr ⟨wL_p1 (⟨"SwornPounds$Pans", "keepFewest", "(II)V"⟩, _) (List.mem_of_getElem? (i := 13) rfl), rfl⟩
theorem wm_cd_X3_keepFewest : Cond.code yX3_keepFewest cX3_keepFewest 4 none ∈ wL := List.mem_filter.mpr ⟨wL_t3 _ (List.mem_of_getElem? (i := 106) rfl), rfl⟩
theorem wm_ml_X3_95 : Cond.methodLink RX3 95 yJ6_bitCount_0f7a4 ∈ wL := List.mem_filter.mpr ⟨wL_t3 _ (List.mem_of_getElem? (i := 107) rfl), rfl⟩
theorem wm_st_X7_nextSubset : Cond.static yX7_nextSubset ∈ wL := List.mem_filter.mpr ⟨wL_t3 _ (List.mem_of_getElem? (i := 109) rfl), rfl⟩
theorem wm_cd_X7_nextSubset : Cond.code yX7_nextSubset cX7_nextSubset 2 (some .int) ∈ wL := List.mem_filter.mpr ⟨wL_t3 _ (List.mem_of_getElem? (i := 110) rfl), rfl⟩
theorem wm_ml_L_78 : Cond.methodLink RL 78 yX8_make ∈ wL := List.mem_filter.mpr ⟨wL_t5 _ (List.mem_of_getElem? (i := 122) rfl), rfl⟩
theorem wm_im_X8_make : Cond.instanceMethod yX8_make ∈ wL := List.mem_filter.mpr ⟨wL_t5 _ (List.mem_of_getElem? (i := 123) rfl), rfl⟩
theorem wm_se_X8_make : Cond.selects RX8 yX8_make yX8_make ∈ wL := List.mem_filter.mpr ⟨wL_t5 _ (List.mem_of_getElem? (i := 124) rfl), rfl⟩
theorem wm_cd_X8_make : Cond.code yX8_make cX8_make 10 (some .int) ∈ wL := List.mem_filter.mpr ⟨wL_t5 _ (List.mem_of_getElem? (i := 125) rfl), rfl⟩
theorem wm_cl_X8_238 : Cond.constantLong RX8 238 (999) ∈ wL := List.mem_filter.mpr ⟨wL_t5 _ (List.mem_of_getElem? (i := 126) rfl), rfl⟩
theorem wm_fl_X8_232 : Cond.fieldLink RX8 232 "SwornPoundsModel" "onFirst" "I" ∈ wL := List.mem_filter.mpr ⟨wL_t4 _ (List.mem_of_getElem? (i := 97) rfl), rfl⟩
theorem wm_fl_X8_235 : Cond.fieldLink RX8 235 "SwornPoundsModel" "onSecond" "I" ∈ wL := List.mem_filter.mpr ⟨wL_t4 _ (List.mem_of_getElem? (i := 98) rfl), rfl⟩
theorem wm_ml_X8_240 : Cond.methodLink RX8 240 yX8_seat ∈ wL := List.mem_filter.mpr ⟨wL_t5 _ (List.mem_of_getElem? (i := 127) rfl), rfl⟩
theorem wm_im_X8_seat : Cond.instanceMethod yX8_seat ∈ wL := List.mem_filter.mpr ⟨wL_t5 _ (List.mem_of_getElem? (i := 129) rfl), rfl⟩
theorem wm_se_X8_seat : Cond.selects RX8 yX8_seat yX8_seat ∈ wL := List.mem_filter.mpr ⟨wL_p3 (⟨"SwornPoundsModel", "seat", "(I)Z"⟩, _) (List.mem_of_getElem? (i := 14) rfl), rfl⟩
theorem wm_cd_X8_seat : Cond.code yX8_seat cX8_seat 4 (some .boolean) ∈ wL := List.mem_filter.mpr ⟨wL_t5 _ (List.mem_of_getElem? (i := 130) rfl), rfl⟩
theorem wm_ml_X8_243 : Cond.methodLink RX8 243 yX8_difference ∈ wL := List.mem_filter.mpr ⟨wL_t5 _ (List.mem_of_getElem? (i := 131) rfl), rfl⟩
theorem wm_im_X8_difference : Cond.instanceMethod yX8_difference ∈ wL := List.mem_filter.mpr ⟨wL_t5 _ (List.mem_of_getElem? (i := 133) rfl), rfl⟩
theorem wm_se_X8_difference : Cond.selects RX8 yX8_difference yX8_difference ∈ wL := List.mem_filter.mpr ⟨wL_p3 (⟨"SwornPoundsModel", "difference", "(Z)I"⟩, _) (List.mem_of_getElem? (i := 15) rfl), rfl⟩
theorem wm_cd_X8_difference : Cond.code yX8_difference cX8_difference 2 (some .int) ∈ wL := List.mem_filter.mpr ⟨wL_t5 _ (List.mem_of_getElem? (i := 134) rfl), rfl⟩
theorem wm_ml_L_79 : Cond.methodLink RL 79 yX7_near ∈ wL := List.mem_filter.mpr ⟨wL_t3 _ (List.mem_of_getElem? (i := 111) rfl), rfl⟩
theorem wm_im_X7_near : Cond.instanceMethod yX7_near ∈ wL := List.mem_filter.mpr ⟨wL_t3 _ (List.mem_of_getElem? (i := 112) rfl), rfl⟩
theorem wm_se_X7_near : Cond.selects RX7 yX7_near yX7_near ∈ wL := List.mem_filter.mpr ⟨wL_t3 _ (List.mem_of_getElem? (i := 113) rfl), rfl⟩
theorem wm_cd_X7_near : Cond.code yX7_near cX7_near 3 (some .int) ∈ wL := List.mem_filter.mpr ⟨wL_t3 _ (List.mem_of_getElem? (i := 114) rfl), rfl⟩
theorem wm_fl_X7_169 : Cond.fieldLink RX7 169 "SwornPounds$Pans" "nearest" "I" ∈ wL := List.mem_filter.mpr ⟨wL_t1 _ (List.mem_of_getElem? (i := 176) rfl), rfl⟩
theorem wm_ml_L_83 : Cond.methodLink RL 83 yX8_near ∈ wL := List.mem_filter.mpr ⟨wL_t5 _ (List.mem_of_getElem? (i := 135) rfl), rfl⟩
theorem wm_im_X8_near : Cond.instanceMethod yX8_near ∈ wL := List.mem_filter.mpr ⟨wL_t5 _ (List.mem_of_getElem? (i := 136) rfl), rfl⟩
theorem wm_se_X8_near : Cond.selects RX8 yX8_near yX8_near ∈ wL := List.mem_filter.mpr ⟨wL_t5 _ (List.mem_of_getElem? (i := 137) rfl), rfl⟩
theorem wm_cd_X8_near : Cond.code yX8_near cX8_near 6 (some .int) ∈ wL := List.mem_filter.mpr ⟨wL_t5 _ (List.mem_of_getElem? (i := 138) rfl), rfl⟩
theorem wm_ml_L_84 : Cond.methodLink RL 84 yX7_gap ∈ wL := List.mem_filter.mpr ⟨wL_t3 _ (List.mem_of_getElem? (i := 115) rfl), rfl⟩
theorem wm_im_X7_gap : Cond.instanceMethod yX7_gap ∈ wL := List.mem_filter.mpr ⟨wL_t3 _ (List.mem_of_getElem? (i := 116) rfl), rfl⟩
theorem wm_se_X7_gap : Cond.selects RX7 yX7_gap yX7_gap ∈ wL := List.mem_filter.mpr ⟨wL_t3 _ (List.mem_of_getElem? (i := 117) rfl), rfl⟩
theorem wm_cd_X7_gap : Cond.code yX7_gap cX7_gap 2 (some .int) ∈ wL := List.mem_filter.mpr ⟨wL_t3 _ (List.mem_of_getElem? (i := 118) rfl), rfl⟩
theorem wm_ml_X7_172 : Cond.methodLink RX7 172 yX3_leastUnmade ∈ wL := List.mem_filter.mpr ⟨wL_t3 _ (List.mem_of_getElem? (i := 119) rfl), rfl⟩
theorem wm_im_X3_leastUnmade : Cond.instanceMethod yX3_leastUnmade ∈ wL := List.mem_filter.mpr ⟨wL_t3 _ (List.mem_of_getElem? (i := 120) rfl), rfl⟩
theorem wm_se_X3_leastUnmade : Cond.selects RX3 yX3_leastUnmade yX3_leastUnmade ∈ wL := List.mem_filter.mpr ⟨wL_t3 _ (List.mem_of_getElem? (i := 121) rfl), rfl⟩
theorem wm_cd_X3_leastUnmade : Cond.code yX3_leastUnmade cX3_leastUnmade 2 (some .int) ∈ wL := List.mem_filter.mpr ⟨wL_t3 _ (List.mem_of_getElem? (i := 122) rfl), rfl⟩
theorem wm_ml_L_88 : Cond.methodLink RL 88 yX8_gap ∈ wL := List.mem_filter.mpr ⟨wL_t5 _ (List.mem_of_getElem? (i := 139) rfl), rfl⟩
theorem wm_im_X8_gap : Cond.instanceMethod yX8_gap ∈ wL := List.mem_filter.mpr ⟨wL_t5 _ (List.mem_of_getElem? (i := 140) rfl), rfl⟩
theorem wm_se_X8_gap : Cond.selects RX8 yX8_gap yX8_gap ∈ wL := List.mem_filter.mpr ⟨wL_t5 _ (List.mem_of_getElem? (i := 141) rfl), rfl⟩
theorem wm_cd_X8_gap : Cond.code yX8_gap cX8_gap 3 (some .int) ∈ wL := List.mem_filter.mpr ⟨wL_t5 _ (List.mem_of_getElem? (i := 142) rfl), rfl⟩
theorem wm_ml_L_89 : Cond.methodLink RL 89 yX7_assize ∈ wL := List.mem_filter.mpr ⟨wL_t3 _ (List.mem_of_getElem? (i := 123) rfl), rfl⟩
theorem wm_im_X7_assize : Cond.instanceMethod yX7_assize ∈ wL := List.mem_filter.mpr ⟨wL_t3 _ (List.mem_of_getElem? (i := 124) rfl), rfl⟩
theorem wm_se_X7_assize : Cond.selects RX7 yX7_assize yX7_assize ∈ wL := List.mem_filter.mpr ⟨wL_t3 _ (List.mem_of_getElem? (i := 125) rfl), rfl⟩
theorem wm_cd_X7_assize : Cond.code yX7_assize cX7_assize 2 (some .int) ∈ wL := List.mem_filter.mpr ⟨wL_t3 _ (List.mem_of_getElem? (i := 126) rfl), rfl⟩
theorem wm_ml_X7_175 : Cond.methodLink RX7 175 yX4_ranked ∈ wL := List.mem_filter.mpr ⟨wL_t3 _ (List.mem_of_getElem? (i := 127) rfl), rfl⟩
theorem wm_im_X4_ranked : Cond.instanceMethod yX4_ranked ∈ wL := List.mem_filter.mpr ⟨wL_t3 _ (List.mem_of_getElem? (i := 128) rfl), rfl⟩
theorem wm_se_X4_ranked : Cond.selects RX4 yX4_ranked yX4_ranked ∈ wL := List.mem_filter.mpr ⟨wL_t3 _ (List.mem_of_getElem? (i := 129) rfl), rfl⟩
theorem wm_cd_X4_ranked : Cond.code yX4_ranked cX4_ranked 3 (some .int) ∈ wL := List.mem_filter.mpr ⟨wL_t3 _ (List.mem_of_getElem? (i := 130) rfl), rfl⟩
theorem wm_ml_X4_100 : Cond.methodLink RX4 100 yX4_howManyAhead ∈ wL := List.mem_filter.mpr ⟨wL_t3 _ (List.mem_of_getElem? (i := 131) rfl), rfl⟩
theorem wm_im_X4_howManyAhead : Cond.instanceMethod yX4_howManyAhead ∈ wL := List.mem_filter.mpr ⟨wL_t3 _ (List.mem_of_getElem? (i := 133) rfl), rfl⟩
theorem wm_se_X4_howManyAhead : Cond.selects RX4 yX4_howManyAhead yX4_howManyAhead ∈ wL := List.mem_filter.mpr ⟨wL_p1 (⟨"SwornPounds$Town", "howManyAhead", "(I)I"⟩, _) (List.mem_of_getElem? (i := 14) rfl), rfl⟩
theorem wm_cd_X4_howManyAhead : Cond.code yX4_howManyAhead cX4_howManyAhead 5 (some .int) ∈ wL := List.mem_filter.mpr ⟨wL_t3 _ (List.mem_of_getElem? (i := 134) rfl), rfl⟩
theorem wm_ml_X4_103 : Cond.methodLink RX4 103 yX4_poundsOf ∈ wL := List.mem_filter.mpr ⟨wL_t3 _ (List.mem_of_getElem? (i := 135) rfl), rfl⟩
theorem wm_ml_L_92 : Cond.methodLink RL 92 yX8_assize ∈ wL := List.mem_filter.mpr ⟨wL_t5 _ (List.mem_of_getElem? (i := 143) rfl), rfl⟩
theorem wm_im_X8_assize : Cond.instanceMethod yX8_assize ∈ wL := List.mem_filter.mpr ⟨wL_t5 _ (List.mem_of_getElem? (i := 144) rfl), rfl⟩
theorem wm_se_X8_assize : Cond.selects RX8 yX8_assize yX8_assize ∈ wL := List.mem_filter.mpr ⟨wL_t5 _ (List.mem_of_getElem? (i := 145) rfl), rfl⟩
theorem wm_cd_X8_assize : Cond.code yX8_assize cX8_assize 5 (some .int) ∈ wL := List.mem_filter.mpr ⟨wL_t5 _ (List.mem_of_getElem? (i := 146) rfl), rfl⟩
theorem wm_ml_L_93 : Cond.methodLink RL 93 yX7_just ∈ wL := List.mem_filter.mpr ⟨wL_t3 _ (List.mem_of_getElem? (i := 136) rfl), rfl⟩
theorem wm_im_X7_just : Cond.instanceMethod yX7_just ∈ wL := List.mem_filter.mpr ⟨wL_t3 _ (List.mem_of_getElem? (i := 137) rfl), rfl⟩
theorem wm_se_X7_just : Cond.selects RX7 yX7_just yX7_just ∈ wL := List.mem_filter.mpr ⟨wL_t3 _ (List.mem_of_getElem? (i := 138) rfl), rfl⟩
theorem wm_cd_X7_just : Cond.code yX7_just cX7_just 1 (some .int) ∈ wL := List.mem_filter.mpr ⟨wL_t3 _ (List.mem_of_getElem? (i := 139) rfl), rfl⟩
theorem wm_ml_X7_178 : Cond.methodLink RX7 178 yX4_mostAlike ∈ wL := List.mem_filter.mpr ⟨wL_t3 _ (List.mem_of_getElem? (i := 140) rfl), rfl⟩
theorem wm_im_X4_mostAlike : Cond.instanceMethod yX4_mostAlike ∈ wL := List.mem_filter.mpr ⟨wL_t3 _ (List.mem_of_getElem? (i := 141) rfl), rfl⟩
theorem wm_se_X4_mostAlike : Cond.selects RX4 yX4_mostAlike yX4_mostAlike ∈ wL := List.mem_filter.mpr ⟨wL_t3 _ (List.mem_of_getElem? (i := 142) rfl), rfl⟩
theorem wm_cd_X4_mostAlike : Cond.code yX4_mostAlike cX4_mostAlike 3 (some .int) ∈ wL := List.mem_filter.mpr ⟨wL_t3 _ (List.mem_of_getElem? (i := 143) rfl), rfl⟩
theorem wm_ml_X4_106 : Cond.methodLink RX4 106 yX4_howManyLike ∈ wL := List.mem_filter.mpr ⟨wL_t3 _ (List.mem_of_getElem? (i := 144) rfl), rfl⟩
theorem wm_im_X4_howManyLike : Cond.instanceMethod yX4_howManyLike ∈ wL := List.mem_filter.mpr ⟨wL_t3 _ (List.mem_of_getElem? (i := 146) rfl), rfl⟩
theorem wm_se_X4_howManyLike : Cond.selects RX4 yX4_howManyLike yX4_howManyLike ∈ wL := List.mem_filter.mpr ⟨wL_p1 (⟨"SwornPounds$Town", "howManyLike", "(I)I"⟩, _) (List.mem_of_getElem? (i := 15) rfl), rfl⟩
theorem wm_cd_X4_howManyLike : Cond.code yX4_howManyLike cX4_howManyLike 4 (some .int) ∈ wL := List.mem_filter.mpr ⟨wL_t3 _ (List.mem_of_getElem? (i := 147) rfl), rfl⟩
theorem wm_ml_L_96 : Cond.methodLink RL 96 yX8_just ∈ wL := List.mem_filter.mpr ⟨wL_t5 _ (List.mem_of_getElem? (i := 147) rfl), rfl⟩
theorem wm_im_X8_just : Cond.instanceMethod yX8_just ∈ wL := List.mem_filter.mpr ⟨wL_t5 _ (List.mem_of_getElem? (i := 148) rfl), rfl⟩
theorem wm_se_X8_just : Cond.selects RX8 yX8_just yX8_just ∈ wL := List.mem_filter.mpr ⟨wL_t5 _ (List.mem_of_getElem? (i := 149) rfl), rfl⟩
theorem wm_cd_X8_just : Cond.code yX8_just cX8_just 5 (some .int) ∈ wL := List.mem_filter.mpr ⟨wL_t5 _ (List.mem_of_getElem? (i := 150) rfl), rfl⟩
theorem wm_ml_L_97 : Cond.methodLink RL 97 yX7_price ∈ wL := List.mem_filter.mpr ⟨wL_t3 _ (List.mem_of_getElem? (i := 148) rfl), rfl⟩
theorem wm_im_X7_price : Cond.instanceMethod yX7_price ∈ wL := List.mem_filter.mpr ⟨wL_t3 _ (List.mem_of_getElem? (i := 149) rfl), rfl⟩
theorem wm_se_X7_price : Cond.selects RX7 yX7_price yX7_price ∈ wL := List.mem_filter.mpr ⟨wL_t3 _ (List.mem_of_getElem? (i := 150) rfl), rfl⟩
theorem wm_cd_X7_price : Cond.code yX7_price cX7_price 4 (some .int) ∈ wL := List.mem_filter.mpr ⟨wL_t3 _ (List.mem_of_getElem? (i := 151) rfl), rfl⟩
theorem wm_fl_X7_191 : Cond.fieldLink RX7 191 "SwornPounds$Pans" "dearest" "I" ∈ wL := List.mem_filter.mpr ⟨wL_t1 _ (List.mem_of_getElem? (i := 178) rfl), rfl⟩
theorem wm_fl_X7_194 : Cond.fieldLink RX7 194 "SwornPounds$Pans" "dearestAcross" "I" ∈ wL := List.mem_filter.mpr ⟨wL_t1 _ (List.mem_of_getElem? (i := 180) rfl), rfl⟩
theorem wm_ml_X7_181 : Cond.methodLink RX7 181 yX4_hasAll ∈ wL := List.mem_filter.mpr ⟨wL_t3 _ (List.mem_of_getElem? (i := 152) rfl), rfl⟩
theorem wm_ml_X7_184 : Cond.methodLink RX7 184 yX4_together ∈ wL := List.mem_filter.mpr ⟨wL_t3 _ (List.mem_of_getElem? (i := 153) rfl), rfl⟩
theorem wm_ml_X7_187 : Cond.methodLink RX7 187 yX3_sellDearest ∈ wL := List.mem_filter.mpr ⟨wL_t3 _ (List.mem_of_getElem? (i := 154) rfl), rfl⟩
theorem wm_im_X3_sellDearest : Cond.instanceMethod yX3_sellDearest ∈ wL := List.mem_filter.mpr ⟨wL_t3 _ (List.mem_of_getElem? (i := 155) rfl), rfl⟩
theorem wm_se_X3_sellDearest : Cond.selects RX3 yX3_sellDearest yX3_sellDearest ∈ wL := List.mem_filter.mpr ⟨wL_t3 _ (List.mem_of_getElem? (i := 156) rfl), rfl⟩
theorem wm_cd_X3_sellDearest : Cond.code yX3_sellDearest cX3_sellDearest 10 none ∈ wL := List.mem_filter.mpr ⟨wL_t3 _ (List.mem_of_getElem? (i := 157) rfl), rfl⟩
theorem wm_fl_X3_100 : Cond.fieldLink RX3 100 "SwornPounds$Pans" "dearest" "I" ∈ wL := List.mem_filter.mpr ⟨wL_t1 _ (List.mem_of_getElem? (i := 177) rfl), rfl⟩
theorem wm_fl_X3_103 : Cond.fieldLink RX3 103 "SwornPounds$Pans" "dearestAcross" "I" ∈ wL := List.mem_filter.mpr ⟨wL_t1 _ (List.mem_of_getElem? (i := 179) rfl), rfl⟩
theorem wm_ml_L_101 : Cond.methodLink RL 101 yX8_price ∈ wL := List.mem_filter.mpr ⟨wL_t5 _ (List.mem_of_getElem? (i := 151) rfl), rfl⟩
theorem wm_im_X8_price : Cond.instanceMethod yX8_price ∈ wL := List.mem_filter.mpr ⟨wL_t5 _ (List.mem_of_getElem? (i := 152) rfl), rfl⟩
theorem wm_se_X8_price : Cond.selects RX8 yX8_price yX8_price ∈ wL := List.mem_filter.mpr ⟨wL_t5 _ (List.mem_of_getElem? (i := 153) rfl), rfl⟩
theorem wm_cd_X8_price : Cond.code yX8_price cX8_price 9 (some .int) ∈ wL := List.mem_filter.mpr ⟨wL_t5 _ (List.mem_of_getElem? (i := 154) rfl), rfl⟩
theorem wm_cl_X8_247 : Cond.constantLong RX8 247 (255) ∈ wL := List.mem_filter.mpr ⟨wL_t5 _ (List.mem_of_getElem? (i := 155) rfl), rfl⟩
theorem wm_ml_L_102 : Cond.methodLink RL 102 yX7_seen ∈ wL := List.mem_filter.mpr ⟨wL_t3 _ (List.mem_of_getElem? (i := 158) rfl), rfl⟩
theorem wm_im_X7_seen : Cond.instanceMethod yX7_seen ∈ wL := List.mem_filter.mpr ⟨wL_t3 _ (List.mem_of_getElem? (i := 159) rfl), rfl⟩
theorem wm_se_X7_seen : Cond.selects RX7 yX7_seen yX7_seen ∈ wL := List.mem_filter.mpr ⟨wL_t3 _ (List.mem_of_getElem? (i := 160) rfl), rfl⟩
theorem wm_cd_X7_seen : Cond.code yX7_seen cX7_seen 4 (some .int) ∈ wL := List.mem_filter.mpr ⟨wL_t3 _ (List.mem_of_getElem? (i := 161) rfl), rfl⟩
theorem wm_fl_X7_203 : Cond.fieldLink RX7 203 "SwornPounds$Town" "sights" "I" ∈ wL := List.mem_filter.mpr ⟨wL_t1 _ (List.mem_of_getElem? (i := 63) rfl), rfl⟩
theorem wm_ml_X7_197 : Cond.methodLink RX7 197 yX4_mayBeWeighed ∈ wL := List.mem_filter.mpr ⟨wL_t3 _ (List.mem_of_getElem? (i := 162) rfl), rfl⟩
theorem wm_im_X4_mayBeWeighed : Cond.instanceMethod yX4_mayBeWeighed ∈ wL := List.mem_filter.mpr ⟨wL_t3 _ (List.mem_of_getElem? (i := 163) rfl), rfl⟩
theorem wm_se_X4_mayBeWeighed : Cond.selects RX4 yX4_mayBeWeighed yX4_mayBeWeighed ∈ wL := List.mem_filter.mpr ⟨wL_t3 _ (List.mem_of_getElem? (i := 164) rfl), rfl⟩
theorem wm_cd_X4_mayBeWeighed : Cond.code yX4_mayBeWeighed cX4_mayBeWeighed 3 (some .boolean) ∈ wL := List.mem_filter.mpr ⟨wL_t3 _ (List.mem_of_getElem? (i := 165) rfl), rfl⟩
theorem wm_ml_X4_109 : Cond.methodLink RX4 109 yX4_hasAll ∈ wL := List.mem_filter.mpr ⟨wL_t3 _ (List.mem_of_getElem? (i := 166) rfl), rfl⟩
theorem wm_ml_X7_200 : Cond.methodLink RX7 200 yX4_addSight ∈ wL := List.mem_filter.mpr ⟨wL_t3 _ (List.mem_of_getElem? (i := 167) rfl), rfl⟩
theorem wm_im_X4_addSight : Cond.instanceMethod yX4_addSight ∈ wL := List.mem_filter.mpr ⟨wL_t3 _ (List.mem_of_getElem? (i := 168) rfl), rfl⟩
theorem wm_se_X4_addSight : Cond.selects RX4 yX4_addSight yX4_addSight ∈ wL := List.mem_filter.mpr ⟨wL_t3 _ (List.mem_of_getElem? (i := 169) rfl), rfl⟩
theorem wm_cd_X4_addSight : Cond.code yX4_addSight cX4_addSight 4 (some .boolean) ∈ wL := List.mem_filter.mpr ⟨wL_t3 _ (List.mem_of_getElem? (i := 170) rfl), rfl⟩
theorem wm_ml_L_105 : Cond.methodLink RL 105 yX8_seen ∈ wL := List.mem_filter.mpr ⟨wL_t5 _ (List.mem_of_getElem? (i := 156) rfl), rfl⟩
theorem wm_im_X8_seen : Cond.instanceMethod yX8_seen ∈ wL := List.mem_filter.mpr ⟨wL_t5 _ (List.mem_of_getElem? (i := 157) rfl), rfl⟩
theorem wm_se_X8_seen : Cond.selects RX8 yX8_seen yX8_seen ∈ wL := List.mem_filter.mpr ⟨wL_t5 _ (List.mem_of_getElem? (i := 158) rfl), rfl⟩
theorem wm_cd_X8_seen : Cond.code yX8_seen cX8_seen 4 (some .int) ∈ wL := List.mem_filter.mpr ⟨wL_t5 _ (List.mem_of_getElem? (i := 159) rfl), rfl⟩
theorem wm_fl_X8_252 : Cond.fieldLink RX8 252 "SwornPoundsModel" "sights" "I" ∈ wL := List.mem_filter.mpr ⟨wL_t4 _ (List.mem_of_getElem? (i := 77) rfl), rfl⟩
theorem wm_ml_X8_249 : Cond.methodLink RX8 249 yX8_areSides ∈ wL := List.mem_filter.mpr ⟨wL_t5 _ (List.mem_of_getElem? (i := 160) rfl), rfl⟩
theorem wm_im_X8_areSides : Cond.instanceMethod yX8_areSides ∈ wL := List.mem_filter.mpr ⟨wL_t5 _ (List.mem_of_getElem? (i := 162) rfl), rfl⟩
theorem wm_se_X8_areSides : Cond.selects RX8 yX8_areSides yX8_areSides ∈ wL := List.mem_filter.mpr ⟨wL_p4 (⟨"SwornPoundsModel", "areSides", "(II)Z"⟩, _) (List.mem_of_getElem? (i := 0) rfl), rfl⟩
theorem wm_cd_X8_areSides : Cond.code yX8_areSides cX8_areSides 3 (some .boolean) ∈ wL := List.mem_filter.mpr ⟨wL_t5 _ (List.mem_of_getElem? (i := 163) rfl), rfl⟩
theorem wm_ml_L_106 : Cond.methodLink RL 106 yX7_forget ∈ wL := List.mem_filter.mpr ⟨wL_t3 _ (List.mem_of_getElem? (i := 171) rfl), rfl⟩
theorem wm_im_X7_forget : Cond.instanceMethod yX7_forget ∈ wL := List.mem_filter.mpr ⟨wL_t3 _ (List.mem_of_getElem? (i := 172) rfl), rfl⟩
theorem wm_se_X7_forget : Cond.selects RX7 yX7_forget yX7_forget ∈ wL := List.mem_filter.mpr ⟨wL_t3 _ (List.mem_of_getElem? (i := 173) rfl), rfl⟩
theorem wm_cd_X7_forget : Cond.code yX7_forget cX7_forget 2 (some .int) ∈ wL := List.mem_filter.mpr ⟨wL_t3 _ (List.mem_of_getElem? (i := 174) rfl), rfl⟩
theorem wm_ml_L_109 : Cond.methodLink RL 109 yX8_forget ∈ wL := List.mem_filter.mpr ⟨wL_t5 _ (List.mem_of_getElem? (i := 164) rfl), rfl⟩
theorem wm_im_X8_forget : Cond.instanceMethod yX8_forget ∈ wL := List.mem_filter.mpr ⟨wL_t5 _ (List.mem_of_getElem? (i := 165) rfl), rfl⟩
theorem wm_se_X8_forget : Cond.selects RX8 yX8_forget yX8_forget ∈ wL := List.mem_filter.mpr ⟨wL_t5 _ (List.mem_of_getElem? (i := 166) rfl), rfl⟩
theorem wm_cd_X8_forget : Cond.code yX8_forget cX8_forget 2 (some .int) ∈ wL := List.mem_filter.mpr ⟨wL_t5 _ (List.mem_of_getElem? (i := 167) rfl), rfl⟩
theorem wm_ml_L_110 : Cond.methodLink RL 110 yX7_airs ∈ wL := List.mem_filter.mpr ⟨wL_t3 _ (List.mem_of_getElem? (i := 175) rfl), rfl⟩
theorem wm_im_X7_airs : Cond.instanceMethod yX7_airs ∈ wL := List.mem_filter.mpr ⟨wL_t3 _ (List.mem_of_getElem? (i := 176) rfl), rfl⟩
theorem wm_se_X7_airs : Cond.selects RX7 yX7_airs yX7_airs ∈ wL := List.mem_filter.mpr ⟨wL_t3 _ (List.mem_of_getElem? (i := 177) rfl), rfl⟩
theorem wm_cd_X7_airs : Cond.code yX7_airs cX7_airs 2 (some .int) ∈ wL := List.mem_filter.mpr ⟨wL_t3 _ (List.mem_of_getElem? (i := 178) rfl), rfl⟩
theorem wm_fl_X7_209 : Cond.fieldLink RX7 209 "SwornPounds$Worlds" "count" "I" ∈ wL := List.mem_filter.mpr ⟨wL_t1 _ (List.mem_of_getElem? (i := 214) rfl), rfl⟩
theorem wm_ml_X7_206 : Cond.methodLink RX7 206 yX5_find ∈ wL := List.mem_filter.mpr ⟨wL_t3 _ (List.mem_of_getElem? (i := 179) rfl), rfl⟩
theorem wm_im_X5_find : Cond.instanceMethod yX5_find ∈ wL := List.mem_filter.mpr ⟨wL_t3 _ (List.mem_of_getElem? (i := 180) rfl), rfl⟩
theorem wm_se_X5_find : Cond.selects RX5 yX5_find yX5_find ∈ wL := List.mem_filter.mpr ⟨wL_t3 _ (List.mem_of_getElem? (i := 181) rfl), rfl⟩
theorem wm_cd_X5_find : Cond.code yX5_find cX5_find 3 none ∈ wL := List.mem_filter.mpr ⟨wL_t3 _ (List.mem_of_getElem? (i := 182) rfl), rfl⟩
theorem wm_fl_X5_24 : Cond.fieldLink RX5 24 "SwornPounds$Worlds" "count" "I" ∈ wL := List.mem_filter.mpr ⟨wL_t1 _ (List.mem_of_getElem? (i := 213) rfl), rfl⟩
theorem wm_ml_X5_28 : Cond.methodLink RX5 28 yX5_fillLeads ∈ wL := List.mem_filter.mpr ⟨wL_t3 _ (List.mem_of_getElem? (i := 183) rfl), rfl⟩
theorem wm_im_X5_fillLeads : Cond.instanceMethod yX5_fillLeads ∈ wL := List.mem_filter.mpr ⟨wL_t3 _ (List.mem_of_getElem? (i := 185) rfl), rfl⟩
theorem wm_se_X5_fillLeads : Cond.selects RX5 yX5_fillLeads yX5_fillLeads ∈ wL := List.mem_filter.mpr ⟨wL_p2 (⟨"SwornPounds$Worlds", "fillLeads", "(LSwornPounds$Town;)V"⟩, _) (List.mem_of_getElem? (i := 0) rfl), rfl⟩
theorem wm_cd_X5_fillLeads : Cond.code yX5_fillLeads cX5_fillLeads 3 none ∈ wL := List.mem_filter.mpr ⟨wL_t3 _ (List.mem_of_getElem? (i := 186) rfl), rfl⟩
theorem wm_fl_X5_53 : Cond.fieldLink RX5 53 "SwornPounds$Town" "sights" "I" ∈ wL := List.mem_filter.mpr ⟨wL_t1 _ (List.mem_of_getElem? (i := 62) rfl), rfl⟩
theorem wm_fl_X5_56 : Cond.fieldLink RX5 56 "SwornPounds$Town" "sightFirst" "[I" ∈ wL := List.mem_filter.mpr ⟨wL_t1 _ (List.mem_of_getElem? (i := 45) rfl), rfl⟩
theorem wm_fl_X5_46 : Cond.fieldLink RX5 46 "SwornPounds$Town" "sworn" "[I" ∈ wL := List.mem_filter.mpr ⟨wL_t1 _ (List.mem_of_getElem? (i := 33) rfl), rfl⟩
theorem wm_fl_X5_63 : Cond.fieldLink RX5 63 "SwornPounds$Town" "sightSecond" "[I" ∈ wL := List.mem_filter.mpr ⟨wL_t1 _ (List.mem_of_getElem? (i := 47) rfl), rfl⟩
theorem wm_ml_X5_59 : Cond.methodLink RX5 59 yX4_sumOver ∈ wL := List.mem_filter.mpr ⟨wL_t3 _ (List.mem_of_getElem? (i := 187) rfl), rfl⟩
theorem wm_ml_X5_32 : Cond.methodLink RX5 32 yX5_addIfSeen ∈ wL := List.mem_filter.mpr ⟨wL_t3 _ (List.mem_of_getElem? (i := 188) rfl), rfl⟩
theorem wm_im_X5_addIfSeen : Cond.instanceMethod yX5_addIfSeen ∈ wL := List.mem_filter.mpr ⟨wL_t3 _ (List.mem_of_getElem? (i := 190) rfl), rfl⟩
theorem wm_se_X5_addIfSeen : Cond.selects RX5 yX5_addIfSeen yX5_addIfSeen ∈ wL := List.mem_filter.mpr ⟨wL_p2 (⟨"SwornPounds$Worlds", "addIfSeen", "(LSwornPounds$Town;II)V"⟩, _) (List.mem_of_getElem? (i := 1) rfl), rfl⟩
theorem wm_cd_X5_addIfSeen : Cond.code yX5_addIfSeen cX5_addIfSeen 4 none ∈ wL := List.mem_filter.mpr ⟨wL_t3 _ (List.mem_of_getElem? (i := 191) rfl), rfl⟩
theorem wm_ml_X5_49 : Cond.methodLink RX5 49 yX5_isAsSeen ∈ wL := List.mem_filter.mpr ⟨wL_t3 _ (List.mem_of_getElem? (i := 192) rfl), rfl⟩
theorem wm_im_X5_isAsSeen : Cond.instanceMethod yX5_isAsSeen ∈ wL := List.mem_filter.mpr ⟨wL_t3 _ (List.mem_of_getElem? (i := 194) rfl), rfl⟩
theorem wm_se_X5_isAsSeen : Cond.selects RX5 yX5_isAsSeen yX5_isAsSeen ∈ wL := List.mem_filter.mpr ⟨wL_p2 (⟨"SwornPounds$Worlds", "isAsSeen", "(LSwornPounds$Town;II)Z"⟩, _) (List.mem_of_getElem? (i := 2) rfl), rfl⟩
theorem wm_cd_X5_isAsSeen : Cond.code yX5_isAsSeen cX5_isAsSeen 6 (some .boolean) ∈ wL := List.mem_filter.mpr ⟨wL_t3 _ (List.mem_of_getElem? (i := 195) rfl), rfl⟩
theorem wm_fl_X5_74 : Cond.fieldLink RX5 74 "SwornPounds$Town" "sightHow" "[I" ∈ wL := List.mem_filter.mpr ⟨wL_t1 _ (List.mem_of_getElem? (i := 49) rfl), rfl⟩
theorem wm_st_X7_balance : Cond.static yX7_balance ∈ wL := List.mem_filter.mpr ⟨wL_t3 _ (List.mem_of_getElem? (i := 198) rfl), rfl⟩
theorem wm_cd_X7_balance : Cond.code yX7_balance cX7_balance 2 (some .int) ∈ wL := List.mem_filter.mpr ⟨wL_t3 _ (List.mem_of_getElem? (i := 199) rfl), rfl⟩
theorem wm_ml_X5_36 : Cond.methodLink RX5 36 yX4_has ∈ wL := List.mem_filter.mpr ⟨wL_t3 _ (List.mem_of_getElem? (i := 200) rfl), rfl⟩
theorem wm_ml_X5_42 : Cond.methodLink RX5 42 yX5_findOf ∈ wL := List.mem_filter.mpr ⟨wL_t3 _ (List.mem_of_getElem? (i := 201) rfl), rfl⟩
theorem wm_im_X5_findOf : Cond.instanceMethod yX5_findOf ∈ wL := List.mem_filter.mpr ⟨wL_t3 _ (List.mem_of_getElem? (i := 203) rfl), rfl⟩
theorem wm_se_X5_findOf : Cond.selects RX5 yX5_findOf yX5_findOf ∈ wL := List.mem_filter.mpr ⟨wL_p2 (⟨"SwornPounds$Worlds", "findOf", "(LSwornPounds$Town;I)V"⟩, _) (List.mem_of_getElem? (i := 3) rfl), rfl⟩
theorem wm_cd_X5_findOf : Cond.code yX5_findOf cX5_findOf 4 none ∈ wL := List.mem_filter.mpr ⟨wL_t3 _ (List.mem_of_getElem? (i := 204) rfl), rfl⟩
theorem wm_ml_X7_210 : Cond.methodLink RX7 210 yX5_suspects ∈ wL := List.mem_filter.mpr ⟨wL_t3 _ (List.mem_of_getElem? (i := 205) rfl), rfl⟩
theorem wm_im_X5_suspects : Cond.instanceMethod yX5_suspects ∈ wL := List.mem_filter.mpr ⟨wL_t3 _ (List.mem_of_getElem? (i := 206) rfl), rfl⟩
theorem wm_se_X5_suspects : Cond.selects RX5 yX5_suspects yX5_suspects ∈ wL := List.mem_filter.mpr ⟨wL_t3 _ (List.mem_of_getElem? (i := 207) rfl), rfl⟩
theorem wm_cd_X5_suspects : Cond.code yX5_suspects cX5_suspects 3 (some .int) ∈ wL := List.mem_filter.mpr ⟨wL_t3 _ (List.mem_of_getElem? (i := 208) rfl), rfl⟩
theorem wm_ml_L_113 : Cond.methodLink RL 113 yX8_airs ∈ wL := List.mem_filter.mpr ⟨wL_t5 _ (List.mem_of_getElem? (i := 168) rfl), rfl⟩
theorem wm_im_X8_airs : Cond.instanceMethod yX8_airs ∈ wL := List.mem_filter.mpr ⟨wL_t5 _ (List.mem_of_getElem? (i := 169) rfl), rfl⟩
theorem wm_se_X8_airs : Cond.selects RX8 yX8_airs yX8_airs ∈ wL := List.mem_filter.mpr ⟨wL_t5 _ (List.mem_of_getElem? (i := 170) rfl), rfl⟩
theorem wm_cd_X8_airs : Cond.code yX8_airs cX8_airs 4 (some .int) ∈ wL := List.mem_filter.mpr ⟨wL_t5 _ (List.mem_of_getElem? (i := 171) rfl), rfl⟩
theorem wm_fl_X8_263 : Cond.fieldLink RX8 263 "SwornPoundsModel" "worlds" "I" ∈ wL := List.mem_filter.mpr ⟨wL_t4 _ (List.mem_of_getElem? (i := 102) rfl), rfl⟩
theorem wm_ml_X8_273 : Cond.methodLink RX8 273 yX8_findWorlds ∈ wL := List.mem_filter.mpr ⟨wL_t5 _ (List.mem_of_getElem? (i := 172) rfl), rfl⟩
theorem wm_im_X8_findWorlds : Cond.instanceMethod yX8_findWorlds ∈ wL := List.mem_filter.mpr ⟨wL_t5 _ (List.mem_of_getElem? (i := 174) rfl), rfl⟩
theorem wm_se_X8_findWorlds : Cond.selects RX8 yX8_findWorlds yX8_findWorlds ∈ wL := List.mem_filter.mpr ⟨wL_p4 (⟨"SwornPoundsModel", "findWorlds", "()V"⟩, _) (List.mem_of_getElem? (i := 1) rfl), rfl⟩
theorem wm_cd_X8_findWorlds : Cond.code yX8_findWorlds cX8_findWorlds 3 none ∈ wL := List.mem_filter.mpr ⟨wL_t5 _ (List.mem_of_getElem? (i := 175) rfl), rfl⟩
theorem wm_ml_X8_266 : Cond.methodLink RX8 266 yX8_isWorld ∈ wL := List.mem_filter.mpr ⟨wL_t5 _ (List.mem_of_getElem? (i := 176) rfl), rfl⟩
theorem wm_im_X8_isWorld : Cond.instanceMethod yX8_isWorld ∈ wL := List.mem_filter.mpr ⟨wL_t5 _ (List.mem_of_getElem? (i := 178) rfl), rfl⟩
theorem wm_se_X8_isWorld : Cond.selects RX8 yX8_isWorld yX8_isWorld ∈ wL := List.mem_filter.mpr ⟨wL_p4 (⟨"SwornPoundsModel", "isWorld", "(II)Z"⟩, _) (List.mem_of_getElem? (i := 2) rfl), rfl⟩
theorem wm_cd_X8_isWorld : Cond.code yX8_isWorld cX8_isWorld 5 (some .boolean) ∈ wL := List.mem_filter.mpr ⟨wL_t5 _ (List.mem_of_getElem? (i := 179) rfl), rfl⟩
theorem wm_ml_X8_259 : Cond.methodLink RX8 259 yX8_howAcross ∈ wL := List.mem_filter.mpr ⟨wL_t5 _ (List.mem_of_getElem? (i := 180) rfl), rfl⟩
theorem wm_im_X8_howAcross : Cond.instanceMethod yX8_howAcross ∈ wL := List.mem_filter.mpr ⟨wL_t5 _ (List.mem_of_getElem? (i := 182) rfl), rfl⟩
theorem wm_se_X8_howAcross : Cond.selects RX8 yX8_howAcross yX8_howAcross ∈ wL := List.mem_filter.mpr ⟨wL_p4 (⟨"SwornPoundsModel", "howAcross", "(IIII)I"⟩, _) (List.mem_of_getElem? (i := 3) rfl), rfl⟩
theorem wm_cd_X8_howAcross : Cond.code yX8_howAcross cX8_howAcross 6 (some .int) ∈ wL := List.mem_filter.mpr ⟨wL_t5 _ (List.mem_of_getElem? (i := 183) rfl), rfl⟩
theorem wm_ml_X8_255 : Cond.methodLink RX8 255 yX8_airyOf ∈ wL := List.mem_filter.mpr ⟨wL_t5 _ (List.mem_of_getElem? (i := 184) rfl), rfl⟩
theorem wm_im_X8_airyOf : Cond.instanceMethod yX8_airyOf ∈ wL := List.mem_filter.mpr ⟨wL_t5 _ (List.mem_of_getElem? (i := 186) rfl), rfl⟩
theorem wm_se_X8_airyOf : Cond.selects RX8 yX8_airyOf yX8_airyOf ∈ wL := List.mem_filter.mpr ⟨wL_p4 (⟨"SwornPoundsModel", "airyOf", "(III)I"⟩, _) (List.mem_of_getElem? (i := 4) rfl), rfl⟩
theorem wm_cd_X8_airyOf : Cond.code yX8_airyOf cX8_airyOf 7 (some .int) ∈ wL := List.mem_filter.mpr ⟨wL_t5 _ (List.mem_of_getElem? (i := 187) rfl), rfl⟩
theorem wm_ml_X8_269 : Cond.methodLink RX8 269 yX8_addWorld ∈ wL := List.mem_filter.mpr ⟨wL_t5 _ (List.mem_of_getElem? (i := 188) rfl), rfl⟩
theorem wm_im_X8_addWorld : Cond.instanceMethod yX8_addWorld ∈ wL := List.mem_filter.mpr ⟨wL_t5 _ (List.mem_of_getElem? (i := 190) rfl), rfl⟩
theorem wm_se_X8_addWorld : Cond.selects RX8 yX8_addWorld yX8_addWorld ∈ wL := List.mem_filter.mpr ⟨wL_p4 (⟨"SwornPoundsModel", "addWorld", "(II)V"⟩, _) (List.mem_of_getElem? (i := 5) rfl), rfl⟩
theorem wm_cd_X8_addWorld : Cond.code yX8_addWorld cX8_addWorld 3 none ∈ wL := List.mem_filter.mpr ⟨wL_t5 _ (List.mem_of_getElem? (i := 191) rfl), rfl⟩
theorem wm_ml_L_114 : Cond.methodLink RL 114 yX7_air ∈ wL := List.mem_filter.mpr ⟨wL_t3 _ (List.mem_of_getElem? (i := 209) rfl), rfl⟩
theorem wm_im_X7_air : Cond.instanceMethod yX7_air ∈ wL := List.mem_filter.mpr ⟨wL_t3 _ (List.mem_of_getElem? (i := 210) rfl), rfl⟩
theorem wm_se_X7_air : Cond.selects RX7 yX7_air yX7_air ∈ wL := List.mem_filter.mpr ⟨wL_t3 _ (List.mem_of_getElem? (i := 211) rfl), rfl⟩
theorem wm_cd_X7_air : Cond.code yX7_air cX7_air 2 (some .int) ∈ wL := List.mem_filter.mpr ⟨wL_t3 _ (List.mem_of_getElem? (i := 212) rfl), rfl⟩
theorem wm_ml_X7_213 : Cond.methodLink RX7 213 yX5_leastMore ∈ wL := List.mem_filter.mpr ⟨wL_t3 _ (List.mem_of_getElem? (i := 213) rfl), rfl⟩
theorem wm_im_X5_leastMore : Cond.instanceMethod yX5_leastMore ∈ wL := List.mem_filter.mpr ⟨wL_t3 _ (List.mem_of_getElem? (i := 214) rfl), rfl⟩
theorem wm_se_X5_leastMore : Cond.selects RX5 yX5_leastMore yX5_leastMore ∈ wL := List.mem_filter.mpr ⟨wL_t3 _ (List.mem_of_getElem? (i := 215) rfl), rfl⟩
theorem wm_cd_X5_leastMore : Cond.code yX5_leastMore cX5_leastMore 3 (some .int) ∈ wL := List.mem_filter.mpr ⟨wL_t3 _ (List.mem_of_getElem? (i := 216) rfl), rfl⟩
theorem wm_ml_L_117 : Cond.methodLink RL 117 yX8_air ∈ wL := List.mem_filter.mpr ⟨wL_t5 _ (List.mem_of_getElem? (i := 192) rfl), rfl⟩
theorem wm_im_X8_air : Cond.instanceMethod yX8_air ∈ wL := List.mem_filter.mpr ⟨wL_t5 _ (List.mem_of_getElem? (i := 193) rfl), rfl⟩
theorem wm_se_X8_air : Cond.selects RX8 yX8_air yX8_air ∈ wL := List.mem_filter.mpr ⟨wL_t5 _ (List.mem_of_getElem? (i := 194) rfl), rfl⟩
theorem wm_cd_X8_air : Cond.code yX8_air cX8_air 3 (some .int) ∈ wL := List.mem_filter.mpr ⟨wL_t5 _ (List.mem_of_getElem? (i := 195) rfl), rfl⟩
theorem wm_ml_L_118 : Cond.methodLink RL 118 yX7_cross ∈ wL := List.mem_filter.mpr ⟨wL_t3 _ (List.mem_of_getElem? (i := 217) rfl), rfl⟩
theorem wm_im_X7_cross : Cond.instanceMethod yX7_cross ∈ wL := List.mem_filter.mpr ⟨wL_t3 _ (List.mem_of_getElem? (i := 218) rfl), rfl⟩
theorem wm_se_X7_cross : Cond.selects RX7 yX7_cross yX7_cross ∈ wL := List.mem_filter.mpr ⟨wL_t3 _ (List.mem_of_getElem? (i := 219) rfl), rfl⟩
theorem wm_cd_X7_cross : Cond.code yX7_cross cX7_cross 2 (some .int) ∈ wL := List.mem_filter.mpr ⟨wL_t3 _ (List.mem_of_getElem? (i := 220) rfl), rfl⟩
theorem wm_fl_X7_219 : Cond.fieldLink RX7 219 "SwornPounds$Worlds" "bestPair" "I" ∈ wL := List.mem_filter.mpr ⟨wL_t1 _ (List.mem_of_getElem? (i := 216) rfl), rfl⟩
theorem wm_fl_X7_222 : Cond.fieldLink RX7 222 "SwornPounds$Worlds" "bestLeft" "I" ∈ wL := List.mem_filter.mpr ⟨wL_t1 _ (List.mem_of_getElem? (i := 218) rfl), rfl⟩
theorem wm_ml_X7_216 : Cond.methodLink RX7 216 yX5_choosePair ∈ wL := List.mem_filter.mpr ⟨wL_t3 _ (List.mem_of_getElem? (i := 221) rfl), rfl⟩
theorem wm_im_X5_choosePair : Cond.instanceMethod yX5_choosePair ∈ wL := List.mem_filter.mpr ⟨wL_t3 _ (List.mem_of_getElem? (i := 222) rfl), rfl⟩
theorem wm_se_X5_choosePair : Cond.selects RX5 yX5_choosePair yX5_choosePair ∈ wL := List.mem_filter.mpr ⟨wL_t3 _ (List.mem_of_getElem? (i := 223) rfl), rfl⟩
theorem wm_cd_X5_choosePair : Cond.code yX5_choosePair cX5_choosePair 4 none ∈ wL := List.mem_filter.mpr ⟨wL_t3 _ (List.mem_of_getElem? (i := 224) rfl), rfl⟩
theorem wm_fl_X5_77 : Cond.fieldLink RX5 77 "SwornPounds$Worlds" "bestPair" "I" ∈ wL := List.mem_filter.mpr ⟨wL_t1 _ (List.mem_of_getElem? (i := 215) rfl), rfl⟩
theorem wm_fl_X5_80 : Cond.fieldLink RX5 80 "SwornPounds$Worlds" "bestLeft" "I" ∈ wL := List.mem_filter.mpr ⟨wL_t1 _ (List.mem_of_getElem? (i := 217) rfl), rfl⟩
theorem wm_ml_X5_83 : Cond.methodLink RX5 83 yX4_hasTwo ∈ wL := List.mem_filter.mpr ⟨wL_t3 _ (List.mem_of_getElem? (i := 225) rfl), rfl⟩
theorem wm_ml_X5_86 : Cond.methodLink RX5 86 yX5_tryPair ∈ wL := List.mem_filter.mpr ⟨wL_t3 _ (List.mem_of_getElem? (i := 226) rfl), rfl⟩
theorem wm_im_X5_tryPair : Cond.instanceMethod yX5_tryPair ∈ wL := List.mem_filter.mpr ⟨wL_t3 _ (List.mem_of_getElem? (i := 228) rfl), rfl⟩
theorem wm_se_X5_tryPair : Cond.selects RX5 yX5_tryPair yX5_tryPair ∈ wL := List.mem_filter.mpr ⟨wL_p2 (⟨"SwornPounds$Worlds", "tryPair", "(LSwornPounds$Town;II)V"⟩, _) (List.mem_of_getElem? (i := 4) rfl), rfl⟩
theorem wm_cd_X5_tryPair : Cond.code yX5_tryPair cX5_tryPair 7 none ∈ wL := List.mem_filter.mpr ⟨wL_t3 _ (List.mem_of_getElem? (i := 229) rfl), rfl⟩
theorem wm_ml_X5_95 : Cond.methodLink RX5 95 Lib.Math.max.name ∈ wL := List.mem_filter.mpr ⟨wL_t3 _ (List.mem_of_getElem? (i := 231) rfl), rfl⟩
theorem wm_ml_X5_89 : Cond.methodLink RX5 89 yJ7_fill_53178 ∈ wL := List.mem_filter.mpr ⟨wL_t3 _ (List.mem_of_getElem? (i := 230) rfl), rfl⟩
theorem wm_ml_L_121 : Cond.methodLink RL 121 yX8_cross ∈ wL := List.mem_filter.mpr ⟨wL_t5 _ (List.mem_of_getElem? (i := 196) rfl), rfl⟩
theorem wm_im_X8_cross : Cond.instanceMethod yX8_cross ∈ wL := List.mem_filter.mpr ⟨wL_t5 _ (List.mem_of_getElem? (i := 197) rfl), rfl⟩
theorem wm_se_X8_cross : Cond.selects RX8 yX8_cross yX8_cross ∈ wL := List.mem_filter.mpr ⟨wL_t5 _ (List.mem_of_getElem? (i := 198) rfl), rfl⟩
theorem wm_cd_X8_cross : Cond.code yX8_cross cX8_cross 6 (some .int) ∈ wL := List.mem_filter.mpr ⟨wL_t5 _ (List.mem_of_getElem? (i := 199) rfl), rfl⟩
theorem wm_ml_X8_276 : Cond.methodLink RX8 276 yX8_mostLeft ∈ wL := List.mem_filter.mpr ⟨wL_t5 _ (List.mem_of_getElem? (i := 200) rfl), rfl⟩
theorem wm_im_X8_mostLeft : Cond.instanceMethod yX8_mostLeft ∈ wL := List.mem_filter.mpr ⟨wL_t5 _ (List.mem_of_getElem? (i := 202) rfl), rfl⟩
theorem wm_se_X8_mostLeft : Cond.selects RX8 yX8_mostLeft yX8_mostLeft ∈ wL := List.mem_filter.mpr ⟨wL_p4 (⟨"SwornPoundsModel", "mostLeft", "(II)I"⟩, _) (List.mem_of_getElem? (i := 6) rfl), rfl⟩
theorem wm_cd_X8_mostLeft : Cond.code yX8_mostLeft cX8_mostLeft 7 (some .int) ∈ wL := List.mem_filter.mpr ⟨wL_t5 _ (List.mem_of_getElem? (i := 203) rfl), rfl⟩
theorem wm_ml_L_122 : Cond.methodLink RL 122 yX7_chance ∈ wL := List.mem_filter.mpr ⟨wL_t3 _ (List.mem_of_getElem? (i := 232) rfl), rfl⟩
theorem wm_im_X7_chance : Cond.instanceMethod yX7_chance ∈ wL := List.mem_filter.mpr ⟨wL_t3 _ (List.mem_of_getElem? (i := 233) rfl), rfl⟩
theorem wm_se_X7_chance : Cond.selects RX7 yX7_chance yX7_chance ∈ wL := List.mem_filter.mpr ⟨wL_t3 _ (List.mem_of_getElem? (i := 234) rfl), rfl⟩
theorem wm_cd_X7_chance : Cond.code yX7_chance cX7_chance 7 (some .long) ∈ wL := List.mem_filter.mpr ⟨wL_t3 _ (List.mem_of_getElem? (i := 235) rfl), rfl⟩
theorem wm_cl_X7_225 : Cond.constantLong RX7 225 (-1000000000000000001) ∈ wL := List.mem_filter.mpr ⟨wL_t3 _ (List.mem_of_getElem? (i := 236) rfl), rfl⟩
theorem wm_cl_X7_227 : Cond.constantLong RX7 227 (-1000000000000000002) ∈ wL := List.mem_filter.mpr ⟨wL_t3 _ (List.mem_of_getElem? (i := 237) rfl), rfl⟩
theorem wm_fl_X7_236 : Cond.fieldLink RX7 236 "SwornPounds$Fraction" "upper" "J" ∈ wL := List.mem_filter.mpr ⟨wL_t2 _ (List.mem_of_getElem? (i := 1) rfl), rfl⟩
theorem wm_fl_X7_240 : Cond.fieldLink RX7 240 "SwornPounds$Fraction" "lower" "J" ∈ wL := List.mem_filter.mpr ⟨wL_t2 _ (List.mem_of_getElem? (i := 3) rfl), rfl⟩
theorem wm_ml_X7_229 : Cond.methodLink RX7 229 yX0_setHeavier ∈ wL := List.mem_filter.mpr ⟨wL_t3 _ (List.mem_of_getElem? (i := 238) rfl), rfl⟩
theorem wm_im_X0_setHeavier : Cond.instanceMethod yX0_setHeavier ∈ wL := List.mem_filter.mpr ⟨wL_t3 _ (List.mem_of_getElem? (i := 239) rfl), rfl⟩
theorem wm_se_X0_setHeavier : Cond.selects RX0 yX0_setHeavier yX0_setHeavier ∈ wL := List.mem_filter.mpr ⟨wL_t4 _ (List.mem_of_getElem? (i := 0) rfl), rfl⟩
theorem wm_cd_X0_setHeavier : Cond.code yX0_setHeavier cX0_setHeavier 16 none ∈ wL := List.mem_filter.mpr ⟨wL_t4 _ (List.mem_of_getElem? (i := 1) rfl), rfl⟩
theorem wm_fl_X0_7 : Cond.fieldLink RX0 7 "SwornPounds$Town" "weight" "[I" ∈ wL := List.mem_filter.mpr ⟨wL_t1 _ (List.mem_of_getElem? (i := 38) rfl), rfl⟩
theorem wm_ml_X0_13 : Cond.methodLink RX0 13 yX4_sumOver ∈ wL := List.mem_filter.mpr ⟨wL_t4 _ (List.mem_of_getElem? (i := 2) rfl), rfl⟩
theorem wm_ml_X0_17 : Cond.methodLink RX0 17 yJ6_bitCount_0f7a4 ∈ wL := List.mem_filter.mpr ⟨wL_t4 _ (List.mem_of_getElem? (i := 3) rfl), rfl⟩
theorem wm_ml_X0_28 : Cond.methodLink RX0 28 yX0_power ∈ wL := List.mem_filter.mpr ⟨wL_t4 _ (List.mem_of_getElem? (i := 5) rfl), rfl⟩
theorem wm_st_X0_power : Cond.static yX0_power ∈ wL := List.mem_filter.mpr ⟨wL_t4 _ (List.mem_of_getElem? (i := 6) rfl), rfl⟩
theorem wm_cd_X0_power : Cond.code yX0_power cX0_power 5 (some .long) ∈ wL := List.mem_filter.mpr ⟨wL_t4 _ (List.mem_of_getElem? (i := 7) rfl), rfl⟩
theorem wm_ml_X0_38 : Cond.methodLink RX0 38 yX0_put ∈ wL := List.mem_filter.mpr ⟨wL_t4 _ (List.mem_of_getElem? (i := 9) rfl), rfl⟩
theorem wm_im_X0_put : Cond.instanceMethod yX0_put ∈ wL := List.mem_filter.mpr ⟨wL_t4 _ (List.mem_of_getElem? (i := 11) rfl), rfl⟩
theorem wm_se_X0_put : Cond.selects RX0 yX0_put yX0_put ∈ wL := List.mem_filter.mpr ⟨wL_p2 (⟨"SwornPounds$Fraction", "put", "(JJ)V"⟩, _) (List.mem_of_getElem? (i := 5) rfl), rfl⟩
theorem wm_cd_X0_put : Cond.code yX0_put cX0_put 7 none ∈ wL := List.mem_filter.mpr ⟨wL_t4 _ (List.mem_of_getElem? (i := 12) rfl), rfl⟩
theorem wm_ml_X0_44 : Cond.methodLink RX0 44 Lib.MathLoose.abs_long.x ∈ wL := List.mem_filter.mpr ⟨wL_t4 _ (List.mem_of_getElem? (i := 13) rfl), rfl⟩
theorem wm_st_abs_long : Cond.static Lib.MathLoose.abs_long.x ∈ wL := List.mem_filter.mpr ⟨wL_t4 _ (List.mem_of_getElem? (i := 14) rfl), rfl⟩
theorem wm_cd_abs_long : Cond.code Lib.MathLoose.abs_long.x Lib.MathLoose.abs_long.code 2 (some .long) ∈ wL := List.mem_filter.mpr ⟨wL_t4 _ (List.mem_of_getElem? (i := 15) rfl), rfl⟩
theorem wm_fl_X0_54 : Cond.fieldLink RX0 54 "SwornPounds$Fraction" "upper" "J" ∈ wL := List.mem_filter.mpr ⟨wL_t2 _ (List.mem_of_getElem? (i := 0) rfl), rfl⟩
theorem wm_fl_X0_58 : Cond.fieldLink RX0 58 "SwornPounds$Fraction" "lower" "J" ∈ wL := List.mem_filter.mpr ⟨wL_t2 _ (List.mem_of_getElem? (i := 2) rfl), rfl⟩
theorem wm_ml_X0_50 : Cond.methodLink RX0 50 yX0_sharedDivisor ∈ wL := List.mem_filter.mpr ⟨wL_t4 _ (List.mem_of_getElem? (i := 16) rfl), rfl⟩
theorem wm_st_X0_sharedDivisor : Cond.static yX0_sharedDivisor ∈ wL := List.mem_filter.mpr ⟨wL_t4 _ (List.mem_of_getElem? (i := 17) rfl), rfl⟩
theorem wm_cd_X0_sharedDivisor : Cond.code yX0_sharedDivisor cX0_sharedDivisor 11 (some .long) ∈ wL := List.mem_filter.mpr ⟨wL_t4 _ (List.mem_of_getElem? (i := 18) rfl), rfl⟩
theorem wm_ml_X7_233 : Cond.methodLink RX7 233 yX0_setMean ∈ wL := List.mem_filter.mpr ⟨wL_t4 _ (List.mem_of_getElem? (i := 19) rfl), rfl⟩
theorem wm_im_X0_setMean : Cond.instanceMethod yX0_setMean ∈ wL := List.mem_filter.mpr ⟨wL_t4 _ (List.mem_of_getElem? (i := 20) rfl), rfl⟩
theorem wm_se_X0_setMean : Cond.selects RX0 yX0_setMean yX0_setMean ∈ wL := List.mem_filter.mpr ⟨wL_t4 _ (List.mem_of_getElem? (i := 21) rfl), rfl⟩
theorem wm_cd_X0_setMean : Cond.code yX0_setMean cX0_setMean 8 none ∈ wL := List.mem_filter.mpr ⟨wL_t4 _ (List.mem_of_getElem? (i := 22) rfl), rfl⟩
theorem wm_cl_X0_42 : Cond.constantLong RX0 42 (10) ∈ wL := List.mem_filter.mpr ⟨wL_t4 _ (List.mem_of_getElem? (i := 23) rfl), rfl⟩
theorem wm_ml_L_126 : Cond.methodLink RL 126 yX8_chance ∈ wL := List.mem_filter.mpr ⟨wL_t5 _ (List.mem_of_getElem? (i := 204) rfl), rfl⟩
theorem wm_im_X8_chance : Cond.instanceMethod yX8_chance ∈ wL := List.mem_filter.mpr ⟨wL_t5 _ (List.mem_of_getElem? (i := 205) rfl), rfl⟩
theorem wm_se_X8_chance : Cond.selects RX8 yX8_chance yX8_chance ∈ wL := List.mem_filter.mpr ⟨wL_t5 _ (List.mem_of_getElem? (i := 206) rfl), rfl⟩
theorem wm_cd_X8_chance : Cond.code yX8_chance cX8_chance 20 (some .long) ∈ wL := List.mem_filter.mpr ⟨wL_t5 _ (List.mem_of_getElem? (i := 207) rfl), rfl⟩
theorem wm_cl_X8_279 : Cond.constantLong RX8 279 (-1000000000000000001) ∈ wL := List.mem_filter.mpr ⟨wL_t5 _ (List.mem_of_getElem? (i := 208) rfl), rfl⟩
theorem wm_cl_X8_281 : Cond.constantLong RX8 281 (10) ∈ wL := List.mem_filter.mpr ⟨wL_t5 _ (List.mem_of_getElem? (i := 209) rfl), rfl⟩
theorem wm_cl_X8_283 : Cond.constantLong RX8 283 (50) ∈ wL := List.mem_filter.mpr ⟨wL_t5 _ (List.mem_of_getElem? (i := 210) rfl), rfl⟩
theorem wm_cl_X8_285 : Cond.constantLong RX8 285 (-1000000000000000002) ∈ wL := List.mem_filter.mpr ⟨wL_t5 _ (List.mem_of_getElem? (i := 211) rfl), rfl⟩
theorem wm_ml_X8_287 : Cond.methodLink RX8 287 yX8_lowest ∈ wL := List.mem_filter.mpr ⟨wL_t5 _ (List.mem_of_getElem? (i := 212) rfl), rfl⟩
theorem wm_st_X8_lowest : Cond.static yX8_lowest ∈ wL := List.mem_filter.mpr ⟨wL_t5 _ (List.mem_of_getElem? (i := 213) rfl), rfl⟩
theorem wm_cd_X8_lowest : Cond.code yX8_lowest cX8_lowest 11 (some .long) ∈ wL := List.mem_filter.mpr ⟨wL_t5 _ (List.mem_of_getElem? (i := 214) rfl), rfl⟩
theorem wm_ml_L_127 : Cond.methodLink RL 127 yX7_year ∈ wL := List.mem_filter.mpr ⟨wL_t4 _ (List.mem_of_getElem? (i := 24) rfl), rfl⟩
theorem wm_im_X7_year : Cond.instanceMethod yX7_year ∈ wL := List.mem_filter.mpr ⟨wL_t4 _ (List.mem_of_getElem? (i := 25) rfl), rfl⟩
theorem wm_se_X7_year : Cond.selects RX7 yX7_year yX7_year ∈ wL := List.mem_filter.mpr ⟨wL_t4 _ (List.mem_of_getElem? (i := 26) rfl), rfl⟩
theorem wm_cd_X7_year : Cond.code yX7_year cX7_year 4 (some .int) ∈ wL := List.mem_filter.mpr ⟨wL_t4 _ (List.mem_of_getElem? (i := 27) rfl), rfl⟩
theorem wm_fl_X7_246 : Cond.fieldLink RX7 246 "SwornPounds$Year" "sold" "I" ∈ wL := List.mem_filter.mpr ⟨wL_t2 _ (List.mem_of_getElem? (i := 19) rfl), rfl⟩
theorem wm_fl_X7_249 : Cond.fieldLink RX7 249 "SwornPounds$Year" "pounds" "I" ∈ wL := List.mem_filter.mpr ⟨wL_t2 _ (List.mem_of_getElem? (i := 21) rfl), rfl⟩
theorem wm_fl_X7_252 : Cond.fieldLink RX7 252 "SwornPounds$Year" "salesOff" "I" ∈ wL := List.mem_filter.mpr ⟨wL_t2 _ (List.mem_of_getElem? (i := 23) rfl), rfl⟩
theorem wm_ml_X7_243 : Cond.methodLink RX7 243 yX6_pass ∈ wL := List.mem_filter.mpr ⟨wL_t4 _ (List.mem_of_getElem? (i := 28) rfl), rfl⟩
theorem wm_im_X6_pass : Cond.instanceMethod yX6_pass ∈ wL := List.mem_filter.mpr ⟨wL_t4 _ (List.mem_of_getElem? (i := 29) rfl), rfl⟩
theorem wm_se_X6_pass : Cond.selects RX6 yX6_pass yX6_pass ∈ wL := List.mem_filter.mpr ⟨wL_t4 _ (List.mem_of_getElem? (i := 30) rfl), rfl⟩
theorem wm_cd_X6_pass : Cond.code yX6_pass cX6_pass 6 none ∈ wL := List.mem_filter.mpr ⟨wL_t4 _ (List.mem_of_getElem? (i := 31) rfl), rfl⟩
theorem wm_fl_X6_20 : Cond.fieldLink RX6 20 "SwornPounds$Year" "sold" "I" ∈ wL := List.mem_filter.mpr ⟨wL_t2 _ (List.mem_of_getElem? (i := 18) rfl), rfl⟩
theorem wm_fl_X6_24 : Cond.fieldLink RX6 24 "SwornPounds$Year" "pounds" "I" ∈ wL := List.mem_filter.mpr ⟨wL_t2 _ (List.mem_of_getElem? (i := 20) rfl), rfl⟩
theorem wm_fl_X6_27 : Cond.fieldLink RX6 27 "SwornPounds$Year" "salesOff" "I" ∈ wL := List.mem_filter.mpr ⟨wL_t2 _ (List.mem_of_getElem? (i := 22) rfl), rfl⟩
theorem wm_ck_X6_30 : Cond.constant RX6 30 (65537) ∈ wL := List.mem_filter.mpr ⟨wL_t4 _ (List.mem_of_getElem? (i := 33) rfl), rfl⟩
theorem wm_ml_X6_16 : Cond.methodLink RX6 16 yX4_copyFrom ∈ wL := List.mem_filter.mpr ⟨wL_t4 _ (List.mem_of_getElem? (i := 32) rfl), rfl⟩
theorem wm_ml_X6_31 : Cond.methodLink RX6 31 yX4_passDay ∈ wL := List.mem_filter.mpr ⟨wL_t4 _ (List.mem_of_getElem? (i := 34) rfl), rfl⟩
theorem wm_ml_X6_34 : Cond.methodLink RX6 34 yX4_has ∈ wL := List.mem_filter.mpr ⟨wL_t4 _ (List.mem_of_getElem? (i := 35) rfl), rfl⟩
theorem wm_ml_X6_38 : Cond.methodLink RX6 38 yX6_sell ∈ wL := List.mem_filter.mpr ⟨wL_t4 _ (List.mem_of_getElem? (i := 36) rfl), rfl⟩
theorem wm_im_X6_sell : Cond.instanceMethod yX6_sell ∈ wL := List.mem_filter.mpr ⟨wL_t4 _ (List.mem_of_getElem? (i := 38) rfl), rfl⟩
theorem wm_se_X6_sell : Cond.selects RX6 yX6_sell yX6_sell ∈ wL := List.mem_filter.mpr ⟨wL_p2 (⟨"SwornPounds$Year", "sell", "(I)V"⟩, _) (List.mem_of_getElem? (i := 6) rfl), rfl⟩
theorem wm_cd_X6_sell : Cond.code yX6_sell cX6_sell 5 none ∈ wL := List.mem_filter.mpr ⟨wL_t4 _ (List.mem_of_getElem? (i := 39) rfl), rfl⟩
theorem wm_fl_X6_46 : Cond.fieldLink RX6 46 "SwornPounds$Town" "sworn" "[I" ∈ wL := List.mem_filter.mpr ⟨wL_t1 _ (List.mem_of_getElem? (i := 34) rfl), rfl⟩
theorem wm_ml_X6_57 : Cond.methodLink RX6 57 Lib.Math.abs.name ∈ wL := List.mem_filter.mpr ⟨wL_t4 _ (List.mem_of_getElem? (i := 43) rfl), rfl⟩
theorem wm_fl_X6_62 : Cond.fieldLink RX6 62 "SwornPounds$Town" "limit" "I" ∈ wL := List.mem_filter.mpr ⟨wL_t1 _ (List.mem_of_getElem? (i := 56) rfl), rfl⟩
theorem wm_ml_X6_42 : Cond.methodLink RX6 42 yX4_partner ∈ wL := List.mem_filter.mpr ⟨wL_t4 _ (List.mem_of_getElem? (i := 40) rfl), rfl⟩
theorem wm_ml_X6_50 : Cond.methodLink RX6 50 yX4_sumOver ∈ wL := List.mem_filter.mpr ⟨wL_t4 _ (List.mem_of_getElem? (i := 41) rfl), rfl⟩
theorem wm_ml_X6_54 : Cond.methodLink RX6 54 yX4_poundsOfAll ∈ wL := List.mem_filter.mpr ⟨wL_t4 _ (List.mem_of_getElem? (i := 42) rfl), rfl⟩
theorem wm_ml_L_130 : Cond.methodLink RL 130 yX8_year ∈ wL := List.mem_filter.mpr ⟨wL_t5 _ (List.mem_of_getElem? (i := 215) rfl), rfl⟩
theorem wm_im_X8_year : Cond.instanceMethod yX8_year ∈ wL := List.mem_filter.mpr ⟨wL_t5 _ (List.mem_of_getElem? (i := 216) rfl), rfl⟩
theorem wm_se_X8_year : Cond.selects RX8 yX8_year yX8_year ∈ wL := List.mem_filter.mpr ⟨wL_t5 _ (List.mem_of_getElem? (i := 217) rfl), rfl⟩
theorem wm_cd_X8_year : Cond.code yX8_year cX8_year 11 (some .int) ∈ wL := List.mem_filter.mpr ⟨wL_t5 _ (List.mem_of_getElem? (i := 218) rfl), rfl⟩
theorem wm_cl_X8_291 : Cond.constantLong RX8 291 (9999) ∈ wL := List.mem_filter.mpr ⟨wL_t5 _ (List.mem_of_getElem? (i := 219) rfl), rfl⟩
theorem wm_cl_X8_293 : Cond.constantLong RX8 293 (75) ∈ wL := List.mem_filter.mpr ⟨wL_t5 _ (List.mem_of_getElem? (i := 220) rfl), rfl⟩
theorem wm_cl_X8_295 : Cond.constantLong RX8 295 (74) ∈ wL := List.mem_filter.mpr ⟨wL_t5 _ (List.mem_of_getElem? (i := 221) rfl), rfl⟩
theorem wm_cl_X8_297 : Cond.constantLong RX8 297 (65537) ∈ wL := List.mem_filter.mpr ⟨wL_t5 _ (List.mem_of_getElem? (i := 222) rfl), rfl⟩
theorem wm_ml_L_131 : Cond.methodLink RL 131 yX7_image ∈ wL := List.mem_filter.mpr ⟨wL_t4 _ (List.mem_of_getElem? (i := 44) rfl), rfl⟩
theorem wm_im_X7_image : Cond.instanceMethod yX7_image ∈ wL := List.mem_filter.mpr ⟨wL_t4 _ (List.mem_of_getElem? (i := 45) rfl), rfl⟩
theorem wm_se_X7_image : Cond.selects RX7 yX7_image yX7_image ∈ wL := List.mem_filter.mpr ⟨wL_t4 _ (List.mem_of_getElem? (i := 46) rfl), rfl⟩
theorem wm_cd_X7_image : Cond.code yX7_image cX7_image 2 (some .int) ∈ wL := List.mem_filter.mpr ⟨wL_t4 _ (List.mem_of_getElem? (i := 47) rfl), rfl⟩
theorem wm_ml_L_134 : Cond.methodLink RL 134 yX8_image ∈ wL := List.mem_filter.mpr ⟨wL_t5 _ (List.mem_of_getElem? (i := 223) rfl), rfl⟩
theorem wm_im_X8_image : Cond.instanceMethod yX8_image ∈ wL := List.mem_filter.mpr ⟨wL_t5 _ (List.mem_of_getElem? (i := 224) rfl), rfl⟩
theorem wm_se_X8_image : Cond.selects RX8 yX8_image yX8_image ∈ wL := List.mem_filter.mpr ⟨wL_t5 _ (List.mem_of_getElem? (i := 225) rfl), rfl⟩
theorem wm_cd_X8_image : Cond.code yX8_image cX8_image 2 (some .int) ∈ wL := List.mem_filter.mpr ⟨wL_t5 _ (List.mem_of_getElem? (i := 226) rfl), rfl⟩
theorem wm_fl_X8_303 : Cond.fieldLink RX8 303 "SwornPoundsModel" "keptAt" "I" ∈ wL := List.mem_filter.mpr ⟨wL_t4 _ (List.mem_of_getElem? (i := 105) rfl), rfl⟩
theorem wm_fl_X8_299 : Cond.fieldLink RX8 299 "SwornPoundsModel" "isWriting" "Z" ∈ wL := List.mem_filter.mpr ⟨wL_t4 _ (List.mem_of_getElem? (i := 106) rfl), rfl⟩
theorem wm_ml_X8_309 : Cond.methodLink RX8 309 yX8_passAll ∈ wL := List.mem_filter.mpr ⟨wL_t5 _ (List.mem_of_getElem? (i := 227) rfl), rfl⟩
theorem wm_im_X8_passAll : Cond.instanceMethod yX8_passAll ∈ wL := List.mem_filter.mpr ⟨wL_t5 _ (List.mem_of_getElem? (i := 229) rfl), rfl⟩
theorem wm_se_X8_passAll : Cond.selects RX8 yX8_passAll yX8_passAll ∈ wL := List.mem_filter.mpr ⟨wL_p4 (⟨"SwornPoundsModel", "passAll", "()V"⟩, _) (List.mem_of_getElem? (i := 7) rfl), rfl⟩
theorem wm_cd_X8_passAll : Cond.code yX8_passAll cX8_passAll 2 none ∈ wL := List.mem_filter.mpr ⟨wL_t5 _ (List.mem_of_getElem? (i := 230) rfl), rfl⟩
theorem wm_ml_X8_306 : Cond.methodLink RX8 306 yX8_pass ∈ wL := List.mem_filter.mpr ⟨wL_t5 _ (List.mem_of_getElem? (i := 231) rfl), rfl⟩
theorem wm_im_X8_pass : Cond.instanceMethod yX8_pass ∈ wL := List.mem_filter.mpr ⟨wL_t5 _ (List.mem_of_getElem? (i := 233) rfl), rfl⟩
theorem wm_se_X8_pass : Cond.selects RX8 yX8_pass yX8_pass ∈ wL := List.mem_filter.mpr ⟨wL_p4 (⟨"SwornPoundsModel", "pass", "(I)I"⟩, _) (List.mem_of_getElem? (i := 8) rfl), rfl⟩
theorem wm_cd_X8_pass : Cond.code yX8_pass cX8_pass 3 (some .int) ∈ wL := List.mem_filter.mpr ⟨wL_t5 _ (List.mem_of_getElem? (i := 234) rfl), rfl⟩
theorem wm_ml_L_135 : Cond.methodLink RL 135 yX7_restore ∈ wL := List.mem_filter.mpr ⟨wL_t4 _ (List.mem_of_getElem? (i := 48) rfl), rfl⟩
theorem wm_im_X7_restore : Cond.instanceMethod yX7_restore ∈ wL := List.mem_filter.mpr ⟨wL_t4 _ (List.mem_of_getElem? (i := 49) rfl), rfl⟩
theorem wm_se_X7_restore : Cond.selects RX7 yX7_restore yX7_restore ∈ wL := List.mem_filter.mpr ⟨wL_t4 _ (List.mem_of_getElem? (i := 50) rfl), rfl⟩
theorem wm_cd_X7_restore : Cond.code yX7_restore cX7_restore 2 (some .int) ∈ wL := List.mem_filter.mpr ⟨wL_t4 _ (List.mem_of_getElem? (i := 51) rfl), rfl⟩
theorem wm_ml_L_138 : Cond.methodLink RL 138 yX8_restore ∈ wL := List.mem_filter.mpr ⟨wL_t5 _ (List.mem_of_getElem? (i := 235) rfl), rfl⟩
theorem wm_im_X8_restore : Cond.instanceMethod yX8_restore ∈ wL := List.mem_filter.mpr ⟨wL_t5 _ (List.mem_of_getElem? (i := 236) rfl), rfl⟩
theorem wm_se_X8_restore : Cond.selects RX8 yX8_restore yX8_restore ∈ wL := List.mem_filter.mpr ⟨wL_t5 _ (List.mem_of_getElem? (i := 237) rfl), rfl⟩
theorem wm_cd_X8_restore : Cond.code yX8_restore cX8_restore 2 (some .int) ∈ wL := List.mem_filter.mpr ⟨wL_t5 _ (List.mem_of_getElem? (i := 238) rfl), rfl⟩
theorem wm_ml_L_139 : Cond.methodLink RL 139 yX7_told ∈ wL := List.mem_filter.mpr ⟨wL_t4 _ (List.mem_of_getElem? (i := 52) rfl), rfl⟩
theorem wm_im_X7_told : Cond.instanceMethod yX7_told ∈ wL := List.mem_filter.mpr ⟨wL_t4 _ (List.mem_of_getElem? (i := 53) rfl), rfl⟩
theorem wm_se_X7_told : Cond.selects RX7 yX7_told yX7_told ∈ wL := List.mem_filter.mpr ⟨wL_t4 _ (List.mem_of_getElem? (i := 54) rfl), rfl⟩
theorem wm_cd_X7_told : Cond.code yX7_told cX7_told 2 (some .int) ∈ wL := List.mem_filter.mpr ⟨wL_t4 _ (List.mem_of_getElem? (i := 55) rfl), rfl⟩
theorem wm_fl_X7_255 : Cond.fieldLink RX7 255 "SwornPounds$Town" "there" "I" ∈ wL := List.mem_filter.mpr ⟨wL_t1 _ (List.mem_of_getElem? (i := 52) rfl), rfl⟩
theorem wm_fl_X7_258 : Cond.fieldLink RX7 258 "SwornPounds$Town" "colds" "I" ∈ wL := List.mem_filter.mpr ⟨wL_t1 _ (List.mem_of_getElem? (i := 54) rfl), rfl⟩
theorem wm_ml_X7_261 : Cond.methodLink RX7 261 yX7_tellPerson ∈ wL := List.mem_filter.mpr ⟨wL_t4 _ (List.mem_of_getElem? (i := 56) rfl), rfl⟩
theorem wm_im_X7_tellPerson : Cond.instanceMethod yX7_tellPerson ∈ wL := List.mem_filter.mpr ⟨wL_t4 _ (List.mem_of_getElem? (i := 58) rfl), rfl⟩
theorem wm_se_X7_tellPerson : Cond.selects RX7 yX7_tellPerson yX7_tellPerson ∈ wL := List.mem_filter.mpr ⟨wL_p2 (⟨"SwornPounds", "tellPerson", "(II)I"⟩, _) (List.mem_of_getElem? (i := 7) rfl), rfl⟩
theorem wm_cd_X7_tellPerson : Cond.code yX7_tellPerson cX7_tellPerson 3 (some .int) ∈ wL := List.mem_filter.mpr ⟨wL_t4 _ (List.mem_of_getElem? (i := 59) rfl), rfl⟩
theorem wm_fl_X7_264 : Cond.fieldLink RX7 264 "SwornPounds$Town" "drift" "[I" ∈ wL := List.mem_filter.mpr ⟨wL_t1 _ (List.mem_of_getElem? (i := 41) rfl), rfl⟩
theorem wm_fl_X7_267 : Cond.fieldLink RX7 267 "SwornPounds$Town" "spouse" "[I" ∈ wL := List.mem_filter.mpr ⟨wL_t1 _ (List.mem_of_getElem? (i := 43) rfl), rfl⟩
theorem wm_ml_L_142 : Cond.methodLink RL 142 yX8_told ∈ wL := List.mem_filter.mpr ⟨wL_t5 _ (List.mem_of_getElem? (i := 239) rfl), rfl⟩
theorem wm_im_X8_told : Cond.instanceMethod yX8_told ∈ wL := List.mem_filter.mpr ⟨wL_t6 _ (List.mem_of_getElem? (i := 0) rfl), rfl⟩
theorem wm_se_X8_told : Cond.selects RX8 yX8_told yX8_told ∈ wL := List.mem_filter.mpr ⟨wL_t6 _ (List.mem_of_getElem? (i := 1) rfl), rfl⟩
theorem wm_cd_X8_told : Cond.code yX8_told cX8_told 2 (some .int) ∈ wL := List.mem_filter.mpr ⟨wL_t6 _ (List.mem_of_getElem? (i := 2) rfl), rfl⟩
theorem wm_cl_X8_312 : Cond.constantLong RX8 312 (89) ∈ wL := List.mem_filter.mpr ⟨wL_t6 _ (List.mem_of_getElem? (i := 3) rfl), rfl⟩
theorem wm_ml_X8_314 : Cond.methodLink RX8 314 yX8_toldOf ∈ wL := List.mem_filter.mpr ⟨wL_t6 _ (List.mem_of_getElem? (i := 4) rfl), rfl⟩
theorem wm_im_X8_toldOf : Cond.instanceMethod yX8_toldOf ∈ wL := List.mem_filter.mpr ⟨wL_t6 _ (List.mem_of_getElem? (i := 6) rfl), rfl⟩
theorem wm_se_X8_toldOf : Cond.selects RX8 yX8_toldOf yX8_toldOf ∈ wL := List.mem_filter.mpr ⟨wL_p4 (⟨"SwornPoundsModel", "toldOf", "(II)I"⟩, _) (List.mem_of_getElem? (i := 9) rfl), rfl⟩
theorem wm_cd_X8_toldOf : Cond.code yX8_toldOf cX8_toldOf 3 (some .int) ∈ wL := List.mem_filter.mpr ⟨wL_t6 _ (List.mem_of_getElem? (i := 7) rfl), rfl⟩
theorem wm_lay_X0_0 : u_lay RX0 TX0 0 ∈ wL := List.mem_filter.mpr ⟨wL_t2 _ (List.mem_of_getElem? (i := 4) rfl), rfl⟩
theorem wm_lay_X0_1 : u_lay RX0 TX0 1 ∈ wL := List.mem_filter.mpr ⟨wL_t2 _ (List.mem_of_getElem? (i := 6) rfl), rfl⟩
theorem inlX0 : ∀ w ∈ u_ws RX0 TX0 2, w ∈ wL := by
  show ∀ w ∈ [u_lay RX0 TX0 0, u_lay RX0 TX0 1], w ∈ wL
  exact List.forall_mem_cons.mpr ⟨wm_lay_X0_0, List.forall_mem_cons.mpr ⟨wm_lay_X0_1, fun _ h => absurd h List.not_mem_nil⟩⟩
theorem wm_lay_X1_0 : u_lay RX1 TX1 0 ∈ wL := List.mem_filter.mpr ⟨wL_t1 _ (List.mem_of_getElem? (i := 132) rfl), rfl⟩
theorem wm_lay_X1_1 : u_lay RX1 TX1 1 ∈ wL := List.mem_filter.mpr ⟨wL_t1 _ (List.mem_of_getElem? (i := 134) rfl), rfl⟩
theorem wm_lay_X1_2 : u_lay RX1 TX1 2 ∈ wL := List.mem_filter.mpr ⟨wL_t1 _ (List.mem_of_getElem? (i := 136) rfl), rfl⟩
theorem wm_lay_X1_3 : u_lay RX1 TX1 3 ∈ wL := List.mem_filter.mpr ⟨wL_t1 _ (List.mem_of_getElem? (i := 138) rfl), rfl⟩
theorem wm_lay_X1_4 : u_lay RX1 TX1 4 ∈ wL := List.mem_filter.mpr ⟨wL_t1 _ (List.mem_of_getElem? (i := 140) rfl), rfl⟩
theorem wm_lay_X1_5 : u_lay RX1 TX1 5 ∈ wL := List.mem_filter.mpr ⟨wL_t1 _ (List.mem_of_getElem? (i := 142) rfl), rfl⟩
theorem wm_lay_X1_6 : u_lay RX1 TX1 6 ∈ wL := List.mem_filter.mpr ⟨wL_t1 _ (List.mem_of_getElem? (i := 144) rfl), rfl⟩
theorem wm_lay_X1_7 : u_lay RX1 TX1 7 ∈ wL := List.mem_filter.mpr ⟨wL_t1 _ (List.mem_of_getElem? (i := 146) rfl), rfl⟩
theorem wm_lay_X1_8 : u_lay RX1 TX1 8 ∈ wL := List.mem_filter.mpr ⟨wL_t1 _ (List.mem_of_getElem? (i := 148) rfl), rfl⟩
theorem wm_lay_X1_9 : u_lay RX1 TX1 9 ∈ wL := List.mem_filter.mpr ⟨wL_t1 _ (List.mem_of_getElem? (i := 150) rfl), rfl⟩
theorem wm_lay_X1_10 : u_lay RX1 TX1 10 ∈ wL := List.mem_filter.mpr ⟨wL_t1 _ (List.mem_of_getElem? (i := 152) rfl), rfl⟩
theorem wm_lay_X1_11 : u_lay RX1 TX1 11 ∈ wL := List.mem_filter.mpr ⟨wL_t1 _ (List.mem_of_getElem? (i := 154) rfl), rfl⟩
theorem wm_lay_X1_12 : u_lay RX1 TX1 12 ∈ wL := List.mem_filter.mpr ⟨wL_t1 _ (List.mem_of_getElem? (i := 156) rfl), rfl⟩
theorem inlX1 : ∀ w ∈ u_ws RX1 TX1 13, w ∈ wL := by
  show ∀ w ∈ [u_lay RX1 TX1 0, u_lay RX1 TX1 1, u_lay RX1 TX1 2, u_lay RX1 TX1 3, u_lay RX1 TX1 4, u_lay RX1 TX1 5, u_lay RX1 TX1 6, u_lay RX1 TX1 7, u_lay RX1 TX1 8, u_lay RX1 TX1 9, u_lay RX1 TX1 10, u_lay RX1 TX1 11, u_lay RX1 TX1 12], w ∈ wL
  exact List.forall_mem_cons.mpr ⟨wm_lay_X1_0, List.forall_mem_cons.mpr ⟨wm_lay_X1_1, List.forall_mem_cons.mpr ⟨wm_lay_X1_2, List.forall_mem_cons.mpr ⟨wm_lay_X1_3, List.forall_mem_cons.mpr ⟨wm_lay_X1_4, List.forall_mem_cons.mpr ⟨wm_lay_X1_5, List.forall_mem_cons.mpr ⟨wm_lay_X1_6, List.forall_mem_cons.mpr ⟨wm_lay_X1_7, List.forall_mem_cons.mpr ⟨wm_lay_X1_8, List.forall_mem_cons.mpr ⟨wm_lay_X1_9, List.forall_mem_cons.mpr ⟨wm_lay_X1_10, List.forall_mem_cons.mpr ⟨wm_lay_X1_11, List.forall_mem_cons.mpr ⟨wm_lay_X1_12, fun _ h => absurd h List.not_mem_nil⟩⟩⟩⟩⟩⟩⟩⟩⟩⟩⟩⟩⟩
theorem wm_lay_X2_0 : u_lay RX2 TX2 0 ∈ wL := List.mem_filter.mpr ⟨wL_t1 _ (List.mem_of_getElem? (i := 102) rfl), rfl⟩
theorem wm_lay_X2_1 : u_lay RX2 TX2 1 ∈ wL := List.mem_filter.mpr ⟨wL_t1 _ (List.mem_of_getElem? (i := 104) rfl), rfl⟩
theorem inlX2 : ∀ w ∈ u_ws RX2 TX2 2, w ∈ wL := by
  show ∀ w ∈ [u_lay RX2 TX2 0, u_lay RX2 TX2 1], w ∈ wL
  exact List.forall_mem_cons.mpr ⟨wm_lay_X2_0, List.forall_mem_cons.mpr ⟨wm_lay_X2_1, fun _ h => absurd h List.not_mem_nil⟩⟩
theorem wm_lay_X3_0 : u_lay RX3 TX3 0 ∈ wL := List.mem_filter.mpr ⟨wL_t1 _ (List.mem_of_getElem? (i := 181) rfl), rfl⟩
theorem wm_lay_X3_1 : u_lay RX3 TX3 1 ∈ wL := List.mem_filter.mpr ⟨wL_t1 _ (List.mem_of_getElem? (i := 183) rfl), rfl⟩
theorem wm_lay_X3_2 : u_lay RX3 TX3 2 ∈ wL := List.mem_filter.mpr ⟨wL_t1 _ (List.mem_of_getElem? (i := 185) rfl), rfl⟩
theorem wm_lay_X3_3 : u_lay RX3 TX3 3 ∈ wL := List.mem_filter.mpr ⟨wL_t1 _ (List.mem_of_getElem? (i := 187) rfl), rfl⟩
theorem wm_lay_X3_4 : u_lay RX3 TX3 4 ∈ wL := List.mem_filter.mpr ⟨wL_t1 _ (List.mem_of_getElem? (i := 189) rfl), rfl⟩
theorem wm_lay_X3_5 : u_lay RX3 TX3 5 ∈ wL := List.mem_filter.mpr ⟨wL_t1 _ (List.mem_of_getElem? (i := 191) rfl), rfl⟩
theorem wm_lay_X3_6 : u_lay RX3 TX3 6 ∈ wL := List.mem_filter.mpr ⟨wL_t1 _ (List.mem_of_getElem? (i := 193) rfl), rfl⟩
theorem wm_lay_X3_7 : u_lay RX3 TX3 7 ∈ wL := List.mem_filter.mpr ⟨wL_t1 _ (List.mem_of_getElem? (i := 195) rfl), rfl⟩
theorem wm_lay_X3_8 : u_lay RX3 TX3 8 ∈ wL := List.mem_filter.mpr ⟨wL_t1 _ (List.mem_of_getElem? (i := 197) rfl), rfl⟩
theorem wm_lay_X3_9 : u_lay RX3 TX3 9 ∈ wL := List.mem_filter.mpr ⟨wL_t1 _ (List.mem_of_getElem? (i := 199) rfl), rfl⟩
theorem inlX3 : ∀ w ∈ u_ws RX3 TX3 10, w ∈ wL := by
  show ∀ w ∈ [u_lay RX3 TX3 0, u_lay RX3 TX3 1, u_lay RX3 TX3 2, u_lay RX3 TX3 3, u_lay RX3 TX3 4, u_lay RX3 TX3 5, u_lay RX3 TX3 6, u_lay RX3 TX3 7, u_lay RX3 TX3 8, u_lay RX3 TX3 9], w ∈ wL
  exact List.forall_mem_cons.mpr ⟨wm_lay_X3_0, List.forall_mem_cons.mpr ⟨wm_lay_X3_1, List.forall_mem_cons.mpr ⟨wm_lay_X3_2, List.forall_mem_cons.mpr ⟨wm_lay_X3_3, List.forall_mem_cons.mpr ⟨wm_lay_X3_4, List.forall_mem_cons.mpr ⟨wm_lay_X3_5, List.forall_mem_cons.mpr ⟨wm_lay_X3_6, List.forall_mem_cons.mpr ⟨wm_lay_X3_7, List.forall_mem_cons.mpr ⟨wm_lay_X3_8, List.forall_mem_cons.mpr ⟨wm_lay_X3_9, fun _ h => absurd h List.not_mem_nil⟩⟩⟩⟩⟩⟩⟩⟩⟩⟩
theorem wm_lay_X4_0 : u_lay RX4 TX4 0 ∈ wL := List.mem_filter.mpr ⟨wL_t1 _ (List.mem_of_getElem? (i := 64) rfl), rfl⟩
theorem wm_lay_X4_1 : u_lay RX4 TX4 1 ∈ wL := List.mem_filter.mpr ⟨wL_t1 _ (List.mem_of_getElem? (i := 66) rfl), rfl⟩
theorem wm_lay_X4_2 : u_lay RX4 TX4 2 ∈ wL := List.mem_filter.mpr ⟨wL_t1 _ (List.mem_of_getElem? (i := 68) rfl), rfl⟩
theorem wm_lay_X4_3 : u_lay RX4 TX4 3 ∈ wL := List.mem_filter.mpr ⟨wL_t1 _ (List.mem_of_getElem? (i := 70) rfl), rfl⟩
theorem wm_lay_X4_4 : u_lay RX4 TX4 4 ∈ wL := List.mem_filter.mpr ⟨wL_t1 _ (List.mem_of_getElem? (i := 72) rfl), rfl⟩
theorem wm_lay_X4_5 : u_lay RX4 TX4 5 ∈ wL := List.mem_filter.mpr ⟨wL_t1 _ (List.mem_of_getElem? (i := 74) rfl), rfl⟩
theorem wm_lay_X4_6 : u_lay RX4 TX4 6 ∈ wL := List.mem_filter.mpr ⟨wL_t1 _ (List.mem_of_getElem? (i := 76) rfl), rfl⟩
theorem wm_lay_X4_7 : u_lay RX4 TX4 7 ∈ wL := List.mem_filter.mpr ⟨wL_t1 _ (List.mem_of_getElem? (i := 78) rfl), rfl⟩
theorem wm_lay_X4_8 : u_lay RX4 TX4 8 ∈ wL := List.mem_filter.mpr ⟨wL_t1 _ (List.mem_of_getElem? (i := 80) rfl), rfl⟩
theorem wm_lay_X4_9 : u_lay RX4 TX4 9 ∈ wL := List.mem_filter.mpr ⟨wL_t1 _ (List.mem_of_getElem? (i := 82) rfl), rfl⟩
theorem wm_lay_X4_10 : u_lay RX4 TX4 10 ∈ wL := List.mem_filter.mpr ⟨wL_t1 _ (List.mem_of_getElem? (i := 84) rfl), rfl⟩
theorem wm_lay_X4_11 : u_lay RX4 TX4 11 ∈ wL := List.mem_filter.mpr ⟨wL_t1 _ (List.mem_of_getElem? (i := 86) rfl), rfl⟩
theorem inlX4 : ∀ w ∈ u_ws RX4 TX4 12, w ∈ wL := by
  show ∀ w ∈ [u_lay RX4 TX4 0, u_lay RX4 TX4 1, u_lay RX4 TX4 2, u_lay RX4 TX4 3, u_lay RX4 TX4 4, u_lay RX4 TX4 5, u_lay RX4 TX4 6, u_lay RX4 TX4 7, u_lay RX4 TX4 8, u_lay RX4 TX4 9, u_lay RX4 TX4 10, u_lay RX4 TX4 11], w ∈ wL
  exact List.forall_mem_cons.mpr ⟨wm_lay_X4_0, List.forall_mem_cons.mpr ⟨wm_lay_X4_1, List.forall_mem_cons.mpr ⟨wm_lay_X4_2, List.forall_mem_cons.mpr ⟨wm_lay_X4_3, List.forall_mem_cons.mpr ⟨wm_lay_X4_4, List.forall_mem_cons.mpr ⟨wm_lay_X4_5, List.forall_mem_cons.mpr ⟨wm_lay_X4_6, List.forall_mem_cons.mpr ⟨wm_lay_X4_7, List.forall_mem_cons.mpr ⟨wm_lay_X4_8, List.forall_mem_cons.mpr ⟨wm_lay_X4_9, List.forall_mem_cons.mpr ⟨wm_lay_X4_10, List.forall_mem_cons.mpr ⟨wm_lay_X4_11, fun _ h => absurd h List.not_mem_nil⟩⟩⟩⟩⟩⟩⟩⟩⟩⟩⟩⟩
theorem wm_lay_X5_0 : u_lay RX5 TX5 0 ∈ wL := List.mem_filter.mpr ⟨wL_t1 _ (List.mem_of_getElem? (i := 219) rfl), rfl⟩
theorem wm_lay_X5_1 : u_lay RX5 TX5 1 ∈ wL := List.mem_filter.mpr ⟨wL_t1 _ (List.mem_of_getElem? (i := 221) rfl), rfl⟩
theorem wm_lay_X5_2 : u_lay RX5 TX5 2 ∈ wL := List.mem_filter.mpr ⟨wL_t1 _ (List.mem_of_getElem? (i := 223) rfl), rfl⟩
theorem wm_lay_X5_3 : u_lay RX5 TX5 3 ∈ wL := List.mem_filter.mpr ⟨wL_t1 _ (List.mem_of_getElem? (i := 225) rfl), rfl⟩
theorem wm_lay_X5_4 : u_lay RX5 TX5 4 ∈ wL := List.mem_filter.mpr ⟨wL_t1 _ (List.mem_of_getElem? (i := 227) rfl), rfl⟩
theorem wm_lay_X5_5 : u_lay RX5 TX5 5 ∈ wL := List.mem_filter.mpr ⟨wL_t1 _ (List.mem_of_getElem? (i := 229) rfl), rfl⟩
theorem wm_lay_X5_6 : u_lay RX5 TX5 6 ∈ wL := List.mem_filter.mpr ⟨wL_t1 _ (List.mem_of_getElem? (i := 231) rfl), rfl⟩
theorem inlX5 : ∀ w ∈ u_ws RX5 TX5 7, w ∈ wL := by
  show ∀ w ∈ [u_lay RX5 TX5 0, u_lay RX5 TX5 1, u_lay RX5 TX5 2, u_lay RX5 TX5 3, u_lay RX5 TX5 4, u_lay RX5 TX5 5, u_lay RX5 TX5 6], w ∈ wL
  exact List.forall_mem_cons.mpr ⟨wm_lay_X5_0, List.forall_mem_cons.mpr ⟨wm_lay_X5_1, List.forall_mem_cons.mpr ⟨wm_lay_X5_2, List.forall_mem_cons.mpr ⟨wm_lay_X5_3, List.forall_mem_cons.mpr ⟨wm_lay_X5_4, List.forall_mem_cons.mpr ⟨wm_lay_X5_5, List.forall_mem_cons.mpr ⟨wm_lay_X5_6, fun _ h => absurd h List.not_mem_nil⟩⟩⟩⟩⟩⟩⟩
theorem wm_lay_X6_0 : u_lay RX6 TX6 0 ∈ wL := List.mem_filter.mpr ⟨wL_t2 _ (List.mem_of_getElem? (i := 24) rfl), rfl⟩
theorem wm_lay_X6_1 : u_lay RX6 TX6 1 ∈ wL := List.mem_filter.mpr ⟨wL_t2 _ (List.mem_of_getElem? (i := 26) rfl), rfl⟩
theorem wm_lay_X6_2 : u_lay RX6 TX6 2 ∈ wL := List.mem_filter.mpr ⟨wL_t2 _ (List.mem_of_getElem? (i := 28) rfl), rfl⟩
theorem wm_lay_X6_3 : u_lay RX6 TX6 3 ∈ wL := List.mem_filter.mpr ⟨wL_t2 _ (List.mem_of_getElem? (i := 30) rfl), rfl⟩
theorem inlX6 : ∀ w ∈ u_ws RX6 TX6 4, w ∈ wL := by
  show ∀ w ∈ [u_lay RX6 TX6 0, u_lay RX6 TX6 1, u_lay RX6 TX6 2, u_lay RX6 TX6 3], w ∈ wL
  exact List.forall_mem_cons.mpr ⟨wm_lay_X6_0, List.forall_mem_cons.mpr ⟨wm_lay_X6_1, List.forall_mem_cons.mpr ⟨wm_lay_X6_2, List.forall_mem_cons.mpr ⟨wm_lay_X6_3, fun _ h => absurd h List.not_mem_nil⟩⟩⟩⟩
theorem wm_lay_X7_0 : u_lay RX7 TX7 0 ∈ wL := List.mem_filter.mpr ⟨wL_t2 _ (List.mem_of_getElem? (i := 42) rfl), rfl⟩
theorem wm_lay_X7_1 : u_lay RX7 TX7 1 ∈ wL := List.mem_filter.mpr ⟨wL_t2 _ (List.mem_of_getElem? (i := 44) rfl), rfl⟩
theorem wm_lay_X7_2 : u_lay RX7 TX7 2 ∈ wL := List.mem_filter.mpr ⟨wL_t2 _ (List.mem_of_getElem? (i := 46) rfl), rfl⟩
theorem wm_lay_X7_3 : u_lay RX7 TX7 3 ∈ wL := List.mem_filter.mpr ⟨wL_t2 _ (List.mem_of_getElem? (i := 48) rfl), rfl⟩
theorem wm_lay_X7_4 : u_lay RX7 TX7 4 ∈ wL := List.mem_filter.mpr ⟨wL_t2 _ (List.mem_of_getElem? (i := 50) rfl), rfl⟩
theorem wm_lay_X7_5 : u_lay RX7 TX7 5 ∈ wL := List.mem_filter.mpr ⟨wL_t2 _ (List.mem_of_getElem? (i := 52) rfl), rfl⟩
theorem wm_lay_X7_6 : u_lay RX7 TX7 6 ∈ wL := List.mem_filter.mpr ⟨wL_t2 _ (List.mem_of_getElem? (i := 54) rfl), rfl⟩
theorem wm_lay_X7_7 : u_lay RX7 TX7 7 ∈ wL := List.mem_filter.mpr ⟨wL_t2 _ (List.mem_of_getElem? (i := 56) rfl), rfl⟩
theorem wm_lay_X7_8 : u_lay RX7 TX7 8 ∈ wL := List.mem_filter.mpr ⟨wL_t2 _ (List.mem_of_getElem? (i := 58) rfl), rfl⟩
theorem inlX7 : ∀ w ∈ u_ws RX7 TX7 9, w ∈ wL := by
  show ∀ w ∈ [u_lay RX7 TX7 0, u_lay RX7 TX7 1, u_lay RX7 TX7 2, u_lay RX7 TX7 3, u_lay RX7 TX7 4, u_lay RX7 TX7 5, u_lay RX7 TX7 6, u_lay RX7 TX7 7, u_lay RX7 TX7 8], w ∈ wL
  exact List.forall_mem_cons.mpr ⟨wm_lay_X7_0, List.forall_mem_cons.mpr ⟨wm_lay_X7_1, List.forall_mem_cons.mpr ⟨wm_lay_X7_2, List.forall_mem_cons.mpr ⟨wm_lay_X7_3, List.forall_mem_cons.mpr ⟨wm_lay_X7_4, List.forall_mem_cons.mpr ⟨wm_lay_X7_5, List.forall_mem_cons.mpr ⟨wm_lay_X7_6, List.forall_mem_cons.mpr ⟨wm_lay_X7_7, List.forall_mem_cons.mpr ⟨wm_lay_X7_8, fun _ h => absurd h List.not_mem_nil⟩⟩⟩⟩⟩⟩⟩⟩⟩
theorem wm_lay_X8_0 : u_lay RX8 TX8 0 ∈ wL := List.mem_filter.mpr ⟨wL_t4 _ (List.mem_of_getElem? (i := 107) rfl), rfl⟩
theorem wm_lay_X8_1 : u_lay RX8 TX8 1 ∈ wL := List.mem_filter.mpr ⟨wL_t4 _ (List.mem_of_getElem? (i := 109) rfl), rfl⟩
theorem wm_lay_X8_2 : u_lay RX8 TX8 2 ∈ wL := List.mem_filter.mpr ⟨wL_t4 _ (List.mem_of_getElem? (i := 111) rfl), rfl⟩
theorem wm_lay_X8_3 : u_lay RX8 TX8 3 ∈ wL := List.mem_filter.mpr ⟨wL_t4 _ (List.mem_of_getElem? (i := 113) rfl), rfl⟩
theorem wm_lay_X8_4 : u_lay RX8 TX8 4 ∈ wL := List.mem_filter.mpr ⟨wL_t4 _ (List.mem_of_getElem? (i := 115) rfl), rfl⟩
theorem wm_lay_X8_5 : u_lay RX8 TX8 5 ∈ wL := List.mem_filter.mpr ⟨wL_t4 _ (List.mem_of_getElem? (i := 117) rfl), rfl⟩
theorem wm_lay_X8_6 : u_lay RX8 TX8 6 ∈ wL := List.mem_filter.mpr ⟨wL_t4 _ (List.mem_of_getElem? (i := 119) rfl), rfl⟩
theorem wm_lay_X8_7 : u_lay RX8 TX8 7 ∈ wL := List.mem_filter.mpr ⟨wL_t4 _ (List.mem_of_getElem? (i := 121) rfl), rfl⟩
theorem wm_lay_X8_8 : u_lay RX8 TX8 8 ∈ wL := List.mem_filter.mpr ⟨wL_t4 _ (List.mem_of_getElem? (i := 123) rfl), rfl⟩
theorem wm_lay_X8_9 : u_lay RX8 TX8 9 ∈ wL := List.mem_filter.mpr ⟨wL_t4 _ (List.mem_of_getElem? (i := 125) rfl), rfl⟩
theorem wm_lay_X8_10 : u_lay RX8 TX8 10 ∈ wL := List.mem_filter.mpr ⟨wL_t4 _ (List.mem_of_getElem? (i := 127) rfl), rfl⟩
theorem wm_lay_X8_11 : u_lay RX8 TX8 11 ∈ wL := List.mem_filter.mpr ⟨wL_t4 _ (List.mem_of_getElem? (i := 129) rfl), rfl⟩
theorem wm_lay_X8_12 : u_lay RX8 TX8 12 ∈ wL := List.mem_filter.mpr ⟨wL_t4 _ (List.mem_of_getElem? (i := 131) rfl), rfl⟩
theorem wm_lay_X8_13 : u_lay RX8 TX8 13 ∈ wL := List.mem_filter.mpr ⟨wL_t4 _ (List.mem_of_getElem? (i := 133) rfl), rfl⟩
theorem wm_lay_X8_14 : u_lay RX8 TX8 14 ∈ wL := List.mem_filter.mpr ⟨wL_t4 _ (List.mem_of_getElem? (i := 135) rfl), rfl⟩
theorem wm_lay_X8_15 : u_lay RX8 TX8 15 ∈ wL := List.mem_filter.mpr ⟨wL_t4 _ (List.mem_of_getElem? (i := 137) rfl), rfl⟩
theorem wm_lay_X8_16 : u_lay RX8 TX8 16 ∈ wL := List.mem_filter.mpr ⟨wL_t4 _ (List.mem_of_getElem? (i := 139) rfl), rfl⟩
theorem wm_lay_X8_17 : u_lay RX8 TX8 17 ∈ wL := List.mem_filter.mpr ⟨wL_t4 _ (List.mem_of_getElem? (i := 141) rfl), rfl⟩
theorem wm_lay_X8_18 : u_lay RX8 TX8 18 ∈ wL := List.mem_filter.mpr ⟨wL_t4 _ (List.mem_of_getElem? (i := 143) rfl), rfl⟩
theorem wm_lay_X8_19 : u_lay RX8 TX8 19 ∈ wL := List.mem_filter.mpr ⟨wL_t4 _ (List.mem_of_getElem? (i := 145) rfl), rfl⟩
theorem wm_lay_X8_20 : u_lay RX8 TX8 20 ∈ wL := List.mem_filter.mpr ⟨wL_t4 _ (List.mem_of_getElem? (i := 147) rfl), rfl⟩
theorem wm_lay_X8_21 : u_lay RX8 TX8 21 ∈ wL := List.mem_filter.mpr ⟨wL_t4 _ (List.mem_of_getElem? (i := 149) rfl), rfl⟩
theorem wm_lay_X8_22 : u_lay RX8 TX8 22 ∈ wL := List.mem_filter.mpr ⟨wL_t4 _ (List.mem_of_getElem? (i := 151) rfl), rfl⟩
theorem wm_lay_X8_23 : u_lay RX8 TX8 23 ∈ wL := List.mem_filter.mpr ⟨wL_t4 _ (List.mem_of_getElem? (i := 153) rfl), rfl⟩
theorem wm_lay_X8_24 : u_lay RX8 TX8 24 ∈ wL := List.mem_filter.mpr ⟨wL_t4 _ (List.mem_of_getElem? (i := 155) rfl), rfl⟩
theorem wm_lay_X8_25 : u_lay RX8 TX8 25 ∈ wL := List.mem_filter.mpr ⟨wL_t4 _ (List.mem_of_getElem? (i := 157) rfl), rfl⟩
theorem wm_lay_X8_26 : u_lay RX8 TX8 26 ∈ wL := List.mem_filter.mpr ⟨wL_t4 _ (List.mem_of_getElem? (i := 159) rfl), rfl⟩
theorem wm_lay_X8_27 : u_lay RX8 TX8 27 ∈ wL := List.mem_filter.mpr ⟨wL_t4 _ (List.mem_of_getElem? (i := 161) rfl), rfl⟩
theorem wm_lay_X8_28 : u_lay RX8 TX8 28 ∈ wL := List.mem_filter.mpr ⟨wL_t4 _ (List.mem_of_getElem? (i := 163) rfl), rfl⟩
theorem wm_lay_X8_29 : u_lay RX8 TX8 29 ∈ wL := List.mem_filter.mpr ⟨wL_t4 _ (List.mem_of_getElem? (i := 165) rfl), rfl⟩
theorem wm_lay_X8_30 : u_lay RX8 TX8 30 ∈ wL := List.mem_filter.mpr ⟨wL_t4 _ (List.mem_of_getElem? (i := 167) rfl), rfl⟩
theorem wm_lay_X8_31 : u_lay RX8 TX8 31 ∈ wL := List.mem_filter.mpr ⟨wL_t4 _ (List.mem_of_getElem? (i := 169) rfl), rfl⟩
theorem wm_lay_X8_32 : u_lay RX8 TX8 32 ∈ wL := List.mem_filter.mpr ⟨wL_t4 _ (List.mem_of_getElem? (i := 171) rfl), rfl⟩
theorem wm_lay_X8_33 : u_lay RX8 TX8 33 ∈ wL := List.mem_filter.mpr ⟨wL_t4 _ (List.mem_of_getElem? (i := 173) rfl), rfl⟩
theorem wm_lay_X8_34 : u_lay RX8 TX8 34 ∈ wL := List.mem_filter.mpr ⟨wL_t4 _ (List.mem_of_getElem? (i := 175) rfl), rfl⟩
theorem wm_lay_X8_35 : u_lay RX8 TX8 35 ∈ wL := List.mem_filter.mpr ⟨wL_t4 _ (List.mem_of_getElem? (i := 177) rfl), rfl⟩
theorem wm_lay_X8_36 : u_lay RX8 TX8 36 ∈ wL := List.mem_filter.mpr ⟨wL_t4 _ (List.mem_of_getElem? (i := 179) rfl), rfl⟩
theorem wm_lay_X8_37 : u_lay RX8 TX8 37 ∈ wL := List.mem_filter.mpr ⟨wL_t4 _ (List.mem_of_getElem? (i := 181) rfl), rfl⟩
theorem wm_lay_X8_38 : u_lay RX8 TX8 38 ∈ wL := List.mem_filter.mpr ⟨wL_t4 _ (List.mem_of_getElem? (i := 183) rfl), rfl⟩
theorem wm_lay_X8_39 : u_lay RX8 TX8 39 ∈ wL := List.mem_filter.mpr ⟨wL_t4 _ (List.mem_of_getElem? (i := 185) rfl), rfl⟩
theorem wm_lay_X8_40 : u_lay RX8 TX8 40 ∈ wL := List.mem_filter.mpr ⟨wL_t4 _ (List.mem_of_getElem? (i := 187) rfl), rfl⟩
theorem inlX8 : ∀ w ∈ u_ws RX8 TX8 41, w ∈ wL := by
  show ∀ w ∈ [u_lay RX8 TX8 0, u_lay RX8 TX8 1, u_lay RX8 TX8 2, u_lay RX8 TX8 3, u_lay RX8 TX8 4, u_lay RX8 TX8 5, u_lay RX8 TX8 6, u_lay RX8 TX8 7, u_lay RX8 TX8 8, u_lay RX8 TX8 9, u_lay RX8 TX8 10, u_lay RX8 TX8 11, u_lay RX8 TX8 12, u_lay RX8 TX8 13, u_lay RX8 TX8 14, u_lay RX8 TX8 15, u_lay RX8 TX8 16, u_lay RX8 TX8 17, u_lay RX8 TX8 18, u_lay RX8 TX8 19, u_lay RX8 TX8 20, u_lay RX8 TX8 21, u_lay RX8 TX8 22, u_lay RX8 TX8 23, u_lay RX8 TX8 24, u_lay RX8 TX8 25, u_lay RX8 TX8 26, u_lay RX8 TX8 27, u_lay RX8 TX8 28, u_lay RX8 TX8 29, u_lay RX8 TX8 30, u_lay RX8 TX8 31, u_lay RX8 TX8 32, u_lay RX8 TX8 33, u_lay RX8 TX8 34, u_lay RX8 TX8 35, u_lay RX8 TX8 36, u_lay RX8 TX8 37, u_lay RX8 TX8 38, u_lay RX8 TX8 39, u_lay RX8 TX8 40], w ∈ wL
  exact List.forall_mem_cons.mpr ⟨wm_lay_X8_0, List.forall_mem_cons.mpr ⟨wm_lay_X8_1, List.forall_mem_cons.mpr ⟨wm_lay_X8_2, List.forall_mem_cons.mpr ⟨wm_lay_X8_3, List.forall_mem_cons.mpr ⟨wm_lay_X8_4, List.forall_mem_cons.mpr ⟨wm_lay_X8_5, List.forall_mem_cons.mpr ⟨wm_lay_X8_6, List.forall_mem_cons.mpr ⟨wm_lay_X8_7, List.forall_mem_cons.mpr ⟨wm_lay_X8_8, List.forall_mem_cons.mpr ⟨wm_lay_X8_9, List.forall_mem_cons.mpr ⟨wm_lay_X8_10, List.forall_mem_cons.mpr ⟨wm_lay_X8_11, List.forall_mem_cons.mpr ⟨wm_lay_X8_12, List.forall_mem_cons.mpr ⟨wm_lay_X8_13, List.forall_mem_cons.mpr ⟨wm_lay_X8_14, List.forall_mem_cons.mpr ⟨wm_lay_X8_15, List.forall_mem_cons.mpr ⟨wm_lay_X8_16, List.forall_mem_cons.mpr ⟨wm_lay_X8_17, List.forall_mem_cons.mpr ⟨wm_lay_X8_18, List.forall_mem_cons.mpr ⟨wm_lay_X8_19, List.forall_mem_cons.mpr ⟨wm_lay_X8_20, List.forall_mem_cons.mpr ⟨wm_lay_X8_21, List.forall_mem_cons.mpr ⟨wm_lay_X8_22, List.forall_mem_cons.mpr ⟨wm_lay_X8_23, List.forall_mem_cons.mpr ⟨wm_lay_X8_24, List.forall_mem_cons.mpr ⟨wm_lay_X8_25, List.forall_mem_cons.mpr ⟨wm_lay_X8_26, List.forall_mem_cons.mpr ⟨wm_lay_X8_27, List.forall_mem_cons.mpr ⟨wm_lay_X8_28, List.forall_mem_cons.mpr ⟨wm_lay_X8_29, List.forall_mem_cons.mpr ⟨wm_lay_X8_30, List.forall_mem_cons.mpr ⟨wm_lay_X8_31, List.forall_mem_cons.mpr ⟨wm_lay_X8_32, List.forall_mem_cons.mpr ⟨wm_lay_X8_33, List.forall_mem_cons.mpr ⟨wm_lay_X8_34, List.forall_mem_cons.mpr ⟨wm_lay_X8_35, List.forall_mem_cons.mpr ⟨wm_lay_X8_36, List.forall_mem_cons.mpr ⟨wm_lay_X8_37, List.forall_mem_cons.mpr ⟨wm_lay_X8_38, List.forall_mem_cons.mpr ⟨wm_lay_X8_39, List.forall_mem_cons.mpr ⟨wm_lay_X8_40, fun _ h => absurd h List.not_mem_nil⟩⟩⟩⟩⟩⟩⟩⟩⟩⟩⟩⟩⟩⟩⟩⟩⟩⟩⟩⟩⟩⟩⟩⟩⟩⟩⟩⟩⟩⟩⟩⟩⟩⟩⟩⟩⟩⟩⟩⟩⟩
def wL_nest : List Cond := [Cond.methodLinkNest RX7 26 yX2_init RX7, Cond.methodLinkNest RX7 33 yX1_init RX7, Cond.methodLinkNest RX7 40 yX3_init RX7, Cond.methodLinkNest RX7 47 yX5_init RX7, Cond.methodLinkNest RX7 54 yX0_init RX7, Cond.methodLinkNest RX7 61 yX6_init RX7, Cond.methodLinkNest RX2 31 yX7_within RX7, Cond.methodLinkNest RX1 107 yX7_holds RX7, Cond.methodLinkNest RX4 83 yX7_holds RX7, Cond.methodLinkNest RX3 65 yX7_subsetsOf RX7, Cond.methodLinkNest RX3 75 yX7_nextSubset RX7, Cond.methodLinkNest RX5 66 yX7_holds RX7, Cond.methodLinkNest RX5 70 yX7_balance RX7, Cond.methodLinkNest RX0 23 yX7_subsetsOf RX7, Cond.methodLinkNest RX0 34 yX7_nextSubset RX7]
theorem wq_X7_26 : Cond.methodLinkNest RX7 26 yX2_init RX7 ∈ lw_tbl := wL_t1 _ (List.mem_of_getElem? (i := 93) rfl)
theorem wq_X7_33 : Cond.methodLinkNest RX7 33 yX1_init RX7 ∈ lw_tbl := wL_t1 _ (List.mem_of_getElem? (i := 110) rfl)
theorem wq_X7_40 : Cond.methodLinkNest RX7 40 yX3_init RX7 ∈ lw_tbl := wL_t1 _ (List.mem_of_getElem? (i := 161) rfl)
theorem wq_X7_47 : Cond.methodLinkNest RX7 47 yX5_init RX7 ∈ lw_tbl := wL_t1 _ (List.mem_of_getElem? (i := 205) rfl)
theorem wq_X7_54 : Cond.methodLinkNest RX7 54 yX0_init RX7 ∈ lw_tbl := wL_t1 _ (List.mem_of_getElem? (i := 236) rfl)
theorem wq_X7_61 : Cond.methodLinkNest RX7 61 yX6_init RX7 ∈ lw_tbl := wL_t2 _ (List.mem_of_getElem? (i := 11) rfl)
theorem wq_X2_31 : Cond.methodLinkNest RX2 31 yX7_within RX7 ∈ lw_tbl := wL_t2 _ (List.mem_of_getElem? (i := 158) rfl)
theorem wq_X1_107 : Cond.methodLinkNest RX1 107 yX7_holds RX7 ∈ lw_tbl := wL_t2 _ (List.mem_of_getElem? (i := 195) rfl)
theorem wq_X4_83 : Cond.methodLinkNest RX4 83 yX7_holds RX7 ∈ lw_tbl := wL_t2 _ (List.mem_of_getElem? (i := 237) rfl)
theorem wq_X3_65 : Cond.methodLinkNest RX3 65 yX7_subsetsOf RX7 ∈ lw_tbl := wL_t3 _ (List.mem_of_getElem? (i := 85) rfl)
theorem wq_X3_75 : Cond.methodLinkNest RX3 75 yX7_nextSubset RX7 ∈ lw_tbl := wL_t3 _ (List.mem_of_getElem? (i := 108) rfl)
theorem wq_X5_66 : Cond.methodLinkNest RX5 66 yX7_holds RX7 ∈ lw_tbl := wL_t3 _ (List.mem_of_getElem? (i := 196) rfl)
theorem wq_X5_70 : Cond.methodLinkNest RX5 70 yX7_balance RX7 ∈ lw_tbl := wL_t3 _ (List.mem_of_getElem? (i := 197) rfl)
theorem wq_X0_23 : Cond.methodLinkNest RX0 23 yX7_subsetsOf RX7 ∈ lw_tbl := wL_t4 _ (List.mem_of_getElem? (i := 4) rfl)
theorem wq_X0_34 : Cond.methodLinkNest RX0 34 yX7_nextSubset RX7 ∈ lw_tbl := wL_t4 _ (List.mem_of_getElem? (i := 8) rfl)
theorem wL_nest_in : ∀ w ∈ wL_nest, w ∈ lw_tbl := List.forall_mem_cons.mpr ⟨wq_X7_26, List.forall_mem_cons.mpr ⟨wq_X7_33, List.forall_mem_cons.mpr ⟨wq_X7_40, List.forall_mem_cons.mpr ⟨wq_X7_47, List.forall_mem_cons.mpr ⟨wq_X7_54, List.forall_mem_cons.mpr ⟨wq_X7_61, List.forall_mem_cons.mpr ⟨wq_X2_31, List.forall_mem_cons.mpr ⟨wq_X1_107, List.forall_mem_cons.mpr ⟨wq_X4_83, List.forall_mem_cons.mpr ⟨wq_X3_65, List.forall_mem_cons.mpr ⟨wq_X3_75, List.forall_mem_cons.mpr ⟨wq_X5_66, List.forall_mem_cons.mpr ⟨wq_X5_70, List.forall_mem_cons.mpr ⟨wq_X0_23, List.forall_mem_cons.mpr ⟨wq_X0_34, fun _ h => absurd h List.not_mem_nil⟩⟩⟩⟩⟩⟩⟩⟩⟩⟩⟩⟩⟩⟩⟩
theorem wn_X7_26 : Cond.methodLinkNest RX7 26 yX2_init RX7 ∈ wL_nest := List.mem_of_getElem? (i := 0) rfl
theorem wn_X7_33 : Cond.methodLinkNest RX7 33 yX1_init RX7 ∈ wL_nest := List.mem_of_getElem? (i := 1) rfl
theorem wn_X7_40 : Cond.methodLinkNest RX7 40 yX3_init RX7 ∈ wL_nest := List.mem_of_getElem? (i := 2) rfl
theorem wn_X7_47 : Cond.methodLinkNest RX7 47 yX5_init RX7 ∈ wL_nest := List.mem_of_getElem? (i := 3) rfl
theorem wn_X7_54 : Cond.methodLinkNest RX7 54 yX0_init RX7 ∈ wL_nest := List.mem_of_getElem? (i := 4) rfl
theorem wn_X7_61 : Cond.methodLinkNest RX7 61 yX6_init RX7 ∈ wL_nest := List.mem_of_getElem? (i := 5) rfl
theorem wn_X2_31 : Cond.methodLinkNest RX2 31 yX7_within RX7 ∈ wL_nest := List.mem_of_getElem? (i := 6) rfl
theorem wn_X1_107 : Cond.methodLinkNest RX1 107 yX7_holds RX7 ∈ wL_nest := List.mem_of_getElem? (i := 7) rfl
theorem wn_X4_83 : Cond.methodLinkNest RX4 83 yX7_holds RX7 ∈ wL_nest := List.mem_of_getElem? (i := 8) rfl
theorem wn_X3_65 : Cond.methodLinkNest RX3 65 yX7_subsetsOf RX7 ∈ wL_nest := List.mem_of_getElem? (i := 9) rfl
theorem wn_X3_75 : Cond.methodLinkNest RX3 75 yX7_nextSubset RX7 ∈ wL_nest := List.mem_of_getElem? (i := 10) rfl
theorem wn_X5_66 : Cond.methodLinkNest RX5 66 yX7_holds RX7 ∈ wL_nest := List.mem_of_getElem? (i := 11) rfl
theorem wn_X5_70 : Cond.methodLinkNest RX5 70 yX7_balance RX7 ∈ wL_nest := List.mem_of_getElem? (i := 12) rfl
theorem wn_X0_23 : Cond.methodLinkNest RX0 23 yX7_subsetsOf RX7 ∈ wL_nest := List.mem_of_getElem? (i := 13) rfl
theorem wn_X0_34 : Cond.methodLinkNest RX0 34 yX7_nextSubset RX7 ∈ wL_nest := List.mem_of_getElem? (i := 14) rfl
