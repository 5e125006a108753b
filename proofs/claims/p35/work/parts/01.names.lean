def RX0 : String := "GivenGoesOn$Book"
def TX0 : u_T := fun k => match k with
  | 0 => ("GivenGoesOn$Book", "written", "[I", true)
  | 1 => ("GivenGoesOn$Book", "home", "I", false)
  | _ => ("GivenGoesOn$Book", "length", "I", false)
def tyX0 : Nat → FieldType := fun k => match k with
  | 0 => .array .int
  | 1 => .int
  | _ => .int
theorem nmX0 : ∀ a, a < 3 → ∀ b, b < 3 → a ≠ b → (TX0 a).2.1 ≠ (TX0 b).2.1 := by decide +kernel
theorem tyX0_ok : ∀ k, k < 3 → parseFieldDescriptor (TX0 k).2.2.1 = some (tyX0 k) := by decide +kernel
abbrev cX0_init : ByteArray := prog_2_method_1_code
def yX0_init : MethodName := ⟨RX0, "<init>", "()V"⟩
def RX1 : String := "GivenGoesOn$Circle"
def TX1 : u_T := fun k => match k with
  | 0 => ("GivenGoesOn$Circle", "most", "[I", true)
  | _ => ("GivenGoesOn$Circle", "to", "[I", true)
def tyX1 : Nat → FieldType := fun k => match k with
  | 0 => .array .int
  | _ => .array .int
theorem nmX1 : ∀ a, a < 2 → ∀ b, b < 2 → a ≠ b → (TX1 a).2.1 ≠ (TX1 b).2.1 := by decide +kernel
theorem tyX1_ok : ∀ k, k < 2 → parseFieldDescriptor (TX1 k).2.2.1 = some (tyX1 k) := by decide +kernel
abbrev cX1_init : ByteArray := prog_3_method_1_code
def yX1_init : MethodName := ⟨RX1, "<init>", "()V"⟩
def RX2 : String := "GivenGoesOn$Draws"
def TX2 : u_T := fun k => match k with
  | _ => ("GivenGoesOn$Draws", "seed", "J", false)
def tyX2 : Nat → FieldType := fun k => match k with
  | _ => .long
theorem nmX2 : ∀ a, a < 1 → ∀ b, b < 1 → a ≠ b → (TX2 a).2.1 ≠ (TX2 b).2.1 := by decide +kernel
theorem tyX2_ok : ∀ k, k < 1 → parseFieldDescriptor (TX2 k).2.2.1 = some (tyX2 k) := by decide +kernel
abbrev cX2_init : ByteArray := prog_4_method_1_code
def yX2_init : MethodName := ⟨RX2, "<init>", "()V"⟩
abbrev cX2_oneOf : ByteArray := prog_4_method_2_code
def yX2_oneOf : MethodName := ⟨RX2, "oneOf", "(I)I"⟩
def RX3 : String := "GivenGoesOn$Gift"
def TX3 : u_T := fun k => match k with
  | 0 => ("GivenGoesOn$Gift", "kind", "I", false)
  | 1 => ("GivenGoesOn$Gift", "home", "I", false)
  | 2 => ("GivenGoesOn$Gift", "holder", "I", false)
  | 3 => ("GivenGoesOn$Gift", "from", "I", false)
  | 4 => ("GivenGoesOn$Gift", "wear", "I", false)
  | 5 => ("GivenGoesOn$Gift", "age", "I", false)
  | 6 => ("GivenGoesOn$Gift", "fate", "I", false)
  | _ => ("GivenGoesOn$Gift", "hands", "I", false)
def tyX3 : Nat → FieldType := fun k => match k with
  | 0 => .int
  | 1 => .int
  | 2 => .int
  | 3 => .int
  | 4 => .int
  | 5 => .int
  | 6 => .int
  | _ => .int
theorem nmX3 : ∀ a, a < 8 → ∀ b, b < 8 → a ≠ b → (TX3 a).2.1 ≠ (TX3 b).2.1 := by decide +kernel
theorem tyX3_ok : ∀ k, k < 8 → parseFieldDescriptor (TX3 k).2.2.1 = some (tyX3 k) := by decide +kernel
abbrev cX3_init : ByteArray := prog_5_method_1_code
def yX3_init : MethodName := ⟨RX3, "<init>", "()V"⟩
abbrev cX3_begin : ByteArray := prog_5_method_2_code
def yX3_begin : MethodName := ⟨RX3, "begin", "(II)V"⟩
abbrev cX3_copyFrom : ByteArray := prog_5_method_3_code
def yX3_copyFrom : MethodName := ⟨RX3, "copyFrom", "(LGivenGoesOn$Gift;)V"⟩
abbrev cX3_lives : ByteArray := prog_5_method_4_code
def yX3_lives : MethodName := ⟨RX3, "lives", "()Z"⟩
abbrev cX3_isOf : ByteArray := prog_5_method_5_code
def yX3_isOf : MethodName := ⟨RX3, "isOf", "(I)Z"⟩
abbrev cX3_worth : ByteArray := prog_5_method_6_code
def yX3_worth : MethodName := ⟨RX3, "worth", "()I"⟩
abbrev cX3_mustGo : ByteArray := prog_5_method_7_code
def yX3_mustGo : MethodName := ⟨RX3, "mustGo", "(I)Z"⟩
abbrev cX3_moveTo : ByteArray := prog_5_method_8_code
def yX3_moveTo : MethodName := ⟨RX3, "moveTo", "(II)V"⟩
def RX4 : String := "GivenGoesOn$Law"
def TX4 : u_T := fun k => match k with
  | 0 => ("GivenGoesOn$Law", "keep", "I", false)
  | 1 => ("GivenGoesOn$Law", "back", "Z", false)
  | 2 => ("GivenGoesOn$Law", "one", "Z", false)
  | _ => ("GivenGoesOn$Law", "most", "I", false)
def tyX4 : Nat → FieldType := fun k => match k with
  | 0 => .int
  | 1 => .boolean
  | 2 => .boolean
  | _ => .int
theorem nmX4 : ∀ a, a < 4 → ∀ b, b < 4 → a ≠ b → (TX4 a).2.1 ≠ (TX4 b).2.1 := by decide +kernel
theorem tyX4_ok : ∀ k, k < 4 → parseFieldDescriptor (TX4 k).2.2.1 = some (tyX4 k) := by decide +kernel
abbrev cX4_init : ByteArray := prog_6_method_1_code
def yX4_init : MethodName := ⟨RX4, "<init>", "()V"⟩
abbrev cX4_readFrom : ByteArray := prog_6_method_2_code
def yX4_readFrom : MethodName := ⟨RX4, "readFrom", "(LGivenGoesOn$Page;)V"⟩
def RX5 : String := "GivenGoesOn$Page"
def TX5 : u_T := fun k => match k with
  | 0 => ("GivenGoesOn$Page", "letter", "[I", true)
  | _ => ("GivenGoesOn$Page", "size", "I", false)
def tyX5 : Nat → FieldType := fun k => match k with
  | 0 => .array .int
  | _ => .int
theorem nmX5 : ∀ a, a < 2 → ∀ b, b < 2 → a ≠ b → (TX5 a).2.1 ≠ (TX5 b).2.1 := by decide +kernel
theorem tyX5_ok : ∀ k, k < 2 → parseFieldDescriptor (TX5 k).2.2.1 = some (tyX5 k) := by decide +kernel
abbrev cX5_init : ByteArray := prog_7_method_1_code
def yX5_init : MethodName := ⟨RX5, "<init>", "()V"⟩
abbrev cX5_lettersIn : ByteArray := prog_7_method_2_code
def yX5_lettersIn : MethodName := ⟨RX5, "lettersIn", "(J)I"⟩
abbrev cX5_byteOf : ByteArray := prog_7_method_3_code
def yX5_byteOf : MethodName := ⟨RX5, "byteOf", "(JI)I"⟩
abbrev cX5_append : ByteArray := prog_7_method_4_code
def yX5_append : MethodName := ⟨RX5, "append", "(JI)V"⟩
abbrev cX5_firstFault : ByteArray := prog_7_method_5_code
def yX5_firstFault : MethodName := ⟨RX5, "firstFault", "()I"⟩
abbrev cX5_isLaw : ByteArray := prog_7_method_6_code
def yX5_isLaw : MethodName := ⟨RX5, "isLaw", "()Z"⟩
abbrev cX5_behind : ByteArray := prog_7_method_7_code
def yX5_behind : MethodName := ⟨RX5, "behind", "(II)I"⟩
def RX6 : String := "GivenGoesOn$Walks"
def TX6 : u_T := fun k => match k with
  | 0 => ("GivenGoesOn$Walks", "now", "[J", true)
  | _ => ("GivenGoesOn$Walks", "next", "[J", true)
def tyX6 : Nat → FieldType := fun k => match k with
  | 0 => .array .long
  | _ => .array .long
theorem nmX6 : ∀ a, a < 2 → ∀ b, b < 2 → a ≠ b → (TX6 a).2.1 ≠ (TX6 b).2.1 := by decide +kernel
theorem tyX6_ok : ∀ k, k < 2 → parseFieldDescriptor (TX6 k).2.2.1 = some (tyX6 k) := by decide +kernel
abbrev cX6_init : ByteArray := prog_8_method_1_code
def yX6_init : MethodName := ⟨RX6, "<init>", "()V"⟩
def RX7 : String := "GivenGoesOn$World"
def TX7 : u_T := fun k => match k with
  | 0 => ("GivenGoesOn$World", "people", "I", false)
  | 1 => ("GivenGoesOn$World", "habit", "[I", true)
  | 2 => ("GivenGoesOn$World", "known", "[I", true)
  | 3 => ("GivenGoesOn$World", "feasts", "[I", true)
  | 4 => ("GivenGoesOn$World", "liking", "[I", true)
  | 5 => ("GivenGoesOn$World", "owed", "[I", true)
  | 6 => ("GivenGoesOn$World", "gifts", "I", false)
  | 7 => ("GivenGoesOn$World", "row", "[LGivenGoesOn$Gift;", true)
  | _ => ("GivenGoesOn$World", "yearsGone", "I", false)
def tyX7 : Nat → FieldType := fun k => match k with
  | 0 => .int
  | 1 => .array .int
  | 2 => .array .int
  | 3 => .array .int
  | 4 => .array .int
  | 5 => .array .int
  | 6 => .int
  | 7 => .array (.object "GivenGoesOn$Gift")
  | _ => .int
theorem nmX7 : ∀ a, a < 9 → ∀ b, b < 9 → a ≠ b → (TX7 a).2.1 ≠ (TX7 b).2.1 := by decide +kernel
theorem tyX7_ok : ∀ k, k < 9 → parseFieldDescriptor (TX7 k).2.2.1 = some (tyX7 k) := by decide +kernel
abbrev cX7_init : ByteArray := prog_9_method_1_code
def yX7_init : MethodName := ⟨RX7, "<init>", "()V"⟩
abbrev cX7_copyFrom : ByteArray := prog_9_method_2_code
def yX7_copyFrom : MethodName := ⟨RX7, "copyFrom", "(LGivenGoesOn$World;)V"⟩
abbrev cX7_addPerson : ByteArray := prog_9_method_3_code
def yX7_addPerson : MethodName := ⟨RX7, "addPerson", "(I)I"⟩
abbrev cX7_addGift : ByteArray := prog_9_method_4_code
def yX7_addGift : MethodName := ⟨RX7, "addGift", "(II)I"⟩
abbrev cX7_knows : ByteArray := prog_9_method_5_code
def yX7_knows : MethodName := ⟨RX7, "knows", "(II)Z"⟩
abbrev cX7_setKnown : ByteArray := prog_9_method_6_code
def yX7_setKnown : MethodName := ⟨RX7, "setKnown", "(IIZ)V"⟩
abbrev cX7_heldBy : ByteArray := prog_9_method_7_code
def yX7_heldBy : MethodName := ⟨RX7, "heldBy", "(I)I"⟩
abbrev cX7_living : ByteArray := prog_9_method_8_code
def yX7_living : MethodName := ⟨RX7, "living", "()I"⟩
abbrev cX7_allFeasts : ByteArray := prog_9_method_9_code
def yX7_allFeasts : MethodName := ⟨RX7, "allFeasts", "()I"⟩
abbrev cX7_balance : ByteArray := prog_9_method_10_code
def yX7_balance : MethodName := ⟨RX7, "balance", "(I)I"⟩
abbrev cX7_mayHave : ByteArray := prog_9_method_11_code
def yX7_mayHave : MethodName := ⟨RX7, "mayHave", "(IIZ)I"⟩
abbrev cX7_handOn : ByteArray := prog_9_method_12_code
def yX7_handOn : MethodName := ⟨RX7, "handOn", "(LGivenGoesOn$Gift;II)V"⟩
abbrev cX7_passYear : ByteArray := prog_9_method_13_code
def yX7_passYear : MethodName := ⟨RX7, "passYear", "(LGivenGoesOn$Law;LGivenGoesOn$Draws;)I"⟩
abbrev cX7_chosenBy : ByteArray := prog_9_method_14_code
def yX7_chosenBy : MethodName := ⟨RX7, "chosenBy", "(II)I"⟩
abbrev cX7_markOf : ByteArray := prog_9_method_15_code
def yX7_markOf : MethodName := ⟨RX7, "markOf", "(II)I"⟩
def RX8 : String := "GivenGoesOn"
def TX8 : u_T := fun k => match k with
  | 0 => ("GivenGoesOn", "page", "LGivenGoesOn$Page;", true)
  | 1 => ("GivenGoesOn", "law", "LGivenGoesOn$Law;", true)
  | 2 => ("GivenGoesOn", "world", "LGivenGoesOn$World;", true)
  | 3 => ("GivenGoesOn", "kept", "LGivenGoesOn$World;", true)
  | 4 => ("GivenGoesOn", "trial", "LGivenGoesOn$World;", true)
  | 5 => ("GivenGoesOn", "draws", "LGivenGoesOn$Draws;", true)
  | 6 => ("GivenGoesOn", "walks", "LGivenGoesOn$Walks;", true)
  | 7 => ("GivenGoesOn", "circle", "LGivenGoesOn$Circle;", true)
  | 8 => ("GivenGoesOn", "book", "LGivenGoesOn$Book;", true)
  | 9 => ("GivenGoesOn", "lawsRead", "I", false)
  | _ => ("GivenGoesOn", "hasImage", "Z", false)
def tyX8 : Nat → FieldType := fun k => match k with
  | 0 => .object "GivenGoesOn$Page"
  | 1 => .object "GivenGoesOn$Law"
  | 2 => .object "GivenGoesOn$World"
  | 3 => .object "GivenGoesOn$World"
  | 4 => .object "GivenGoesOn$World"
  | 5 => .object "GivenGoesOn$Draws"
  | 6 => .object "GivenGoesOn$Walks"
  | 7 => .object "GivenGoesOn$Circle"
  | 8 => .object "GivenGoesOn$Book"
  | 9 => .int
  | _ => .boolean
theorem nmX8 : ∀ a, a < 11 → ∀ b, b < 11 → a ≠ b → (TX8 a).2.1 ≠ (TX8 b).2.1 := by decide +kernel
theorem tyX8_ok : ∀ k, k < 11 → parseFieldDescriptor (TX8 k).2.2.1 = some (tyX8 k) := by decide +kernel
abbrev cX8_init : ByteArray := prog_1_method_1_code
def yX8_init : MethodName := ⟨RX8, "<init>", "()V"⟩
abbrev cX8_letters : ByteArray := prog_1_method_2_code
def yX8_letters : MethodName := ⟨RX8, "letters", "(J)I"⟩
abbrev cX8_fault : ByteArray := prog_1_method_4_code
def yX8_fault : MethodName := ⟨RX8, "fault", "()I"⟩
abbrev cX8_law : ByteArray := prog_1_method_5_code
def yX8_law : MethodName := ⟨RX8, "law", "()I"⟩
abbrev cX8_lawTold : ByteArray := prog_1_method_6_code
def yX8_lawTold : MethodName := ⟨RX8, "lawTold", "(I)I"⟩
abbrev cX8_person : ByteArray := prog_1_method_7_code
def yX8_person : MethodName := ⟨RX8, "person", "(I)I"⟩
abbrev cX8_know : ByteArray := prog_1_method_8_code
def yX8_know : MethodName := ⟨RX8, "know", "(IIZ)I"⟩
abbrev cX8_like : ByteArray := prog_1_method_9_code
def yX8_like : MethodName := ⟨RX8, "like", "(III)I"⟩
abbrev cX8_about : ByteArray := prog_1_method_10_code
def yX8_about : MethodName := ⟨RX8, "about", "(II)I"⟩
abbrev cX8_owes : ByteArray := prog_1_method_11_code
def yX8_owes : MethodName := ⟨RX8, "owes", "(II)I"⟩
abbrev cX8_rest : ByteArray := prog_1_method_12_code
def yX8_rest : MethodName := ⟨RX8, "rest", "(I)I"⟩
abbrev cX8_gift : ByteArray := prog_1_method_13_code
def yX8_gift : MethodName := ⟨RX8, "gift", "(II)I"⟩
abbrev cX8_told : ByteArray := prog_1_method_14_code
def yX8_told : MethodName := ⟨RX8, "told", "(II)I"⟩
abbrev cX8_as : ByteArray := prog_1_method_15_code
def yX8_as : MethodName := ⟨RX8, "as", "(II)I"⟩
abbrev cX8_may : ByteArray := prog_1_method_16_code
def yX8_may : MethodName := ⟨RX8, "may", "(I)I"⟩
abbrev cX8_give : ByteArray := prog_1_method_17_code
def yX8_give : MethodName := ⟨RX8, "give", "(II)I"⟩
abbrev cX8_years : ByteArray := prog_1_method_18_code
def yX8_years : MethodName := ⟨RX8, "years", "(I)I"⟩
abbrev cX8_drawn : ByteArray := prog_1_method_25_code
def yX8_drawn : MethodName := ⟨RX8, "drawn", "(III)I"⟩
abbrev cX8_count : ByteArray := prog_1_method_32_code
def yX8_count : MethodName := ⟨RX8, "count", "(I)I"⟩
abbrev cX8_isPerson : ByteArray := prog_1_method_36_code
def yX8_isPerson : MethodName := ⟨RX8, "isPerson", "(I)Z"⟩
abbrev cX8_areTwo : ByteArray := prog_1_method_37_code
def yX8_areTwo : MethodName := ⟨RX8, "areTwo", "(II)Z"⟩
abbrev cX8_isGift : ByteArray := prog_1_method_38_code
def yX8_isGift : MethodName := ⟨RX8, "isGift", "(I)Z"⟩
abbrev cX8_whoMayHave : ByteArray := prog_1_method_39_code
def yX8_whoMayHave : MethodName := ⟨RX8, "whoMayHave", "(I)I"⟩
abbrev cX8_within : ByteArray := prog_1_method_41_code
def yX8_within : MethodName := ⟨RX8, "within", "(III)Z"⟩
abbrev cX8_pair : ByteArray := prog_1_method_42_code
def yX8_pair : MethodName := ⟨RX8, "pair", "(II)I"⟩
abbrev cX8_bit : ByteArray := prog_1_method_43_code
def yX8_bit : MethodName := ⟨RX8, "bit", "(I)I"⟩
def RX9 : String := "GivenGoesOnModel"
def TX9 : u_T := fun k => match k with
  | _ => ("", "", "", false)
def tyX9 : Nat → FieldType := fun k => match k with
  | _ => .int
theorem nmX9 : ∀ a, a < 0 → ∀ b, b < 0 → a ≠ b → (TX9 a).2.1 ≠ (TX9 b).2.1 := by decide +kernel
theorem tyX9_ok : ∀ k, k < 0 → parseFieldDescriptor (TX9 k).2.2.1 = some (tyX9 k) := by decide +kernel
def RJ6 : String := "java/lang/Integer"
abbrev cJ6_bitCount_0f7a4 : ByteArray := prog_12_method_49_code
def yJ6_bitCount_0f7a4 : MethodName := ⟨RJ6, "bitCount", "(I)I"⟩
def RJ9 : String := "java/lang/Math"
abbrev cJ9_max_7cf53 : ByteArray := prog_13_method_65_code
def yJ9_max_7cf53 : MethodName := ⟨RJ9, "max", "(II)I"⟩
abbrev cJ9_min_7cf53 : ByteArray := prog_13_method_69_code
def yJ9_min_7cf53 : MethodName := ⟨RJ9, "min", "(II)I"⟩
def RJ10 : String := "java/lang/System"
def RL : String := "GivenGoesOnLaw"
abbrev cL_cell : ByteArray := method_2_code
def yL_cell : MethodName := ⟨RL, "cell", "([II)I"⟩
abbrev cL_at : ByteArray := method_3_code
def yL_at : MethodName := ⟨RL, "at", "(II)I"⟩
abbrev cL_lawText : ByteArray := method_4_code
def yL_lawText : MethodName := ⟨RL, "lawText", "(I[I[I)I"⟩
abbrev cL_write : ByteArray := method_5_code
def yL_write : MethodName := ⟨RL, "write", "(LGivenGoesOn;[II)Z"⟩
abbrev cL_people : ByteArray := method_6_code
def yL_people : MethodName := ⟨RL, "people", "(LGivenGoesOn;[III[I[I)Z"⟩
abbrev cL_gifts : ByteArray := method_7_code
def yL_gifts : MethodName := ⟨RL, "gifts", "(LGivenGoesOn;[III[I[I)Z"⟩
abbrev cL_may : ByteArray := method_8_code
def yL_may : MethodName := ⟨RL, "may", "([I[III)I"⟩
abbrev cL_worth : ByteArray := method_9_code
def yL_worth : MethodName := ⟨RL, "worth", "([II)I"⟩
abbrev cL_give : ByteArray := method_10_code
def yL_give : MethodName := ⟨RL, "give", "([I[I[I[III)I"⟩
abbrev cL_holds : ByteArray := method_11_code
def yL_holds : MethodName := ⟨RL, "holds", "([I[II)I"⟩
abbrev cL_habit : ByteArray := method_12_code
def yL_habit : MethodName := ⟨RL, "habit", "([I[I[III)I"⟩
abbrev cL_year : ByteArray := method_13_code
def yL_year : MethodName := ⟨RL, "year", "([I[I[I[I[I[J)I"⟩
abbrev cL_stands : ByteArray := method_14_code
def yL_stands : MethodName := ⟨RL, "stands", "(LGivenGoesOn;[I[I[I)Z"⟩
abbrev cL_law : ByteArray := code
def yL_law : MethodName := ⟨RL, "law", "([I)Z"⟩
abbrev vwCl : List vw_C := [(RX0, TX0, 3), (RX1, TX1, 2), (RX2, TX2, 1), (RX3, TX3, 8), (RX4, TX4, 4), (RX5, TX5, 2), (RX6, TX6, 2), (RX7, TX7, 9), (RX8, TX8, 11)]
