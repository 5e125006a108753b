section
-- ===== PART A: goes FIRST, ahead of the names: the tables' words, and 'selects' of the private methods out of them =====
/-- a private method of a class that the tables say can be made, by its rows of tables_1 -/
def lw_okq (q : MethodName × Nat) : Prop := (q.1.cls ≠ "java/lang/invoke/MethodHandle" ∧ q.1.cls ≠ "java/lang/invoke/VarHandle") ∧ Cond.instantiable q.1.cls q.2 ∈ tables_1 ∧ Cond.privateMethod q.1 ∈ tables_1 ∧ Cond.instanceMethod q.1 ∈ tables_1
theorem lw_p0 : lw_okq (⟨"GivenGoesOn", "areTwo", "(II)Z"⟩, 11) := ⟨⟨by decide +kernel, by decide +kernel⟩, List.mem_of_getElem? (i := 14) (by decide +kernel), List.mem_of_getElem? (i := 281) (by decide +kernel), List.mem_of_getElem? (i := 282) (by decide +kernel)⟩
theorem lw_p1 : lw_okq (⟨"GivenGoesOn", "isPerson", "(I)Z"⟩, 11) := ⟨⟨by decide +kernel, by decide +kernel⟩, List.mem_of_getElem? (i := 14) (by decide +kernel), List.mem_of_getElem? (i := 285) (by decide +kernel), List.mem_of_getElem? (i := 286) (by decide +kernel)⟩
theorem lw_p2 : lw_okq (⟨"GivenGoesOn", "isGift", "(I)Z"⟩, 11) := ⟨⟨by decide +kernel, by decide +kernel⟩, List.mem_of_getElem? (i := 14) (by decide +kernel), List.mem_of_getElem? (i := 349) (by decide +kernel), List.mem_of_getElem? (i := 350) (by decide +kernel)⟩
theorem lw_p3 : lw_okq (⟨"GivenGoesOn", "whoMayHave", "(I)I"⟩, 11) := ⟨⟨by decide +kernel, by decide +kernel⟩, List.mem_of_getElem? (i := 14) (by decide +kernel), List.mem_of_getElem? (i := 376) (by decide +kernel), List.mem_of_getElem? (i := 377) (by decide +kernel)⟩
theorem lw_p4 : lw_okq (⟨"GivenGoesOn$World", "chosenBy", "(II)I"⟩, 9) := ⟨⟨by decide +kernel, by decide +kernel⟩, List.mem_of_getElem? (i := 66) (by decide +kernel), List.mem_of_getElem? (i := 413) (by decide +kernel), List.mem_of_getElem? (i := 414) (by decide +kernel)⟩
theorem lw_p5 : lw_okq (⟨"GivenGoesOn$World", "markOf", "(II)I"⟩, 9) := ⟨⟨by decide +kernel, by decide +kernel⟩, List.mem_of_getElem? (i := 66) (by decide +kernel), List.mem_of_getElem? (i := 417) (by decide +kernel), List.mem_of_getElem? (i := 418) (by decide +kernel)⟩
def lw_privs_1 : List (MethodName × Nat) := [(⟨"GivenGoesOn", "areTwo", "(II)Z"⟩, 11), (⟨"GivenGoesOn", "isPerson", "(I)Z"⟩, 11), (⟨"GivenGoesOn", "isGift", "(I)Z"⟩, 11), (⟨"GivenGoesOn", "whoMayHave", "(I)I"⟩, 11), (⟨"GivenGoesOn$World", "chosenBy", "(II)I"⟩, 9), (⟨"GivenGoesOn$World", "markOf", "(II)I"⟩, 9)]
theorem lw_r1 : ∀ q ∈ lw_privs_1, lw_okq q := List.forall_mem_cons.mpr ⟨lw_p0, List.forall_mem_cons.mpr ⟨lw_p1, List.forall_mem_cons.mpr ⟨lw_p2, List.forall_mem_cons.mpr ⟨lw_p3, List.forall_mem_cons.mpr ⟨lw_p4, List.forall_mem_cons.mpr ⟨lw_p5, fun _ h => absurd h List.not_mem_nil⟩⟩⟩⟩⟩⟩
def lw_privs : List (MethodName × Nat) := lw_privs_1
def lw_tbl : List Cond := k2_sels lw_privs ++ tables_1
theorem lw_privs_ok : ∀ q ∈ lw_privs, lw_okq q := lw_r1
end
section
def RX0 : String := "GivenGoesOn$Book"
def TX0 : u_T := fun k => match k with
  | 0 => ("GivenGoesOn$Book", "written", "[I", true)
  | 1 => ("GivenGoesOn$Book", "home", "I", false)
  | _ => ("GivenGoesOn$Book", "length", "I", false)
def tyX0 : Nat → FieldType := fun k => match k with
  | 0 => .array .int
  | 1 => .int
  | _ => .int
theorem nmX0 : ∀ a, a < 3 → ∀ b, b < 3 → a ≠ b → (TX0 a).2.1 ≠ (TX0 b).2.1 := by decide +kernel
theorem tyX0_ok : ∀ k, k < 3 → parseFieldDescriptor (TX0 k).2.2.1 = some (tyX0 k) := by decide +kernel
abbrev cX0_init : ByteArray := prog_2_method_1_code
def yX0_init : MethodName := ⟨RX0, "<init>", "()V"⟩
def RX1 : String := "GivenGoesOn$Circle"
def TX1 : u_T := fun k => match k with
  | 0 => ("GivenGoesOn$Circle", "most", "[I", true)
  | _ => ("GivenGoesOn$Circle", "to", "[I", true)
def tyX1 : Nat → FieldType := fun k => match k with
  | 0 => .array .int
  | _ => .array .int
theorem nmX1 : ∀ a, a < 2 → ∀ b, b < 2 → a ≠ b → (TX1 a).2.1 ≠ (TX1 b).2.1 := by decide +kernel
theorem tyX1_ok : ∀ k, k < 2 → parseFieldDescriptor (TX1 k).2.2.1 = some (tyX1 k) := by decide +kernel
abbrev cX1_init : ByteArray := prog_3_method_1_code
def yX1_init : MethodName := ⟨RX1, "<init>", "()V"⟩
def RX2 : String := "GivenGoesOn$Draws"
def TX2 : u_T := fun k => match k with
  | _ => ("GivenGoesOn$Draws", "seed", "J", false)
def tyX2 : Nat → FieldType := fun k => match k with
  | _ => .long
theorem nmX2 : ∀ a, a < 1 → ∀ b, b < 1 → a ≠ b → (TX2 a).2.1 ≠ (TX2 b).2.1 := by decide +kernel
theorem tyX2_ok : ∀ k, k < 1 → parseFieldDescriptor (TX2 k).2.2.1 = some (tyX2 k) := by decide +kernel
abbrev cX2_init : ByteArray := prog_4_method_1_code
def yX2_init : MethodName := ⟨RX2, "<init>", "()V"⟩
abbrev cX2_oneOf : ByteArray := prog_4_method_2_code
def yX2_oneOf : MethodName := ⟨RX2, "oneOf", "(I)I"⟩
def RX3 : String := "GivenGoesOn$Gift"
def TX3 : u_T := fun k => match k with
  | 0 => ("GivenGoesOn$Gift", "kind", "I", false)
  | 1 => ("GivenGoesOn$Gift", "home", "I", false)
  | 2 => ("GivenGoesOn$Gift", "holder", "I", false)
  | 3 => ("GivenGoesOn$Gift", "from", "I", false)
  | 4 => ("GivenGoesOn$Gift", "wear", "I", false)
  | 5 => ("GivenGoesOn$Gift", "age", "I", false)
  | 6 => ("GivenGoesOn$Gift", "fate", "I", false)
  | _ => ("GivenGoesOn$Gift", "hands", "I", false)
def tyX3 : Nat → FieldType := fun k => match k with
  | 0 => .int
  | 1 => .int
  | 2 => .int
  | 3 => .int
  | 4 => .int
  | 5 => .int
  | 6 => .int
  | _ => .int
theorem nmX3 : ∀ a, a < 8 → ∀ b, b < 8 → a ≠ b → (TX3 a).2.1 ≠ (TX3 b).2.1 := by decide +kernel
theorem tyX3_ok : ∀ k, k < 8 → parseFieldDescriptor (TX3 k).2.2.1 = some (tyX3 k) := by decide +kernel
abbrev cX3_init : ByteArray := prog_5_method_1_code
def yX3_init : MethodName := ⟨RX3, "<init>", "()V"⟩
abbrev cX3_begin : ByteArray := prog_5_method_2_code
def yX3_begin : MethodName := ⟨RX3, "begin", "(II)V"⟩
abbrev cX3_copyFrom : ByteArray := prog_5_method_3_code
def yX3_copyFrom : MethodName := ⟨RX3, "copyFrom", "(LGivenGoesOn$Gift;)V"⟩
abbrev cX3_lives : ByteArray := prog_5_method_4_code
def yX3_lives : MethodName := ⟨RX3, "lives", "()Z"⟩
abbrev cX3_isOf : ByteArray := prog_5_method_5_code
def yX3_isOf : MethodName := ⟨RX3, "isOf", "(I)Z"⟩
abbrev cX3_worth : ByteArray := prog_5_method_6_code
def yX3_worth : MethodName := ⟨RX3, "worth", "()I"⟩
abbrev cX3_mustGo : ByteArray := prog_5_method_7_code
def yX3_mustGo : MethodName := ⟨RX3, "mustGo", "(I)Z"⟩
abbrev cX3_moveTo : ByteArray := prog_5_method_8_code
def yX3_moveTo : MethodName := ⟨RX3, "moveTo", "(II)V"⟩
def RX4 : String := "GivenGoesOn$Law"
def TX4 : u_T := fun k => match k with
  | 0 => ("GivenGoesOn$Law", "keep", "I", false)
  | 1 => ("GivenGoesOn$Law", "back", "Z", false)
  | 2 => ("GivenGoesOn$Law", "one", "Z", false)
  | _ => ("GivenGoesOn$Law", "most", "I", false)
def tyX4 : Nat → FieldType := fun k => match k with
  | 0 => .int
  | 1 => .boolean
  | 2 => .boolean
  | _ => .int
theorem nmX4 : ∀ a, a < 4 → ∀ b, b < 4 → a ≠ b → (TX4 a).2.1 ≠ (TX4 b).2.1 := by decide +kernel
theorem tyX4_ok : ∀ k, k < 4 → parseFieldDescriptor (TX4 k).2.2.1 = some (tyX4 k) := by decide +kernel
abbrev cX4_init : ByteArray := prog_6_method_1_code
def yX4_init : MethodName := ⟨RX4, "<init>", "()V"⟩
abbrev cX4_readFrom : ByteArray := prog_6_method_2_code
def yX4_readFrom : MethodName := ⟨RX4, "readFrom", "(LGivenGoesOn$Page;)V"⟩
def RX5 : String := "GivenGoesOn$Page"
def TX5 : u_T := fun k => match k with
  | 0 => ("GivenGoesOn$Page", "letter", "[I", true)
  | _ => ("GivenGoesOn$Page", "size", "I", false)
def tyX5 : Nat → FieldType := fun k => match k with
  | 0 => .array .int
  | _ => .int
theorem nmX5 : ∀ a, a < 2 → ∀ b, b < 2 → a ≠ b → (TX5 a).2.1 ≠ (TX5 b).2.1 := by decide +kernel
theorem tyX5_ok : ∀ k, k < 2 → parseFieldDescriptor (TX5 k).2.2.1 = some (tyX5 k) := by decide +kernel
abbrev cX5_init : ByteArray := prog_7_method_1_code
def yX5_init : MethodName := ⟨RX5, "<init>", "()V"⟩
abbrev cX5_lettersIn : ByteArray := prog_7_method_2_code
def yX5_lettersIn : MethodName := ⟨RX5, "lettersIn", "(J)I"⟩
abbrev cX5_byteOf : ByteArray := prog_7_method_3_code
def yX5_byteOf : MethodName := ⟨RX5, "byteOf", "(JI)I"⟩
abbrev cX5_append : ByteArray := prog_7_method_4_code
def yX5_append : MethodName := ⟨RX5, "append", "(JI)V"⟩
abbrev cX5_firstFault : ByteArray := prog_7_method_5_code
def yX5_firstFault : MethodName := ⟨RX5, "firstFault", "()I"⟩
abbrev cX5_isLaw : ByteArray := prog_7_method_6_code
def yX5_isLaw : MethodName := ⟨RX5, "isLaw", "()Z"⟩
abbrev cX5_behind : ByteArray := prog_7_method_7_code
def yX5_behind : MethodName := ⟨RX5, "behind", "(II)I"⟩
def RX6 : String := "GivenGoesOn$Walks"
def TX6 : u_T := fun k => match k with
  | 0 => ("GivenGoesOn$Walks", "now", "[J", true)
  | _ => ("GivenGoesOn$Walks", "next", "[J", true)
def tyX6 : Nat → FieldType := fun k => match k with
  | 0 => .array .long
  | _ => .array .long
theorem nmX6 : ∀ a, a < 2 → ∀ b, b < 2 → a ≠ b → (TX6 a).2.1 ≠ (TX6 b).2.1 := by decide +kernel
theorem tyX6_ok : ∀ k, k < 2 → parseFieldDescriptor (TX6 k).2.2.1 = some (tyX6 k) := by decide +kernel
abbrev cX6_init : ByteArray := prog_8_method_1_code
def yX6_init : MethodName := ⟨RX6, "<init>", "()V"⟩
def RX7 : String := "GivenGoesOn$World"
def TX7 : u_T := fun k => match k with
  | 0 => ("GivenGoesOn$World", "people", "I", false)
  | 1 => ("GivenGoesOn$World", "habit", "[I", true)
  | 2 => ("GivenGoesOn$World", "known", "[I", true)
  | 3 => ("GivenGoesOn$World", "feasts", "[I", true)
  | 4 => ("GivenGoesOn$World", "liking", "[I", true)
  | 5 => ("GivenGoesOn$World", "owed", "[I", true)
  | 6 => ("GivenGoesOn$World", "gifts", "I", false)
  | 7 => ("GivenGoesOn$World", "row", "[LGivenGoesOn$Gift;", true)
  | _ => ("GivenGoesOn$World", "yearsGone", "I", false)
def tyX7 : Nat → FieldType := fun k => match k with
  | 0 => .int
  | 1 => .array .int
  | 2 => .array .int
  | 3 => .array .int
  | 4 => .array .int
  | 5 => .array .int
  | 6 => .int
  | 7 => .array (.object "GivenGoesOn$Gift")
  | _ => .int
theorem nmX7 : ∀ a, a < 9 → ∀ b, b < 9 → a ≠ b → (TX7 a).2.1 ≠ (TX7 b).2.1 := by decide +kernel
theorem tyX7_ok : ∀ k, k < 9 → parseFieldDescriptor (TX7 k).2.2.1 = some (tyX7 k) := by decide +kernel
abbrev cX7_init : ByteArray := prog_9_method_1_code
def yX7_init : MethodName := ⟨RX7, "<init>", "()V"⟩
abbrev cX7_copyFrom : ByteArray := prog_9_method_2_code
def yX7_copyFrom : MethodName := ⟨RX7, "copyFrom", "(LGivenGoesOn$World;)V"⟩
abbrev cX7_addPerson : ByteArray := prog_9_method_3_code
def yX7_addPerson : MethodName := ⟨RX7, "addPerson", "(I)I"⟩
abbrev cX7_addGift : ByteArray := prog_9_method_4_code
def yX7_addGift : MethodName := ⟨RX7, "addGift", "(II)I"⟩
abbrev cX7_knows : ByteArray := prog_9_method_5_code
def yX7_knows : MethodName := ⟨RX7, "knows", "(II)Z"⟩
abbrev cX7_setKnown : ByteArray := prog_9_method_6_code
def yX7_setKnown : MethodName := ⟨RX7, "setKnown", "(IIZ)V"⟩
abbrev cX7_heldBy : ByteArray := prog_9_method_7_code
def yX7_heldBy : MethodName := ⟨RX7, "heldBy", "(I)I"⟩
abbrev cX7_living : ByteArray := prog_9_method_8_code
def yX7_living : MethodName := ⟨RX7, "living", "()I"⟩
abbrev cX7_allFeasts : ByteArray := prog_9_method_9_code
def yX7_allFeasts : MethodName := ⟨RX7, "allFeasts", "()I"⟩
abbrev cX7_balance : ByteArray := prog_9_method_10_code
def yX7_balance : MethodName := ⟨RX7, "balance", "(I)I"⟩
abbrev cX7_mayHave : ByteArray := prog_9_method_11_code
def yX7_mayHave : MethodName := ⟨RX7, "mayHave", "(IIZ)I"⟩
abbrev cX7_handOn : ByteArray := prog_9_method_12_code
def yX7_handOn : MethodName := ⟨RX7, "handOn", "(LGivenGoesOn$Gift;II)V"⟩
abbrev cX7_passYear : ByteArray := prog_9_method_13_code
def yX7_passYear : MethodName := ⟨RX7, "passYear", "(LGivenGoesOn$Law;LGivenGoesOn$Draws;)I"⟩
abbrev cX7_chosenBy : ByteArray := prog_9_method_14_code
def yX7_chosenBy : MethodName := ⟨RX7, "chosenBy", "(II)I"⟩
abbrev cX7_markOf : ByteArray := prog_9_method_15_code
def yX7_markOf : MethodName := ⟨RX7, "markOf", "(II)I"⟩
def RX8 : String := "GivenGoesOn"
def TX8 : u_T := fun k => match k with
  | 0 => ("GivenGoesOn", "page", "LGivenGoesOn$Page;", true)
  | 1 => ("GivenGoesOn", "law", "LGivenGoesOn$Law;", true)
  | 2 => ("GivenGoesOn", "world", "LGivenGoesOn$World;", true)
  | 3 => ("GivenGoesOn", "kept", "LGivenGoesOn$World;", true)
  | 4 => ("GivenGoesOn", "trial", "LGivenGoesOn$World;", true)
  | 5 => ("GivenGoesOn", "draws", "LGivenGoesOn$Draws;", true)
  | 6 => ("GivenGoesOn", "walks", "LGivenGoesOn$Walks;", true)
  | 7 => ("GivenGoesOn", "circle", "LGivenGoesOn$Circle;", true)
  | 8 => ("GivenGoesOn", "book", "LGivenGoesOn$Book;", true)
  | 9 => ("GivenGoesOn", "lawsRead", "I", false)
  | _ => ("GivenGoesOn", "hasImage", "Z", false)
def tyX8 : Nat → FieldType := fun k => match k with
  | 0 => .object "GivenGoesOn$Page"
  | 1 => .object "GivenGoesOn$Law"
  | 2 => .object "GivenGoesOn$World"
  | 3 => .object "GivenGoesOn$World"
  | 4 => .object "GivenGoesOn$World"
  | 5 => .object "GivenGoesOn$Draws"
  | 6 => .object "GivenGoesOn$Walks"
  | 7 => .object "GivenGoesOn$Circle"
  | 8 => .object "GivenGoesOn$Book"
  | 9 => .int
  | _ => .boolean
theorem nmX8 : ∀ a, a < 11 → ∀ b, b < 11 → a ≠ b → (TX8 a).2.1 ≠ (TX8 b).2.1 := by decide +kernel
theorem tyX8_ok : ∀ k, k < 11 → parseFieldDescriptor (TX8 k).2.2.1 = some (tyX8 k) := by decide +kernel
abbrev cX8_init : ByteArray := prog_1_method_1_code
def yX8_init : MethodName := ⟨RX8, "<init>", "()V"⟩
abbrev cX8_letters : ByteArray := prog_1_method_2_code
def yX8_letters : MethodName := ⟨RX8, "letters", "(J)I"⟩
abbrev cX8_fault : ByteArray := prog_1_method_4_code
def yX8_fault : MethodName := ⟨RX8, "fault", "()I"⟩
abbrev cX8_law : ByteArray := prog_1_method_5_code
def yX8_law : MethodName := ⟨RX8, "law", "()I"⟩
abbrev cX8_lawTold : ByteArray := prog_1_method_6_code
def yX8_lawTold : MethodName := ⟨RX8, "lawTold", "(I)I"⟩
abbrev cX8_person : ByteArray := prog_1_method_7_code
def yX8_person : MethodName := ⟨RX8, "person", "(I)I"⟩
abbrev cX8_know : ByteArray := prog_1_method_8_code
def yX8_know : MethodName := ⟨RX8, "know", "(IIZ)I"⟩
abbrev cX8_like : ByteArray := prog_1_method_9_code
def yX8_like : MethodName := ⟨RX8, "like", "(III)I"⟩
abbrev cX8_about : ByteArray := prog_1_method_10_code
def yX8_about : MethodName := ⟨RX8, "about", "(II)I"⟩
abbrev cX8_owes : ByteArray := prog_1_method_11_code
def yX8_owes : MethodName := ⟨RX8, "owes", "(II)I"⟩
abbrev cX8_rest : ByteArray := prog_1_method_12_code
def yX8_rest : MethodName := ⟨RX8, "rest", "(I)I"⟩
abbrev cX8_gift : ByteArray := prog_1_method_13_code
def yX8_gift : MethodName := ⟨RX8, "gift", "(II)I"⟩
abbrev cX8_told : ByteArray := prog_1_method_14_code
def yX8_told : MethodName := ⟨RX8, "told", "(II)I"⟩
abbrev cX8_as : ByteArray := prog_1_method_15_code
def yX8_as : MethodName := ⟨RX8, "as", "(II)I"⟩
abbrev cX8_may : ByteArray := prog_1_method_16_code
def yX8_may : MethodName := ⟨RX8, "may", "(I)I"⟩
abbrev cX8_give : ByteArray := prog_1_method_17_code
def yX8_give : MethodName := ⟨RX8, "give", "(II)I"⟩
abbrev cX8_years : ByteArray := prog_1_method_18_code
def yX8_years : MethodName := ⟨RX8, "years", "(I)I"⟩
abbrev cX8_drawn : ByteArray := prog_1_method_25_code
def yX8_drawn : MethodName := ⟨RX8, "drawn", "(III)I"⟩
abbrev cX8_count : ByteArray := prog_1_method_32_code
def yX8_count : MethodName := ⟨RX8, "count", "(I)I"⟩
abbrev cX8_isPerson : ByteArray := prog_1_method_36_code
def yX8_isPerson : MethodName := ⟨RX8, "isPerson", "(I)Z"⟩
abbrev cX8_areTwo : ByteArray := prog_1_method_37_code
def yX8_areTwo : MethodName := ⟨RX8, "areTwo", "(II)Z"⟩
abbrev cX8_isGift : ByteArray := prog_1_method_38_code
def yX8_isGift : MethodName := ⟨RX8, "isGift", "(I)Z"⟩
abbrev cX8_whoMayHave : ByteArray := prog_1_method_39_code
def yX8_whoMayHave : MethodName := ⟨RX8, "whoMayHave", "(I)I"⟩
abbrev cX8_within : ByteArray := prog_1_method_41_code
def yX8_within : MethodName := ⟨RX8, "within", "(III)Z"⟩
abbrev cX8_pair : ByteArray := prog_1_method_42_code
def yX8_pair : MethodName := ⟨RX8, "pair", "(II)I"⟩
abbrev cX8_bit : ByteArray := prog_1_method_43_code
def yX8_bit : MethodName := ⟨RX8, "bit", "(I)I"⟩
def RX9 : String := "GivenGoesOnModel"
def TX9 : u_T := fun k => match k with
  | _ => ("", "", "", false)
def tyX9 : Nat → FieldType := fun k => match k with
  | _ => .int
theorem nmX9 : ∀ a, a < 0 → ∀ b, b < 0 → a ≠ b → (TX9 a).2.1 ≠ (TX9 b).2.1 := by decide +kernel
theorem tyX9_ok : ∀ k, k < 0 → parseFieldDescriptor (TX9 k).2.2.1 = some (tyX9 k) := by decide +kernel
def RJ6 : String := "java/lang/Integer"
abbrev cJ6_bitCount_0f7a4 : ByteArray := prog_12_method_49_code
def yJ6_bitCount_0f7a4 : MethodName := ⟨RJ6, "bitCount", "(I)I"⟩
def RJ9 : String := "java/lang/Math"
abbrev cJ9_max_7cf53 : ByteArray := prog_13_method_65_code
def yJ9_max_7cf53 : MethodName := ⟨RJ9, "max", "(II)I"⟩
abbrev cJ9_min_7cf53 : ByteArray := prog_13_method_69_code
def yJ9_min_7cf53 : MethodName := ⟨RJ9, "min", "(II)I"⟩
def RJ10 : String := "java/lang/System"
def RL : String := "GivenGoesOnLaw"
abbrev cL_cell : ByteArray := method_2_code
def yL_cell : MethodName := ⟨RL, "cell", "([II)I"⟩
abbrev cL_at : ByteArray := method_3_code
def yL_at : MethodName := ⟨RL, "at", "(II)I"⟩
abbrev cL_lawText : ByteArray := method_4_code
def yL_lawText : MethodName := ⟨RL, "lawText", "(I[I[I)I"⟩
abbrev cL_write : ByteArray := method_5_code
def yL_write : MethodName := ⟨RL, "write", "(LGivenGoesOn;[II)Z"⟩
abbrev cL_people : ByteArray := method_6_code
def yL_people : MethodName := ⟨RL, "people", "(LGivenGoesOn;[III[I[I)Z"⟩
abbrev cL_gifts : ByteArray := method_7_code
def yL_gifts : MethodName := ⟨RL, "gifts", "(LGivenGoesOn;[III[I[I)Z"⟩
abbrev cL_may : ByteArray := method_8_code
def yL_may : MethodName := ⟨RL, "may", "([I[III)I"⟩
abbrev cL_worth : ByteArray := method_9_code
def yL_worth : MethodName := ⟨RL, "worth", "([II)I"⟩
abbrev cL_give : ByteArray := method_10_code
def yL_give : MethodName := ⟨RL, "give", "([I[I[I[III)I"⟩
abbrev cL_holds : ByteArray := method_11_code
def yL_holds : MethodName := ⟨RL, "holds", "([I[II)I"⟩
abbrev cL_habit : ByteArray := method_12_code
def yL_habit : MethodName := ⟨RL, "habit", "([I[I[III)I"⟩
abbrev cL_year : ByteArray := method_13_code
def yL_year : MethodName := ⟨RL, "year", "([I[I[I[I[I[J)I"⟩
abbrev cL_stands : ByteArray := method_14_code
def yL_stands : MethodName := ⟨RL, "stands", "(LGivenGoesOn;[I[I[I)Z"⟩
abbrev cL_law : ByteArray := code
def yL_law : MethodName := ⟨RL, "law", "([I)Z"⟩
abbrev vwCl : List vw_C := [(RX0, TX0, 3), (RX1, TX1, 2), (RX2, TX2, 1), (RX3, TX3, 8), (RX4, TX4, 4), (RX5, TX5, 2), (RX6, TX6, 2), (RX7, TX7, 9), (RX8, TX8, 11)]
end
section
/-! THE STATE of both programs once all is made: every cell by a number of its own (below NN); references never change, so they stand in tables. -/
def NN : Nat := 68
def kdL : List Nat := [1, 1, 2, 1, 1, 2, 2, 2, 2, 2, 4, 1, 1, 1, 1, 1, 1, 1, 1, 1, 2, 2, 2, 2, 2, 4, 1, 1, 1, 1, 1, 1, 1, 1, 1, 2, 2, 2, 2, 2, 4, 1, 1, 1, 1, 1, 1, 1, 1, 1, 1, 3, 3, 1, 2, 2, 1, 2, 2, 2, 2, 2, 2, 2, 3, 2, 2, 2]
def clL : List Nat := [8, 5, 0, 4, 7, 0, 0, 0, 0, 0, 0, 3, 3, 3, 3, 3, 3, 3, 3, 7, 0, 0, 0, 0, 0, 0, 3, 3, 3, 3, 3, 3, 3, 3, 7, 0, 0, 0, 0, 0, 0, 3, 3, 3, 3, 3, 3, 3, 3, 2, 6, 0, 0, 1, 0, 0, 0, 0, 0, 0, 0, 0, 0, 0, 0, 0, 0, 0]
def nsL : List Nat := [11, 2, 16, 4, 9, 8, 8, 8, 64, 64, 8, 8, 8, 8, 8, 8, 8, 8, 8, 9, 8, 8, 8, 64, 64, 8, 8, 8, 8, 8, 8, 8, 8, 8, 9, 8, 8, 8, 64, 64, 8, 8, 8, 8, 8, 8, 8, 8, 8, 1, 2, 72, 72, 2, 256, 8, 3, 8, 4, 16, 27, 64, 64, 64, 1, 64, 64, 27]
def styL : List (List Nat) := [[2, 0, 0], [2, 2], [1], [0, 0, 0, 0, 0, 0, 0, 0], [0, 3, 3, 0], [2, 0], [2, 2], [0, 2, 2, 2, 2, 2, 0, 2, 0], [2, 2, 2, 2, 2, 2, 2, 2, 2, 0, 3]]
def rfL : List (List Nat) := [[1, 3, 4, 19, 34, 49, 50, 53, 56, 0, 0], [2, 0], [], [0, 0, 0, 0], [0, 5, 6, 7, 8, 9, 0, 10, 0], [], [], [], [], [], [11, 12, 13, 14, 15, 16, 17, 18], [0, 0, 0, 0, 0, 0, 0, 0], [0, 0, 0, 0, 0, 0, 0, 0], [0, 0, 0, 0, 0, 0, 0, 0], [0, 0, 0, 0, 0, 0, 0, 0], [0, 0, 0, 0, 0, 0, 0, 0], [0, 0, 0, 0, 0, 0, 0, 0], [0, 0, 0, 0, 0, 0, 0, 0], [0, 0, 0, 0, 0, 0, 0, 0], [0, 20, 21, 22, 23, 24, 0, 25, 0], [], [], [], [], [], [26, 27, 28, 29, 30, 31, 32, 33], [0, 0, 0, 0, 0, 0, 0, 0], [0, 0, 0, 0, 0, 0, 0, 0], [0, 0, 0, 0, 0, 0, 0, 0], [0, 0, 0, 0, 0, 0, 0, 0], [0, 0, 0, 0, 0, 0, 0, 0], [0, 0, 0, 0, 0, 0, 0, 0], [0, 0, 0, 0, 0, 0, 0, 0], [0, 0, 0, 0, 0, 0, 0, 0], [0, 35, 36, 37, 38, 39, 0, 40, 0], [], [], [], [], [], [41, 42, 43, 44, 45, 46, 47, 48], [0, 0, 0, 0, 0, 0, 0, 0], [0, 0, 0, 0, 0, 0, 0, 0], [0, 0, 0, 0, 0, 0, 0, 0], [0, 0, 0, 0, 0, 0, 0, 0], [0, 0, 0, 0, 0, 0, 0, 0], [0, 0, 0, 0, 0, 0, 0, 0], [0, 0, 0, 0, 0, 0, 0, 0], [0, 0, 0, 0, 0, 0, 0, 0], [0], [51, 52], [], [], [54, 55], [], [], [57, 0, 0], [], [], [], [], [], [], [], [], [], [], []]
def kd (i : Nat) : Nat := kdL.getD i 0
def cl (i : Nat) : Nat := clL.getD i 0
def nsl (i : Nat) : Nat := nsL.getD i 0
def sty (c k : Nat) : Nat := (styL.getD c []).getD k 0
def rfv (i k : Nat) : Nat := (rfL.getD i []).getD k 0
abbrev St : Type := (Nat → Nat → Int32) × (Nat → Nat → Int64)
def setI (σ : St) (i k : Nat) (v : Int32) : St := (fun a b => if a = i ∧ b = k then v else σ.1 a b, σ.2)
def setL (σ : St) (i k : Nat) (v : Int64) : St := (σ.1, fun a b => if a = i ∧ b = k then v else σ.2 a b)
/-- the first n of array i copied to array j -/
def cpyI (σ : St) (i j n : Nat) : St := (fun a b => if a = j ∧ b < n then σ.1 i b else σ.1 a b, σ.2)
def cpyL (σ : St) (i j n : Nat) : St := (σ.1, fun a b => if a = j ∧ b < n then σ.2 i b else σ.2 a b)
def inb (j : Int32) (n : Nat) : Bool := decide (¬ (j < 0 ∨ n ≤ j.toNatClampNeg))
theorem inb_vp {j : Int32} {n : Nat} (h : inb j n = true) : vp_in j n := show ¬ (j < 0 ∨ n ≤ j.toNatClampNeg) from of_decide_eq_true h
/-- a field of an object: its value, references by their numbers -/
def av (σ : St) (i k : Nat) : Value := if sty (cl i) k = 1 then .long (σ.2 i k) else if sty (cl i) k = 2 then .ref (rfv i k) else .int (σ.1 i k)
/-- a value with references by their addresses -/
def rv (ad : Nat → Nat) : Value → Value
  | .ref a => .ref (ad a)
  | v => v
theorem rv_cat (ad : Nat → Nat) (v : Value) : (rv ad v).category = v.category := by cases v <;> rfl
abbrev CT : Type := ClassId × ClassId × ClassId
def cellE (ad : Nat → Nat) (C : CT) (σ : St) (i : Nat) : va_E :=
  if kd i = 1 then .inr (cl i, (List.range (nsl i)).map fun k => rv ad (av σ i k))
  else if kd i = 2 then .inl (C.1, (nsl i, .inl (σ.1 i)))
  else if kd i = 3 then .inl (C.2.1, (nsl i, .inr (.inl (σ.2 i))))
  else .inl (C.2.2, (nsl i, .inr (.inr (.inr (.inr fun j => some (ad (rfv i j)))))))
/-- the first nN cells -/
def wsE (ad : Nat → Nat) (C : CT) (nN : Nat) (σ : St) : va_W := (List.range nN).map fun i => (ad i, cellE ad C σ i)
/-- the law's script: its numbers, its length; in a state it stands in the rows 68 and 69 -/
abbrev Sx : Type := (Nat → Int32) × Nat
def sc (σ : St) (S : Sx) : Prop := σ.1 68 = S.1 ∧ σ.1 69 0 = Int32.ofNat S.2 ∧ S.2 ≤ 260
def aTys (C : CT) : List (ClassId × FieldType) := [(C.1, .int), (C.2.1, .long), (C.2.2, .object "GivenGoesOn$Gift")]
/-- the words that every method of ours may use -/
def aT : List Cond := lw_tbl.filter goodWord
def isNest : Cond → Bool
  | .methodLinkNest .. => true
  | _ => false
def aNst : List Cond := lw_tbl.filter isNest
def aK (D : va_G) (C : CT) (U : State) : Prop := va_K D vwCl (aTys C) U ∧ ∀ w ∈ aNst, va_Nw w U
theorem isNest_of {w : Cond} (h : isNest w = true) : ∃ own i x host, w = .methodLinkNest own i x host := by
  cases w <;> first | exact ⟨_, _, _, _, rfl⟩ | (simp [isNest] at h)
theorem aK.warm {D : va_G} {C : CT} {s U : State} (hW : s.WarmedH U.vm) (h : aK D C s) : aK D C U := by
  refine ⟨va_K.moved hW.alike h.1, fun w hw => ?_⟩
  obtain ⟨own, i, x, host, rfl⟩ := isNest_of (List.mem_filter.mp hw).2
  exact va_Nw.warmM hW (h.2 _ hw)
theorem aK.same {D : va_G} {C : CT} {s U : State} (hvm : s.vm = U.vm) (h : aK D C s) : aK D C U := by
  refine ⟨va_K.moved (by rw [hvm]; exact Vm.Alike.refl _) h.1, fun w hw => ?_⟩
  obtain ⟨own, i, x, host, rfl⟩ := isNest_of (List.mem_filter.mp hw).2
  exact va_Nw.same rfl hvm (h.2 _ hw)
abbrev MI : Type := MethodName × ByteArray × Nat × Option FieldType
def mWs (M : MI) : List Cond := .code M.1 M.2.1 M.2.2.1 M.2.2.2 :: aT
def aB (D : va_G) (C : CT) (ad : Nat → Nat) (nN : Nat) (S : Sx) (A0 : Nat → Prop) (τ : St) (U : State) : Prop := va_P D vwCl (wsE ad C nN τ) U.heap ∧ aK D C U ∧ va_D A0 (wsE ad C nN τ) ∧ sc τ S
def aQ (D : va_G) (C : CT) (ad : Nat → Nat) (nN : Nat) (S : Sx) (A0 : Nat → Prop) (r : Option Value) (τ : St) : Array Value → State → Outcome → State → Prop := fun _ st oc t =>
  (oc = .returned (r.map (rv ad)) ∧ aB D C ad nN S A0 τ t) ∧ va_F A0 st t
/-- what a walk is held to: the cells and slots that it has used, what its frame must be, where it must come to -/
abbrev JX : Type := (Nat × Nat) × (Room → Array Value → State → (Nat → Prop) → Prop) × (va_G → CT → (Nat → Nat) → Nat → Sx → List Frame → Array Value → State → (Nat → Prop) → State → Prop)
/-- where a frame of the method M stands: the machine, its code, the words, the room for e calls one in another -/
def Cx (K : Nat → Prop) (B : JX) (M : MI) (e : Nat) (D : va_G) (C : CT) (ad : Nat → Nat) (nN : Nat) (S : Sx) (p : Program) (R : Room) (s : State) (m : MethodId) (args : Array Value) (meth : Method) (c : Code) (A0 : Nat → Prop) : Prop :=
  p.tables.exec = Jvm.exec ∧ c.code = M.2.1 ∧ c.maxLocals = M.2.2.1 ∧ meth.sig.returnType = M.2.2.2 ∧ meth.locks = false ∧ s.vm.findClass M.1.cls = some m.cls ∧ (∀ w ∈ aT, w.before args s = true) ∧ aK D C s ∧ e ≤ R.frames ∧ 36 * e ≤ R.locals ∧ (K nN ∧ nN ≤ 68) ∧ (B.1.1 ≤ R.cells ∧ B.1.2 ≤ R.slots) ∧ (va_X (ad 68) S.2 S.1 s s.heap ∧ ad 68 < s.heap.size ∧ ¬ A0 (ad 68)) ∧ B.2.1 R args s A0
def Hp (D : va_G) (C : CT) (ad : Nat → Nat) (nN : Nat) (S : Sx) (A0 : Nat → Prop) (s : State) (σ : St) (H : Heap) (locs : List Loc) : Prop :=
  va_P D vwCl (wsE ad C nN σ) H ∧ va_D A0 (wsE ad C nN σ) ∧ va_S A0 s.heap H locs ∧ sc σ S
def lm (ad : Nat → Nat) (loc : List (Nat × Value)) : List (Nat × Value) := loc.map fun q => (q.1, rv ad q.2)
/-- THE JUDGEMENT: from here the walk comes where it must -/
def J (K : Nat → Prop) (B : JX) (e : Nat) (M : MI) (pc : Nat) (loc : List (Nat × Value)) (stk : List Value) (σ : St) : Prop :=
  ∀ (l : Launch) (D : va_G) (C : CT) (ad : Nat → Nat) (nN : Nat) (S : Sx) (p : Program) (ev : Env) (R : Room) (s : State) (m : MethodId) (args : Array Value) (below : List Frame) (meth : Method) (c : Code) (A0 : Nat → Prop) (H : Heap) (locs : List Loc) (ls : Array Slot),
    Cx K B M e D C ad nN S p R s m args meth c A0 → (∀ q, s.heap.size ≤ q → A0 q) → Hp D C ad nN S A0 s σ H locs → lv_has ls M.2.2.1 (lm ad loc) →
    W p l ev R s m args below meth c H locs B.1.1 B.1.2 (B.2.2 D C ad nN S below args s A0) (F0 m pc ls (stk.map (rv ad)))
/-- a method's walk: to its end, with the answer r and the state τ -/
abbrev BA (r : Option Value) (τ : St) : JX := ((0, 0), fun _ _ _ _ => True, fun D C ad nN S below args s A0 => MQ below (aQ D C ad nN S A0 r τ) args s 0 0 A0)
abbrev K58 : Nat → Prop := fun n => 58 ≤ n
abbrev AL (K : Nat → Prop) (e : Nat) (M : MI) (pc : Nat) (loc : List (Nat × Value)) (stk : List Value) (σ : St) (r : Option Value) (τ : St) : Prop := J K (BA r τ) e M pc loc stk σ
abbrev A (e : Nat) (M : MI) (pc : Nat) (loc : List (Nat × Value)) (stk : List Value) (σ : St) (r : Option Value) (τ : St) : Prop := J K58 (BA r τ) e M pc loc stk σ
/-- THE CONTRACT of a method: called with these arguments in the state σ it answers r and leaves τ -/
def SpK (K : Nat → Prop) (e : Nat) (M : MI) (as : List Value) (σ : St) (r : Option Value) (τ : St) : Prop :=
  ∀ (l : Launch) (D : va_G) (C : CT) (ad : Nat → Nat) (nN : Nat) (S : Sx) (sz : Nat), K nN → nN ≤ 68 → Met l M.1 (mWs M) ({ frames := e, cells := 0, slots := 0, locals := 36 * e } : Room)
    (va_Pc (as.map (rv ad)) (fun U => U.heap.size = sz ∧ va_P D vwCl (wsE ad C nN σ) U.heap ∧ aK D C U ∧ va_D (fun _ => True) (wsE ad C nN σ) ∧ (va_X (ad 68) S.2 S.1 U U.heap ∧ ad 68 < sz ∧ ¬ va_A (wsE ad C nN σ) sz (ad 68)) ∧ sc σ S)) (aQ D C ad nN S (va_A (wsE ad C nN σ) sz) r τ) 0 0 (va_A (wsE ad C nN σ) sz)
abbrev Sp (e : Nat) (M : MI) (as : List Value) (σ : St) (r : Option Value) (τ : St) : Prop := SpK K58 e M as σ r τ
theorem SpK.mono {K K' : Nat → Prop} {e : Nat} {M : MI} {as : List Value} {σ : St} {r : Option Value} {τ : St} (h : SpK K e M as σ r τ) (hk : ∀ n, K' n → K n) : SpK K' e M as σ r τ := fun l D C ad nN S sz h1 h2 => h l D C ad nN S sz (hk _ h1) h2
theorem wsE_at (ad : Nat → Nat) (C : CT) (σ : St) {i nN : Nat} (hi : i < nN) : (wsE ad C nN σ)[i]? = some (ad i, cellE ad C σ i) := by
  simp [wsE, List.getElem?_map, List.getElem?_range hi]
theorem wsE_set (ad : Nat → Nat) (C : CT) (σ σ' : St) {i nN : Nat} (hi : i < nN) {e : va_E} (he : e = cellE ad C σ' i) (ho : ∀ j, j ≠ i → cellE ad C σ' j = cellE ad C σ j) : (wsE ad C nN σ).set i (ad i, e) = wsE ad C nN σ' := by
  apply List.ext_getElem?
  intro j
  by_cases hj : j = i
  · subst hj
    rw [List.getElem?_set_self (by simp [wsE]; exact hi), wsE_at ad C σ' hi, he]
  · rw [List.getElem?_set_ne (Ne.symm hj)]
    by_cases hl : j < nN
    · rw [wsE_at ad C σ hl, wsE_at ad C σ' hl, ho j hj]
    · simp [wsE, List.getElem?_map, List.getElem?_eq_none (by simp; omega : (List.range nN).length ≤ j)]
theorem sc_setI {σ : St} {S : Sx} {i k : Nat} {v : Int32} (h : sc σ S) (hi : i < 68) : sc (setI σ i k v) S := by
  obtain ⟨h1, h2, h3⟩ := h
  refine ⟨?_, ?_, h3⟩
  · rw [← h1]; funext b; simp only [setI]; rw [if_neg (fun q => by omega)]
  · rw [← h2]; simp only [setI]; rw [if_neg (fun q => by omega)]
theorem sc_setL {σ : St} {S : Sx} {i k : Nat} {v : Int64} (h : sc σ S) : sc (setL σ i k v) S := h
theorem sc_cpyI {σ : St} {S : Sx} {i j n : Nat} (h : sc σ S) (hi : j < 68) : sc (cpyI σ i j n) S := by
  obtain ⟨h1, h2, h3⟩ := h
  refine ⟨?_, ?_, h3⟩
  · rw [← h1]; funext b; simp only [cpyI]; rw [if_neg (fun q => by omega)]
  · rw [← h2]; simp only [cpyI]; rw [if_neg (fun q => by omega)]
theorem sc_cpyL {σ : St} {S : Sx} {i j n : Nat} (h : sc σ S) : sc (cpyL σ i j n) S := h
theorem cellE_1 (ad : Nat → Nat) (C : CT) (σ : St) {i : Nat} (h : kd i = 1) : cellE ad C σ i = .inr (cl i, (List.range (nsl i)).map fun k => rv ad (av σ i k)) := by simp [cellE, h]
theorem cellE_2 (ad : Nat → Nat) (C : CT) (σ : St) {i : Nat} (h : kd i = 2) : cellE ad C σ i = .inl (C.1, (nsl i, .inl (σ.1 i))) := by simp [cellE, h]
theorem cellE_3 (ad : Nat → Nat) (C : CT) (σ : St) {i : Nat} (h : kd i = 3) : cellE ad C σ i = .inl (C.2.1, (nsl i, .inr (.inl (σ.2 i)))) := by simp [cellE, h]
theorem cellE_4 (ad : Nat → Nat) (C : CT) (σ : St) {i : Nat} (h : kd i = 4) : cellE ad C σ i = .inl (C.2.2, (nsl i, .inr (.inr (.inr (.inr fun j => some (ad (rfv i j))))))) := by simp [cellE, h]
theorem cellE_setI_ne (ad : Nat → Nat) (C : CT) (σ : St) {i j k : Nat} {v : Int32} (h : j ≠ i) : cellE ad C (setI σ i k v) j = cellE ad C σ j := by
  have e1 : (setI σ i k v).1 j = σ.1 j := by funext b; simp [setI, h]
  have e2 : ∀ b, av (setI σ i k v) j b = av σ j b := fun b => by simp only [av, e1]; rfl
  simp only [cellE, e1, e2]
  rfl
theorem cellE_setL_ne (ad : Nat → Nat) (C : CT) (σ : St) {i j k : Nat} {v : Int64} (h : j ≠ i) : cellE ad C (setL σ i k v) j = cellE ad C σ j := by
  have e1 : (setL σ i k v).2 j = σ.2 j := by funext b; simp [setL, h]
  have e2 : ∀ b, av (setL σ i k v) j b = av σ j b := fun b => by simp only [av, e1]; rfl
  simp only [cellE, e1, e2]
  rfl
theorem cellE_cpyI_ne (ad : Nat → Nat) (C : CT) (σ : St) {i j n a : Nat} (h : a ≠ j) : cellE ad C (cpyI σ i j n) a = cellE ad C σ a := by
  have e1 : (cpyI σ i j n).1 a = σ.1 a := by funext b; simp [cpyI, h]
  have e2 : ∀ b, av (cpyI σ i j n) a b = av σ a b := fun b => by simp only [av, e1]; rfl
  simp only [cellE, e1, e2]
  rfl
theorem cellE_cpyL_ne (ad : Nat → Nat) (C : CT) (σ : St) {i j n a : Nat} (h : a ≠ j) : cellE ad C (cpyL σ i j n) a = cellE ad C σ a := by
  have e1 : (cpyL σ i j n).2 a = σ.2 a := by funext b; simp [cpyL, h]
  have e2 : ∀ b, av (cpyL σ i j n) a b = av σ a b := fun b => by simp only [av, e1]; rfl
  simp only [cellE, e1, e2]
  rfl
theorem lm_at {ad : Nat → Nat} {loc : List (Nat × Value)} {k i : Nat} {v : Value} (h : loc[k]? = some (i, v)) : (lm ad loc)[k]? = some (i, rv ad v) := by
  simp [lm, List.getElem?_map, h]
theorem lm_pick {ad : Nat → Nat} {loc loc' : List (Nat × Value)} {ks : List Nat} (h : lv_pick loc ks = loc') : lv_pick (lm ad loc) ks = lm ad loc' := by
  subst h
  simp only [lv_pick, lm, List.map_filterMap, List.getElem?_map]
def st1 (i : Nat) (v : Value) (loc : List (Nat × Value)) : List (Nat × Value) := (i, v) :: loc.filter (fun q => !(q.1 == i) && !(q.1 + 1 == i && q.2.category == 2))
def st2 (i : Nat) (v : Value) (loc : List (Nat × Value)) : List (Nat × Value) := (i, v) :: loc.filter (fun q => !(q.1 == i) && (!(q.1 == i + 1) && !(q.1 + 1 == i && q.2.category == 2)))
theorem lm_st1 {ad : Nat → Nat} {loc loc' : List (Nat × Value)} {i : Nat} {v : Value} (h : st1 i v loc = loc') : (i, rv ad v) :: (lm ad loc).filter (fun q => !(q.1 == i) && !(q.1 + 1 == i && q.2.category == 2)) = lm ad loc' := by
  subst h
  simp only [st1, lm, List.map_cons, List.filter_map]
  congr 2
  apply List.filter_congr
  intro q _
  simp [rv_cat]
theorem lm_st2 {ad : Nat → Nat} {loc loc' : List (Nat × Value)} {i : Nat} {v : Value} (h : st2 i v loc = loc') : (i, rv ad v) :: (lm ad loc).filter (fun q => !(q.1 == i) && (!(q.1 == i + 1) && !(q.1 + 1 == i && q.2.category == 2))) = lm ad loc' := by
  subst h
  simp only [st2, lm, List.map_cons, List.filter_map]
  congr 2
  apply List.filter_congr
  intro q _
  simp [rv_cat]

section AR
variable {K : Nat → Prop} {B : JX} {e : Nat} {M : MI} {pc : Nat} {loc loc' : List (Nat × Value)} {stk : List Value} {σ τ : St} {r : Option Value}
theorem a_iconst {n : Int} (v : Int32) (hd : decode M.2.1 pc = .ok (.iconst n, 1)) (hv : Int32.ofInt n = v) (k : J K B e M (pc + 1) loc (.int v :: stk) σ) : J K B e M pc loc (stk) σ := by
  intro l D C ad nN S p ev R s m args below meth c A0 H locs ls X hA Y hl
  obtain ⟨hx, hb, hml, hr, hlk, hown, hts, hK, hf, hlo, hKn, hB, hSc, hTh⟩ := id X
  exact lv_iconst hx hb hd hv (k l D C ad nN S p ev R s m args below meth c A0 H locs ls X hA Y hl)
theorem a_bipush {n : Int} (v : Int32) (hd : decode M.2.1 pc = .ok (.bipush n, 2)) (hv : (Int8.ofInt n).toInt32 = v) (k : J K B e M (pc + 2) loc (.int v :: stk) σ) : J K B e M pc loc (stk) σ := by
  intro l D C ad nN S p ev R s m args below meth c A0 H locs ls X hA Y hl
  obtain ⟨hx, hb, hml, hr, hlk, hown, hts, hK, hf, hlo, hKn, hB, hSc, hTh⟩ := id X
  exact lv_bipush hx hb hd hv (k l D C ad nN S p ev R s m args below meth c A0 H locs ls X hA Y hl)
theorem a_sipush {n : Int} (v : Int32) (hd : decode M.2.1 pc = .ok (.sipush n, 3)) (hv : (Int16.ofInt n).toInt32 = v) (k : J K B e M (pc + 3) loc (.int v :: stk) σ) : J K B e M pc loc (stk) σ := by
  intro l D C ad nN S p ev R s m args below meth c A0 H locs ls X hA Y hl
  obtain ⟨hx, hb, hml, hr, hlk, hown, hts, hK, hf, hlo, hKn, hB, hSc, hTh⟩ := id X
  exact lv_sipush hx hb hd hv (k l D C ad nN S p ev R s m args below meth c A0 H locs ls X hA Y hl)
theorem a_lconst {n : Fin 2} (v : Int64) (hd : decode M.2.1 pc = .ok (.lconst n, 1)) (hv : Int64.ofNat (n : Nat) = v) (k : J K B e M (pc + 1) loc (.long v :: stk) σ) : J K B e M pc loc (stk) σ := by
  intro l D C ad nN S p ev R s m args below meth c A0 H locs ls X hA Y hl
  obtain ⟨hx, hb, hml, hr, hlk, hown, hts, hK, hf, hlo, hKn, hB, hSc, hTh⟩ := id X
  exact lv_lconst hx hb hd hv (k l D C ad nN S p ev R s m args below meth c A0 H locs ls X hA Y hl)
theorem a_null (hd : decode M.2.1 pc = .ok (.aconst_null, 1)) (k : J K B e M (pc + 1) loc (.null :: stk) σ) : J K B e M pc loc (stk) σ := by
  intro l D C ad nN S p ev R s m args below meth c A0 H locs ls X hA Y hl
  obtain ⟨hx, hb, hml, hr, hlk, hown, hts, hK, hf, hlo, hKn, hB, hSc, hTh⟩ := id X
  exact lv_null hx hb hd (k l D C ad nN S p ev R s m args below meth c A0 H locs ls X hA Y hl)
theorem a_ldc {own : String} {ix : Nat} {v : Int32} (ho : own = M.1.cls) (hc : Cond.constant own ix v ∈ aT) (hd : decode M.2.1 pc = .ok (.ldc ix, 2)) (k : J K B e M (pc + 2) loc (.int v :: stk) σ) : J K B e M pc loc (stk) σ := by
  intro l D C ad nN S p ev R s m args below meth c A0 H locs ls X hA Y hl
  obtain ⟨hx, hb, hml, hr, hlk, hown, hts, hK, hf, hlo, hKn, hB, hSc, hTh⟩ := id X
  subst ho
  exact lv_ldc hx hb hown (hts _ hc) hd (k l D C ad nN S p ev R s m args below meth c A0 H locs ls X hA Y hl)
theorem a_ldcw {own : String} {ix : Nat} {v : Int32} (ho : own = M.1.cls) (hc : Cond.constant own ix v ∈ aT) (hd : decode M.2.1 pc = .ok (.ldc_w ix, 3)) (k : J K B e M (pc + 3) loc (.int v :: stk) σ) : J K B e M pc loc (stk) σ := by
  intro l D C ad nN S p ev R s m args below meth c A0 H locs ls X hA Y hl
  obtain ⟨hx, hb, hml, hr, hlk, hown, hts, hK, hf, hlo, hKn, hB, hSc, hTh⟩ := id X
  subst ho
  exact lv_ldcw hx hb hown (hts _ hc) hd (k l D C ad nN S p ev R s m args below meth c A0 H locs ls X hA Y hl)
theorem a_ldc2 {own : String} {ix : Nat} {v : Int64} (ho : own = M.1.cls) (hc : Cond.constantLong own ix v ∈ aT) (hd : decode M.2.1 pc = .ok (.ldc2_w ix, 3)) (k : J K B e M (pc + 3) loc (.long v :: stk) σ) : J K B e M pc loc (stk) σ := by
  intro l D C ad nN S p ev R s m args below meth c A0 H locs ls X hA Y hl
  obtain ⟨hx, hb, hml, hr, hlk, hown, hts, hK, hf, hlo, hKn, hB, hSc, hTh⟩ := id X
  subst ho
  exact lv_ldc2 hx hb hown (hts _ hc) hd (k l D C ad nN S p ev R s m args below meth c A0 H locs ls X hA Y hl)
theorem a_iload_n {j : Fin 4} {i : Nat} {x : Int32} (hd : decode M.2.1 pc = .ok (.iload_n j, 1)) (hi : (j : Nat) = i) (q : Nat) (hq : loc[q]? = some (i, .int x)) (k : J K B e M (pc + 1) loc (.int x :: stk) σ) : J K B e M pc loc (stk) σ := by
  intro l D C ad nN S p ev R s m args below meth c A0 H locs ls X hA Y hl
  obtain ⟨hx, hb, hml, hr, hlk, hown, hts, hK, hf, hlo, hKn, hB, hSc, hTh⟩ := id X
  exact lv_iload_n hx hb hd hi (lv_at hl q (lm_at hq)) (k l D C ad nN S p ev R s m args below meth c A0 H locs ls X hA Y hl)
theorem a_iload {i : Nat} {x : Int32} (hd : decode M.2.1 pc = .ok (.iload i, 2)) (q : Nat) (hq : loc[q]? = some (i, .int x)) (k : J K B e M (pc + 2) loc (.int x :: stk) σ) : J K B e M pc loc (stk) σ := by
  intro l D C ad nN S p ev R s m args below meth c A0 H locs ls X hA Y hl
  obtain ⟨hx, hb, hml, hr, hlk, hown, hts, hK, hf, hlo, hKn, hB, hSc, hTh⟩ := id X
  exact lv_iload hx hb hd (lv_at hl q (lm_at hq)) (k l D C ad nN S p ev R s m args below meth c A0 H locs ls X hA Y hl)
theorem a_lload_n {j : Fin 4} {i : Nat} {x : Int64} (hd : decode M.2.1 pc = .ok (.lload_n j, 1)) (hi : (j : Nat) = i) (q : Nat) (hq : loc[q]? = some (i, .long x)) (k : J K B e M (pc + 1) loc (.long x :: stk) σ) : J K B e M pc loc (stk) σ := by
  intro l D C ad nN S p ev R s m args below meth c A0 H locs ls X hA Y hl
  obtain ⟨hx, hb, hml, hr, hlk, hown, hts, hK, hf, hlo, hKn, hB, hSc, hTh⟩ := id X
  exact lv_lload_n hx hb hd hi (lv_at hl q (lm_at hq)) (k l D C ad nN S p ev R s m args below meth c A0 H locs ls X hA Y hl)
theorem a_lload {i : Nat} {x : Int64} (hd : decode M.2.1 pc = .ok (.lload i, 2)) (q : Nat) (hq : loc[q]? = some (i, .long x)) (k : J K B e M (pc + 2) loc (.long x :: stk) σ) : J K B e M pc loc (stk) σ := by
  intro l D C ad nN S p ev R s m args below meth c A0 H locs ls X hA Y hl
  obtain ⟨hx, hb, hml, hr, hlk, hown, hts, hK, hf, hlo, hKn, hB, hSc, hTh⟩ := id X
  exact lv_lload hx hb hd (lv_at hl q (lm_at hq)) (k l D C ad nN S p ev R s m args below meth c A0 H locs ls X hA Y hl)
theorem a_aload_n {j : Fin 4} {i : Nat} {x : Nat} (hd : decode M.2.1 pc = .ok (.aload_n j, 1)) (hi : (j : Nat) = i) (q : Nat) (hq : loc[q]? = some (i, .ref x)) (k : J K B e M (pc + 1) loc (.ref x :: stk) σ) : J K B e M pc loc (stk) σ := by
  intro l D C ad nN S p ev R s m args below meth c A0 H locs ls X hA Y hl
  obtain ⟨hx, hb, hml, hr, hlk, hown, hts, hK, hf, hlo, hKn, hB, hSc, hTh⟩ := id X
  exact lv_aload_n hx hb hd hi (lv_at hl q (lm_at hq)) (k l D C ad nN S p ev R s m args below meth c A0 H locs ls X hA Y hl)
theorem a_aload {i : Nat} {x : Nat} (hd : decode M.2.1 pc = .ok (.aload i, 2)) (q : Nat) (hq : loc[q]? = some (i, .ref x)) (k : J K B e M (pc + 2) loc (.ref x :: stk) σ) : J K B e M pc loc (stk) σ := by
  intro l D C ad nN S p ev R s m args below meth c A0 H locs ls X hA Y hl
  obtain ⟨hx, hb, hml, hr, hlk, hown, hts, hK, hf, hlo, hKn, hB, hSc, hTh⟩ := id X
  exact lv_aload hx hb hd (lv_at hl q (lm_at hq)) (k l D C ad nN S p ev R s m args below meth c A0 H locs ls X hA Y hl)
theorem a_aload_nN {j : Fin 4} {i : Nat} (hd : decode M.2.1 pc = .ok (.aload_n j, 1)) (hi : (j : Nat) = i) (q : Nat) (hq : loc[q]? = some (i, .null)) (k : J K B e M (pc + 1) loc (.null :: stk) σ) : J K B e M pc loc (stk) σ := by
  intro l D C ad nN S p ev R s m args below meth c A0 H locs ls X hA Y hl
  obtain ⟨hx, hb, hml, hr, hlk, hown, hts, hK, hf, hlo, hKn, hB, hSc, hTh⟩ := id X
  exact lv_aload_nN hx hb hd hi (lv_at hl q (lm_at hq)) (k l D C ad nN S p ev R s m args below meth c A0 H locs ls X hA Y hl)
theorem a_aloadN {i : Nat} (hd : decode M.2.1 pc = .ok (.aload i, 2)) (q : Nat) (hq : loc[q]? = some (i, .null)) (k : J K B e M (pc + 2) loc (.null :: stk) σ) : J K B e M pc loc (stk) σ := by
  intro l D C ad nN S p ev R s m args below meth c A0 H locs ls X hA Y hl
  obtain ⟨hx, hb, hml, hr, hlk, hown, hts, hK, hf, hlo, hKn, hB, hSc, hTh⟩ := id X
  exact lv_aloadN hx hb hd (lv_at hl q (lm_at hq)) (k l D C ad nN S p ev R s m args below meth c A0 H locs ls X hA Y hl)
theorem a_istore_n {j : Fin 4} {i : Nat} {x : Int32} (hd : decode M.2.1 pc = .ok (.istore_n j, 1)) (hi : (j : Nat) = i) (hn : i < M.2.2.1) (hq : st1 i (.int x) loc = loc') (k : J K B e M (pc + 1) loc' (stk) σ) : J K B e M pc loc (.int x :: stk) σ := by
  intro l D C ad nN S p ev R s m args below meth c A0 H locs ls X hA Y hl
  obtain ⟨hx, hb, hml, hr, hlk, hown, hts, hK, hf, hlo, hKn, hB, hSc, hTh⟩ := id X
  exact lv_istore_n hx hb hd hi hl hn (lm_st1 hq) (fun ls' hl' => k l D C ad nN S p ev R s m args below meth c A0 H locs ls' X hA Y hl')
theorem a_istore {i : Nat} {x : Int32} (hd : decode M.2.1 pc = .ok (.istore i, 2)) (hn : i < M.2.2.1) (hq : st1 i (.int x) loc = loc') (k : J K B e M (pc + 2) loc' (stk) σ) : J K B e M pc loc (.int x :: stk) σ := by
  intro l D C ad nN S p ev R s m args below meth c A0 H locs ls X hA Y hl
  obtain ⟨hx, hb, hml, hr, hlk, hown, hts, hK, hf, hlo, hKn, hB, hSc, hTh⟩ := id X
  exact lv_istore hx hb hd hl hn (lm_st1 hq) (fun ls' hl' => k l D C ad nN S p ev R s m args below meth c A0 H locs ls' X hA Y hl')
theorem a_lstore_n {j : Fin 4} {i : Nat} {x : Int64} (hd : decode M.2.1 pc = .ok (.lstore_n j, 1)) (hi : (j : Nat) = i) (hn : i + 1 < M.2.2.1) (hq : st2 i (.long x) loc = loc') (k : J K B e M (pc + 1) loc' (stk) σ) : J K B e M pc loc (.long x :: stk) σ := by
  intro l D C ad nN S p ev R s m args below meth c A0 H locs ls X hA Y hl
  obtain ⟨hx, hb, hml, hr, hlk, hown, hts, hK, hf, hlo, hKn, hB, hSc, hTh⟩ := id X
  exact lv_lstore_n hx hb hd hi hl hn (lm_st2 hq) (fun ls' hl' => k l D C ad nN S p ev R s m args below meth c A0 H locs ls' X hA Y hl')
theorem a_lstore {i : Nat} {x : Int64} (hd : decode M.2.1 pc = .ok (.lstore i, 2)) (hn : i + 1 < M.2.2.1) (hq : st2 i (.long x) loc = loc') (k : J K B e M (pc + 2) loc' (stk) σ) : J K B e M pc loc (.long x :: stk) σ := by
  intro l D C ad nN S p ev R s m args below meth c A0 H locs ls X hA Y hl
  obtain ⟨hx, hb, hml, hr, hlk, hown, hts, hK, hf, hlo, hKn, hB, hSc, hTh⟩ := id X
  exact lv_lstore hx hb hd hl hn (lm_st2 hq) (fun ls' hl' => k l D C ad nN S p ev R s m args below meth c A0 H locs ls' X hA Y hl')
theorem a_astore_n {j : Fin 4} {i : Nat} {x : Nat} (hd : decode M.2.1 pc = .ok (.astore_n j, 1)) (hi : (j : Nat) = i) (hn : i < M.2.2.1) (hq : st1 i (.ref x) loc = loc') (k : J K B e M (pc + 1) loc' (stk) σ) : J K B e M pc loc (.ref x :: stk) σ := by
  intro l D C ad nN S p ev R s m args below meth c A0 H locs ls X hA Y hl
  obtain ⟨hx, hb, hml, hr, hlk, hown, hts, hK, hf, hlo, hKn, hB, hSc, hTh⟩ := id X
  exact lv_astore_n hx hb hd hi hl hn (lm_st1 hq) (fun ls' hl' => k l D C ad nN S p ev R s m args below meth c A0 H locs ls' X hA Y hl')
theorem a_astore {i : Nat} {x : Nat} (hd : decode M.2.1 pc = .ok (.astore i, 2)) (hn : i < M.2.2.1) (hq : st1 i (.ref x) loc = loc') (k : J K B e M (pc + 2) loc' (stk) σ) : J K B e M pc loc (.ref x :: stk) σ := by
  intro l D C ad nN S p ev R s m args below meth c A0 H locs ls X hA Y hl
  obtain ⟨hx, hb, hml, hr, hlk, hown, hts, hK, hf, hlo, hKn, hB, hSc, hTh⟩ := id X
  exact lv_astore hx hb hd hl hn (lm_st1 hq) (fun ls' hl' => k l D C ad nN S p ev R s m args below meth c A0 H locs ls' X hA Y hl')
theorem a_iinc {i : Nat} {n : Int} {x : Int32} (v : Int32) (hd : decode M.2.1 pc = .ok (.iinc i n, 3)) (q : Nat) (hq : loc[q]? = some (i, .int x)) (hv : x + Int32.ofInt n = v) (hn : i < M.2.2.1) (hs : st1 i (.int v) loc = loc') (k : J K B e M (pc + 3) loc' (stk) σ) : J K B e M pc loc (stk) σ := by
  intro l D C ad nN S p ev R s m args below meth c A0 H locs ls X hA Y hl
  obtain ⟨hx, hb, hml, hr, hlk, hown, hts, hK, hf, hlo, hKn, hB, hSc, hTh⟩ := id X
  exact lv_iinc hx hb hd hl (lm_at hq) hv hn (lm_st1 hs) (fun ls' hl' => k l D C ad nN S p ev R s m args below meth c A0 H locs ls' X hA Y hl')
theorem a_locs (ks : List Nat) (hs : lv_pick loc ks = loc') (k : J K B e M (pc) loc' (stk) σ) : J K B e M pc loc (stk) σ := by
  intro l D C ad nN S p ev R s m args below meth c A0 H locs ls X hA Y hl
  obtain ⟨hx, hb, hml, hr, hlk, hown, hts, hK, hf, hlo, hKn, hB, hSc, hTh⟩ := id X
  exact k l D C ad nN S p ev R s m args below meth c A0 H locs ls X hA Y (lv_sub hl ks (lm_pick hs))
theorem a_iadd {x y : Int32} (hd : decode M.2.1 pc = .ok (.iadd, 1)) (k : J K B e M (pc + 1) loc (.int (x + y) :: stk) σ) : J K B e M pc loc (.int y :: .int x :: stk) σ := by
  intro l D C ad nN S p ev R s m args below meth c A0 H locs ls X hA Y hl
  obtain ⟨hx, hb, hml, hr, hlk, hown, hts, hK, hf, hlo, hKn, hB, hSc, hTh⟩ := id X
  exact lv_iadd hx hb hd (k l D C ad nN S p ev R s m args below meth c A0 H locs ls X hA Y hl)
theorem a_isub {x y : Int32} (hd : decode M.2.1 pc = .ok (.isub, 1)) (k : J K B e M (pc + 1) loc (.int (x - y) :: stk) σ) : J K B e M pc loc (.int y :: .int x :: stk) σ := by
  intro l D C ad nN S p ev R s m args below meth c A0 H locs ls X hA Y hl
  obtain ⟨hx, hb, hml, hr, hlk, hown, hts, hK, hf, hlo, hKn, hB, hSc, hTh⟩ := id X
  exact lv_isub hx hb hd (k l D C ad nN S p ev R s m args below meth c A0 H locs ls X hA Y hl)
theorem a_imul {x y : Int32} (hd : decode M.2.1 pc = .ok (.imul, 1)) (k : J K B e M (pc + 1) loc (.int (x * y) :: stk) σ) : J K B e M pc loc (.int y :: .int x :: stk) σ := by
  intro l D C ad nN S p ev R s m args below meth c A0 H locs ls X hA Y hl
  obtain ⟨hx, hb, hml, hr, hlk, hown, hts, hK, hf, hlo, hKn, hB, hSc, hTh⟩ := id X
  exact lv_imul hx hb hd (k l D C ad nN S p ev R s m args below meth c A0 H locs ls X hA Y hl)
theorem a_iand {x y : Int32} (hd : decode M.2.1 pc = .ok (.iand, 1)) (k : J K B e M (pc + 1) loc (.int (x &&& y) :: stk) σ) : J K B e M pc loc (.int y :: .int x :: stk) σ := by
  intro l D C ad nN S p ev R s m args below meth c A0 H locs ls X hA Y hl
  obtain ⟨hx, hb, hml, hr, hlk, hown, hts, hK, hf, hlo, hKn, hB, hSc, hTh⟩ := id X
  exact lv_iand hx hb hd (k l D C ad nN S p ev R s m args below meth c A0 H locs ls X hA Y hl)
theorem a_ior {x y : Int32} (hd : decode M.2.1 pc = .ok (.ior, 1)) (k : J K B e M (pc + 1) loc (.int (x ||| y) :: stk) σ) : J K B e M pc loc (.int y :: .int x :: stk) σ := by
  intro l D C ad nN S p ev R s m args below meth c A0 H locs ls X hA Y hl
  obtain ⟨hx, hb, hml, hr, hlk, hown, hts, hK, hf, hlo, hKn, hB, hSc, hTh⟩ := id X
  exact lv_ior hx hb hd (k l D C ad nN S p ev R s m args below meth c A0 H locs ls X hA Y hl)
theorem a_ixor {x y : Int32} (hd : decode M.2.1 pc = .ok (.ixor, 1)) (k : J K B e M (pc + 1) loc (.int (x ^^^ y) :: stk) σ) : J K B e M pc loc (.int y :: .int x :: stk) σ := by
  intro l D C ad nN S p ev R s m args below meth c A0 H locs ls X hA Y hl
  obtain ⟨hx, hb, hml, hr, hlk, hown, hts, hK, hf, hlo, hKn, hB, hSc, hTh⟩ := id X
  exact lv_ixor hx hb hd (k l D C ad nN S p ev R s m args below meth c A0 H locs ls X hA Y hl)
theorem a_ishl {x y : Int32} (hd : decode M.2.1 pc = .ok (.ishl, 1)) (k : J K B e M (pc + 1) loc (.int (x <<< (y &&& 31)) :: stk) σ) : J K B e M pc loc (.int y :: .int x :: stk) σ := by
  intro l D C ad nN S p ev R s m args below meth c A0 H locs ls X hA Y hl
  obtain ⟨hx, hb, hml, hr, hlk, hown, hts, hK, hf, hlo, hKn, hB, hSc, hTh⟩ := id X
  exact lv_ishl hx hb hd (k l D C ad nN S p ev R s m args below meth c A0 H locs ls X hA Y hl)
theorem a_ishr {x y : Int32} (hd : decode M.2.1 pc = .ok (.ishr, 1)) (k : J K B e M (pc + 1) loc (.int (x >>> (y &&& 31)) :: stk) σ) : J K B e M pc loc (.int y :: .int x :: stk) σ := by
  intro l D C ad nN S p ev R s m args below meth c A0 H locs ls X hA Y hl
  obtain ⟨hx, hb, hml, hr, hlk, hown, hts, hK, hf, hlo, hKn, hB, hSc, hTh⟩ := id X
  exact lv_ishr hx hb hd (k l D C ad nN S p ev R s m args below meth c A0 H locs ls X hA Y hl)
theorem a_idiv {x y : Int32} (hy : ¬ y = 0) (hd : decode M.2.1 pc = .ok (.idiv, 1)) (k : J K B e M (pc + 1) loc (.int (x / y) :: stk) σ) : J K B e M pc loc (.int y :: .int x :: stk) σ := by
  intro l D C ad nN S p ev R s m args below meth c A0 H locs ls X hA Y hl
  obtain ⟨hx, hb, hml, hr, hlk, hown, hts, hK, hf, hlo, hKn, hB, hSc, hTh⟩ := id X
  exact lv_idiv hx hb hd hy (k l D C ad nN S p ev R s m args below meth c A0 H locs ls X hA Y hl)
theorem a_irem {x y : Int32} (hy : ¬ y = 0) (hd : decode M.2.1 pc = .ok (.irem, 1)) (k : J K B e M (pc + 1) loc (.int (x - x / y * y) :: stk) σ) : J K B e M pc loc (.int y :: .int x :: stk) σ := by
  intro l D C ad nN S p ev R s m args below meth c A0 H locs ls X hA Y hl
  obtain ⟨hx, hb, hml, hr, hlk, hown, hts, hK, hf, hlo, hKn, hB, hSc, hTh⟩ := id X
  exact lv_irem hx hb hd hy (k l D C ad nN S p ev R s m args below meth c A0 H locs ls X hA Y hl)
theorem a_ineg {x : Int32} (hd : decode M.2.1 pc = .ok (.ineg, 1)) (k : J K B e M (pc + 1) loc (.int (-x) :: stk) σ) : J K B e M pc loc (.int x :: stk) σ := by
  intro l D C ad nN S p ev R s m args below meth c A0 H locs ls X hA Y hl
  obtain ⟨hx, hb, hml, hr, hlk, hown, hts, hK, hf, hlo, hKn, hB, hSc, hTh⟩ := id X
  exact lv_ineg hx hb hd (k l D C ad nN S p ev R s m args below meth c A0 H locs ls X hA Y hl)
theorem a_ladd {x y : Int64} (hd : decode M.2.1 pc = .ok (.ladd, 1)) (k : J K B e M (pc + 1) loc (.long (x + y) :: stk) σ) : J K B e M pc loc (.long y :: .long x :: stk) σ := by
  intro l D C ad nN S p ev R s m args below meth c A0 H locs ls X hA Y hl
  obtain ⟨hx, hb, hml, hr, hlk, hown, hts, hK, hf, hlo, hKn, hB, hSc, hTh⟩ := id X
  exact lv_ladd hx hb hd (k l D C ad nN S p ev R s m args below meth c A0 H locs ls X hA Y hl)
theorem a_lsub {x y : Int64} (hd : decode M.2.1 pc = .ok (.lsub, 1)) (k : J K B e M (pc + 1) loc (.long (x - y) :: stk) σ) : J K B e M pc loc (.long y :: .long x :: stk) σ := by
  intro l D C ad nN S p ev R s m args below meth c A0 H locs ls X hA Y hl
  obtain ⟨hx, hb, hml, hr, hlk, hown, hts, hK, hf, hlo, hKn, hB, hSc, hTh⟩ := id X
  exact lv_lsub hx hb hd (k l D C ad nN S p ev R s m args below meth c A0 H locs ls X hA Y hl)
theorem a_lmul {x y : Int64} (hd : decode M.2.1 pc = .ok (.lmul, 1)) (k : J K B e M (pc + 1) loc (.long (x * y) :: stk) σ) : J K B e M pc loc (.long y :: .long x :: stk) σ := by
  intro l D C ad nN S p ev R s m args below meth c A0 H locs ls X hA Y hl
  obtain ⟨hx, hb, hml, hr, hlk, hown, hts, hK, hf, hlo, hKn, hB, hSc, hTh⟩ := id X
  exact lv_lmul hx hb hd (k l D C ad nN S p ev R s m args below meth c A0 H locs ls X hA Y hl)
theorem a_land {x y : Int64} (hd : decode M.2.1 pc = .ok (.land, 1)) (k : J K B e M (pc + 1) loc (.long (x &&& y) :: stk) σ) : J K B e M pc loc (.long y :: .long x :: stk) σ := by
  intro l D C ad nN S p ev R s m args below meth c A0 H locs ls X hA Y hl
  obtain ⟨hx, hb, hml, hr, hlk, hown, hts, hK, hf, hlo, hKn, hB, hSc, hTh⟩ := id X
  exact lv_land hx hb hd (k l D C ad nN S p ev R s m args below meth c A0 H locs ls X hA Y hl)
theorem a_lor {x y : Int64} (hd : decode M.2.1 pc = .ok (.lor, 1)) (k : J K B e M (pc + 1) loc (.long (x ||| y) :: stk) σ) : J K B e M pc loc (.long y :: .long x :: stk) σ := by
  intro l D C ad nN S p ev R s m args below meth c A0 H locs ls X hA Y hl
  obtain ⟨hx, hb, hml, hr, hlk, hown, hts, hK, hf, hlo, hKn, hB, hSc, hTh⟩ := id X
  exact lv_lor hx hb hd (k l D C ad nN S p ev R s m args below meth c A0 H locs ls X hA Y hl)
theorem a_ldiv {x y : Int64} (hy : ¬ y = 0) (hd : decode M.2.1 pc = .ok (.ldiv, 1)) (k : J K B e M (pc + 1) loc (.long (x / y) :: stk) σ) : J K B e M pc loc (.long y :: .long x :: stk) σ := by
  intro l D C ad nN S p ev R s m args below meth c A0 H locs ls X hA Y hl
  obtain ⟨hx, hb, hml, hr, hlk, hown, hts, hK, hf, hlo, hKn, hB, hSc, hTh⟩ := id X
  exact lv_ldiv hx hb hd hy (k l D C ad nN S p ev R s m args below meth c A0 H locs ls X hA Y hl)
theorem a_lrem {x y : Int64} (hy : ¬ y = 0) (hd : decode M.2.1 pc = .ok (.lrem, 1)) (k : J K B e M (pc + 1) loc (.long (x - x / y * y) :: stk) σ) : J K B e M pc loc (.long y :: .long x :: stk) σ := by
  intro l D C ad nN S p ev R s m args below meth c A0 H locs ls X hA Y hl
  obtain ⟨hx, hb, hml, hr, hlk, hown, hts, hK, hf, hlo, hKn, hB, hSc, hTh⟩ := id X
  exact lv_lrem hx hb hd hy (k l D C ad nN S p ev R s m args below meth c A0 H locs ls X hA Y hl)
theorem a_i2l {x : Int32} (hd : decode M.2.1 pc = .ok (.i2l, 1)) (k : J K B e M (pc + 1) loc (.long x.toInt64 :: stk) σ) : J K B e M pc loc (.int x :: stk) σ := by
  intro l D C ad nN S p ev R s m args below meth c A0 H locs ls X hA Y hl
  obtain ⟨hx, hb, hml, hr, hlk, hown, hts, hK, hf, hlo, hKn, hB, hSc, hTh⟩ := id X
  exact lv_i2l hx hb hd rfl (k l D C ad nN S p ev R s m args below meth c A0 H locs ls X hA Y hl)
theorem a_l2i {x : Int64} (hd : decode M.2.1 pc = .ok (.l2i, 1)) (k : J K B e M (pc + 1) loc (.int x.toInt32 :: stk) σ) : J K B e M pc loc (.long x :: stk) σ := by
  intro l D C ad nN S p ev R s m args below meth c A0 H locs ls X hA Y hl
  obtain ⟨hx, hb, hml, hr, hlk, hown, hts, hK, hf, hlo, hKn, hB, hSc, hTh⟩ := id X
  exact lv_l2i hx hb hd rfl (k l D C ad nN S p ev R s m args below meth c A0 H locs ls X hA Y hl)
def ushrI (x y : Int32) : Int32 := (x.toUInt32 >>> (y.toUInt32 &&& Int32.toUInt32 31)).toInt32
def ushrL (x : Int64) (y : Int32) : Int64 := (x.toUInt64 >>> (y.toInt64.toUInt64 &&& Int64.toUInt64 63)).toInt64
theorem a_iushr {x y : Int32} (hd : decode M.2.1 pc = .ok (.iushr, 1)) (k : J K B e M (pc + 1) loc (.int (ushrI x y) :: stk) σ) : J K B e M pc loc (.int y :: .int x :: stk) σ := by
  intro l D C ad nN S p ev R s m args below meth c A0 H locs ls X hA Y hl
  obtain ⟨hx, hb, hml, hr, hlk, hown, hts, hK, hf, hlo, hKn, hB, hSc, hTh⟩ := id X
  exact lv_iushr hx hb hd rfl (k l D C ad nN S p ev R s m args below meth c A0 H locs ls X hA Y hl)
theorem a_lushr {x : Int64} {y : Int32} (hd : decode M.2.1 pc = .ok (.lushr, 1)) (k : J K B e M (pc + 1) loc (.long (ushrL x y) :: stk) σ) : J K B e M pc loc (.int y :: .long x :: stk) σ := by
  intro l D C ad nN S p ev R s m args below meth c A0 H locs ls X hA Y hl
  obtain ⟨hx, hb, hml, hr, hlk, hown, hts, hK, hf, hlo, hKn, hB, hSc, hTh⟩ := id X
  exact lv_lushr hx hb hd rfl (k l D C ad nN S p ev R s m args below meth c A0 H locs ls X hA Y hl)
theorem a_lshl {x : Int64} {y : Int32} (hd : decode M.2.1 pc = .ok (.lshl, 1)) (k : J K B e M (pc + 1) loc (.long (x <<< (y.toInt64 &&& 63)) :: stk) σ) : J K B e M pc loc (.int y :: .long x :: stk) σ := by
  intro l D C ad nN S p ev R s m args below meth c A0 H locs ls X hA Y hl
  obtain ⟨hx, hb, hml, hr, hlk, hown, hts, hK, hf, hlo, hKn, hB, hSc, hTh⟩ := id X
  exact lv_lshl hx hb hd rfl (k l D C ad nN S p ev R s m args below meth c A0 H locs ls X hA Y hl)
theorem a_lcmp {x y : Int64} (hd : decode M.2.1 pc = .ok (.lcmp, 1)) (k : J K B e M (pc + 1) loc (.int (lg_cmp x y) :: stk) σ) : J K B e M pc loc (.long y :: .long x :: stk) σ := by
  intro l D C ad nN S p ev R s m args below meth c A0 H locs ls X hA Y hl
  obtain ⟨hx, hb, hml, hr, hlk, hown, hts, hK, hf, hlo, hKn, hB, hSc, hTh⟩ := id X
  exact W.lcmp hx hb hd (k l D C ad nN S p ev R s m args below meth c A0 H locs ls X hA Y hl)
theorem a_dup {v : Value} (hc : v.category = 1) (hd : decode M.2.1 pc = .ok (.dup, 1)) (k : J K B e M (pc + 1) loc (v :: v :: stk) σ) : J K B e M pc loc (v :: stk) σ := by
  intro l D C ad nN S p ev R s m args below meth c A0 H locs ls X hA Y hl
  obtain ⟨hx, hb, hml, hr, hlk, hown, hts, hK, hf, hlo, hKn, hB, hSc, hTh⟩ := id X
  exact lv_dup hx hb hd (by rw [rv_cat]; exact hc) (k l D C ad nN S p ev R s m args below meth c A0 H locs ls X hA Y hl)
theorem a_pop {v : Value} (hc : v.category = 1) (hd : decode M.2.1 pc = .ok (.pop, 1)) (k : J K B e M (pc + 1) loc (stk) σ) : J K B e M pc loc (v :: stk) σ := by
  intro l D C ad nN S p ev R s m args below meth c A0 H locs ls X hA Y hl
  obtain ⟨hx, hb, hml, hr, hlk, hown, hts, hK, hf, hlo, hKn, hB, hSc, hTh⟩ := id X
  exact lv_pop hx hb hd (by rw [rv_cat]; exact hc) (k l D C ad nN S p ev R s m args below meth c A0 H locs ls X hA Y hl)
theorem a_dup_x1 {v w : Value} (hc : v.category = 1) (hw : w.category = 1) (hd : decode M.2.1 pc = .ok (.dup_x1, 1)) (k : J K B e M (pc + 1) loc (v :: w :: v :: stk) σ) : J K B e M pc loc (v :: w :: stk) σ := by
  intro l D C ad nN S p ev R s m args below meth c A0 H locs ls X hA Y hl
  obtain ⟨hx, hb, hml, hr, hlk, hown, hts, hK, hf, hlo, hKn, hB, hSc, hTh⟩ := id X
  exact lv_dup_x1 hx hb hd (by rw [rv_cat]; exact hc) (by rw [rv_cat]; exact hw) (k l D C ad nN S p ev R s m args below meth c A0 H locs ls X hA Y hl)
theorem a_dup2 {v w : Value} (hc : v.category = 1) (hw : w.category = 1) (hd : decode M.2.1 pc = .ok (.dup2, 1)) (k : J K B e M (pc + 1) loc (v :: w :: v :: w :: stk) σ) : J K B e M pc loc (v :: w :: stk) σ := by
  intro l D C ad nN S p ev R s m args below meth c A0 H locs ls X hA Y hl
  obtain ⟨hx, hb, hml, hr, hlk, hown, hts, hK, hf, hlo, hKn, hB, hSc, hTh⟩ := id X
  exact lv_dup2_11 hx hb hd (by rw [rv_cat]; exact hc) (by rw [rv_cat]; exact hw) (k l D C ad nN S p ev R s m args below meth c A0 H locs ls X hA Y hl)
theorem a_pop2 {v : Value} (hc : v.category = 2) (hd : decode M.2.1 pc = .ok (.pop2, 1)) (k : J K B e M (pc + 1) loc (stk) σ) : J K B e M pc loc (v :: stk) σ := by
  intro l D C ad nN S p ev R s m args below meth c A0 H locs ls X hA Y hl
  obtain ⟨hx, hb, hml, hr, hlk, hown, hts, hK, hf, hlo, hKn, hB, hSc, hTh⟩ := id X
  exact lv_pop2_2 hx hb hd (by rw [rv_cat]; exact hc) (k l D C ad nN S p ev R s m args below meth c A0 H locs ls X hA Y hl)
theorem a_if_eq_t {x : Int32} {off : Int} (tgt : Nat) (hd : decode M.2.1 pc = .ok (.ifCond .eq off, 3)) (ht : (pc : Int) + off = (tgt : Int)) (h : x = 0) (k : J K B e M (tgt) loc (stk) σ) : J K B e M pc loc (.int x :: stk) σ := by
  intro l D C ad nN S p ev R s m args below meth c A0 H locs ls X hA Y hl
  obtain ⟨hx, hb, hml, hr, hlk, hown, hts, hK, hf, hlo, hKn, hB, hSc, hTh⟩ := id X
  exact lv_if_eq hx hb hd ht (fun _ => k l D C ad nN S p ev R s m args below meth c A0 H locs ls X hA Y hl) (fun z => by first | exact absurd h z | exact absurd z h)
theorem a_if_eq_f {x : Int32} {off : Int} (tgt : Nat) (hd : decode M.2.1 pc = .ok (.ifCond .eq off, 3)) (ht : (pc : Int) + off = (tgt : Int)) (h : ¬ x = 0) (k : J K B e M (pc + 3) loc (stk) σ) : J K B e M pc loc (.int x :: stk) σ := by
  intro l D C ad nN S p ev R s m args below meth c A0 H locs ls X hA Y hl
  obtain ⟨hx, hb, hml, hr, hlk, hown, hts, hK, hf, hlo, hKn, hB, hSc, hTh⟩ := id X
  exact lv_if_eq hx hb hd ht (fun z => by first | exact absurd h z | exact absurd z h) (fun _ => k l D C ad nN S p ev R s m args below meth c A0 H locs ls X hA Y hl)
theorem a_icmp_eq_t {x y : Int32} {off : Int} (tgt : Nat) (hd : decode M.2.1 pc = .ok (.if_icmp .eq off, 3)) (ht : (pc : Int) + off = (tgt : Int)) (h : x = y) (k : J K B e M (tgt) loc (stk) σ) : J K B e M pc loc (.int y :: .int x :: stk) σ := by
  intro l D C ad nN S p ev R s m args below meth c A0 H locs ls X hA Y hl
  obtain ⟨hx, hb, hml, hr, hlk, hown, hts, hK, hf, hlo, hKn, hB, hSc, hTh⟩ := id X
  exact lv_icmp_eq hx hb hd ht (fun _ => k l D C ad nN S p ev R s m args below meth c A0 H locs ls X hA Y hl) (fun z => by first | exact absurd h z | exact absurd z h)
theorem a_icmp_eq_f {x y : Int32} {off : Int} (tgt : Nat) (hd : decode M.2.1 pc = .ok (.if_icmp .eq off, 3)) (ht : (pc : Int) + off = (tgt : Int)) (h : ¬ x = y) (k : J K B e M (pc + 3) loc (stk) σ) : J K B e M pc loc (.int y :: .int x :: stk) σ := by
  intro l D C ad nN S p ev R s m args below meth c A0 H locs ls X hA Y hl
  obtain ⟨hx, hb, hml, hr, hlk, hown, hts, hK, hf, hlo, hKn, hB, hSc, hTh⟩ := id X
  exact lv_icmp_eq hx hb hd ht (fun z => by first | exact absurd h z | exact absurd z h) (fun _ => k l D C ad nN S p ev R s m args below meth c A0 H locs ls X hA Y hl)
theorem a_if_ne_t {x : Int32} {off : Int} (tgt : Nat) (hd : decode M.2.1 pc = .ok (.ifCond .ne off, 3)) (ht : (pc : Int) + off = (tgt : Int)) (h : ¬ x = 0) (k : J K B e M (tgt) loc (stk) σ) : J K B e M pc loc (.int x :: stk) σ := by
  intro l D C ad nN S p ev R s m args below meth c A0 H locs ls X hA Y hl
  obtain ⟨hx, hb, hml, hr, hlk, hown, hts, hK, hf, hlo, hKn, hB, hSc, hTh⟩ := id X
  exact lv_if_ne hx hb hd ht (fun _ => k l D C ad nN S p ev R s m args below meth c A0 H locs ls X hA Y hl) (fun z => by first | exact absurd h z | exact absurd z h)
theorem a_if_ne_f {x : Int32} {off : Int} (tgt : Nat) (hd : decode M.2.1 pc = .ok (.ifCond .ne off, 3)) (ht : (pc : Int) + off = (tgt : Int)) (h : x = 0) (k : J K B e M (pc + 3) loc (stk) σ) : J K B e M pc loc (.int x :: stk) σ := by
  intro l D C ad nN S p ev R s m args below meth c A0 H locs ls X hA Y hl
  obtain ⟨hx, hb, hml, hr, hlk, hown, hts, hK, hf, hlo, hKn, hB, hSc, hTh⟩ := id X
  exact lv_if_ne hx hb hd ht (fun z => by first | exact absurd h z | exact absurd z h) (fun _ => k l D C ad nN S p ev R s m args below meth c A0 H locs ls X hA Y hl)
theorem a_icmp_ne_t {x y : Int32} {off : Int} (tgt : Nat) (hd : decode M.2.1 pc = .ok (.if_icmp .ne off, 3)) (ht : (pc : Int) + off = (tgt : Int)) (h : ¬ x = y) (k : J K B e M (tgt) loc (stk) σ) : J K B e M pc loc (.int y :: .int x :: stk) σ := by
  intro l D C ad nN S p ev R s m args below meth c A0 H locs ls X hA Y hl
  obtain ⟨hx, hb, hml, hr, hlk, hown, hts, hK, hf, hlo, hKn, hB, hSc, hTh⟩ := id X
  exact lv_icmp_ne hx hb hd ht (fun _ => k l D C ad nN S p ev R s m args below meth c A0 H locs ls X hA Y hl) (fun z => by first | exact absurd h z | exact absurd z h)
theorem a_icmp_ne_f {x y : Int32} {off : Int} (tgt : Nat) (hd : decode M.2.1 pc = .ok (.if_icmp .ne off, 3)) (ht : (pc : Int) + off = (tgt : Int)) (h : x = y) (k : J K B e M (pc + 3) loc (stk) σ) : J K B e M pc loc (.int y :: .int x :: stk) σ := by
  intro l D C ad nN S p ev R s m args below meth c A0 H locs ls X hA Y hl
  obtain ⟨hx, hb, hml, hr, hlk, hown, hts, hK, hf, hlo, hKn, hB, hSc, hTh⟩ := id X
  exact lv_icmp_ne hx hb hd ht (fun z => by first | exact absurd h z | exact absurd z h) (fun _ => k l D C ad nN S p ev R s m args below meth c A0 H locs ls X hA Y hl)
theorem a_if_lt_t {x : Int32} {off : Int} (tgt : Nat) (hd : decode M.2.1 pc = .ok (.ifCond .lt off, 3)) (ht : (pc : Int) + off = (tgt : Int)) (h : x < 0) (k : J K B e M (tgt) loc (stk) σ) : J K B e M pc loc (.int x :: stk) σ := by
  intro l D C ad nN S p ev R s m args below meth c A0 H locs ls X hA Y hl
  obtain ⟨hx, hb, hml, hr, hlk, hown, hts, hK, hf, hlo, hKn, hB, hSc, hTh⟩ := id X
  exact lv_if_lt hx hb hd ht (fun _ => k l D C ad nN S p ev R s m args below meth c A0 H locs ls X hA Y hl) (fun z => by first | exact absurd h z | exact absurd z h)
theorem a_if_lt_f {x : Int32} {off : Int} (tgt : Nat) (hd : decode M.2.1 pc = .ok (.ifCond .lt off, 3)) (ht : (pc : Int) + off = (tgt : Int)) (h : ¬ x < 0) (k : J K B e M (pc + 3) loc (stk) σ) : J K B e M pc loc (.int x :: stk) σ := by
  intro l D C ad nN S p ev R s m args below meth c A0 H locs ls X hA Y hl
  obtain ⟨hx, hb, hml, hr, hlk, hown, hts, hK, hf, hlo, hKn, hB, hSc, hTh⟩ := id X
  exact lv_if_lt hx hb hd ht (fun z => by first | exact absurd h z | exact absurd z h) (fun _ => k l D C ad nN S p ev R s m args below meth c A0 H locs ls X hA Y hl)
theorem a_icmp_lt_t {x y : Int32} {off : Int} (tgt : Nat) (hd : decode M.2.1 pc = .ok (.if_icmp .lt off, 3)) (ht : (pc : Int) + off = (tgt : Int)) (h : x < y) (k : J K B e M (tgt) loc (stk) σ) : J K B e M pc loc (.int y :: .int x :: stk) σ := by
  intro l D C ad nN S p ev R s m args below meth c A0 H locs ls X hA Y hl
  obtain ⟨hx, hb, hml, hr, hlk, hown, hts, hK, hf, hlo, hKn, hB, hSc, hTh⟩ := id X
  exact lv_icmp_lt hx hb hd ht (fun _ => k l D C ad nN S p ev R s m args below meth c A0 H locs ls X hA Y hl) (fun z => by first | exact absurd h z | exact absurd z h)
theorem a_icmp_lt_f {x y : Int32} {off : Int} (tgt : Nat) (hd : decode M.2.1 pc = .ok (.if_icmp .lt off, 3)) (ht : (pc : Int) + off = (tgt : Int)) (h : ¬ x < y) (k : J K B e M (pc + 3) loc (stk) σ) : J K B e M pc loc (.int y :: .int x :: stk) σ := by
  intro l D C ad nN S p ev R s m args below meth c A0 H locs ls X hA Y hl
  obtain ⟨hx, hb, hml, hr, hlk, hown, hts, hK, hf, hlo, hKn, hB, hSc, hTh⟩ := id X
  exact lv_icmp_lt hx hb hd ht (fun z => by first | exact absurd h z | exact absurd z h) (fun _ => k l D C ad nN S p ev R s m args below meth c A0 H locs ls X hA Y hl)
theorem a_if_ge_t {x : Int32} {off : Int} (tgt : Nat) (hd : decode M.2.1 pc = .ok (.ifCond .ge off, 3)) (ht : (pc : Int) + off = (tgt : Int)) (h : 0 ≤ x) (k : J K B e M (tgt) loc (stk) σ) : J K B e M pc loc (.int x :: stk) σ := by
  intro l D C ad nN S p ev R s m args below meth c A0 H locs ls X hA Y hl
  obtain ⟨hx, hb, hml, hr, hlk, hown, hts, hK, hf, hlo, hKn, hB, hSc, hTh⟩ := id X
  exact lv_if_ge hx hb hd ht (fun _ => k l D C ad nN S p ev R s m args below meth c A0 H locs ls X hA Y hl) (fun z => by first | exact absurd h z | exact absurd z h)
theorem a_if_ge_f {x : Int32} {off : Int} (tgt : Nat) (hd : decode M.2.1 pc = .ok (.ifCond .ge off, 3)) (ht : (pc : Int) + off = (tgt : Int)) (h : ¬ 0 ≤ x) (k : J K B e M (pc + 3) loc (stk) σ) : J K B e M pc loc (.int x :: stk) σ := by
  intro l D C ad nN S p ev R s m args below meth c A0 H locs ls X hA Y hl
  obtain ⟨hx, hb, hml, hr, hlk, hown, hts, hK, hf, hlo, hKn, hB, hSc, hTh⟩ := id X
  exact lv_if_ge hx hb hd ht (fun z => by first | exact absurd h z | exact absurd z h) (fun _ => k l D C ad nN S p ev R s m args below meth c A0 H locs ls X hA Y hl)
theorem a_icmp_ge_t {x y : Int32} {off : Int} (tgt : Nat) (hd : decode M.2.1 pc = .ok (.if_icmp .ge off, 3)) (ht : (pc : Int) + off = (tgt : Int)) (h : y ≤ x) (k : J K B e M (tgt) loc (stk) σ) : J K B e M pc loc (.int y :: .int x :: stk) σ := by
  intro l D C ad nN S p ev R s m args below meth c A0 H locs ls X hA Y hl
  obtain ⟨hx, hb, hml, hr, hlk, hown, hts, hK, hf, hlo, hKn, hB, hSc, hTh⟩ := id X
  exact lv_icmp_ge hx hb hd ht (fun _ => k l D C ad nN S p ev R s m args below meth c A0 H locs ls X hA Y hl) (fun z => by first | exact absurd h z | exact absurd z h)
theorem a_icmp_ge_f {x y : Int32} {off : Int} (tgt : Nat) (hd : decode M.2.1 pc = .ok (.if_icmp .ge off, 3)) (ht : (pc : Int) + off = (tgt : Int)) (h : ¬ y ≤ x) (k : J K B e M (pc + 3) loc (stk) σ) : J K B e M pc loc (.int y :: .int x :: stk) σ := by
  intro l D C ad nN S p ev R s m args below meth c A0 H locs ls X hA Y hl
  obtain ⟨hx, hb, hml, hr, hlk, hown, hts, hK, hf, hlo, hKn, hB, hSc, hTh⟩ := id X
  exact lv_icmp_ge hx hb hd ht (fun z => by first | exact absurd h z | exact absurd z h) (fun _ => k l D C ad nN S p ev R s m args below meth c A0 H locs ls X hA Y hl)
theorem a_if_gt_t {x : Int32} {off : Int} (tgt : Nat) (hd : decode M.2.1 pc = .ok (.ifCond .gt off, 3)) (ht : (pc : Int) + off = (tgt : Int)) (h : 0 < x) (k : J K B e M (tgt) loc (stk) σ) : J K B e M pc loc (.int x :: stk) σ := by
  intro l D C ad nN S p ev R s m args below meth c A0 H locs ls X hA Y hl
  obtain ⟨hx, hb, hml, hr, hlk, hown, hts, hK, hf, hlo, hKn, hB, hSc, hTh⟩ := id X
  exact lv_if_gt hx hb hd ht (fun _ => k l D C ad nN S p ev R s m args below meth c A0 H locs ls X hA Y hl) (fun z => by first | exact absurd h z | exact absurd z h)
theorem a_if_gt_f {x : Int32} {off : Int} (tgt : Nat) (hd : decode M.2.1 pc = .ok (.ifCond .gt off, 3)) (ht : (pc : Int) + off = (tgt : Int)) (h : ¬ 0 < x) (k : J K B e M (pc + 3) loc (stk) σ) : J K B e M pc loc (.int x :: stk) σ := by
  intro l D C ad nN S p ev R s m args below meth c A0 H locs ls X hA Y hl
  obtain ⟨hx, hb, hml, hr, hlk, hown, hts, hK, hf, hlo, hKn, hB, hSc, hTh⟩ := id X
  exact lv_if_gt hx hb hd ht (fun z => by first | exact absurd h z | exact absurd z h) (fun _ => k l D C ad nN S p ev R s m args below meth c A0 H locs ls X hA Y hl)
theorem a_icmp_gt_t {x y : Int32} {off : Int} (tgt : Nat) (hd : decode M.2.1 pc = .ok (.if_icmp .gt off, 3)) (ht : (pc : Int) + off = (tgt : Int)) (h : y < x) (k : J K B e M (tgt) loc (stk) σ) : J K B e M pc loc (.int y :: .int x :: stk) σ := by
  intro l D C ad nN S p ev R s m args below meth c A0 H locs ls X hA Y hl
  obtain ⟨hx, hb, hml, hr, hlk, hown, hts, hK, hf, hlo, hKn, hB, hSc, hTh⟩ := id X
  exact lv_icmp_gt hx hb hd ht (fun _ => k l D C ad nN S p ev R s m args below meth c A0 H locs ls X hA Y hl) (fun z => by first | exact absurd h z | exact absurd z h)
theorem a_icmp_gt_f {x y : Int32} {off : Int} (tgt : Nat) (hd : decode M.2.1 pc = .ok (.if_icmp .gt off, 3)) (ht : (pc : Int) + off = (tgt : Int)) (h : ¬ y < x) (k : J K B e M (pc + 3) loc (stk) σ) : J K B e M pc loc (.int y :: .int x :: stk) σ := by
  intro l D C ad nN S p ev R s m args below meth c A0 H locs ls X hA Y hl
  obtain ⟨hx, hb, hml, hr, hlk, hown, hts, hK, hf, hlo, hKn, hB, hSc, hTh⟩ := id X
  exact lv_icmp_gt hx hb hd ht (fun z => by first | exact absurd h z | exact absurd z h) (fun _ => k l D C ad nN S p ev R s m args below meth c A0 H locs ls X hA Y hl)
theorem a_if_le_t {x : Int32} {off : Int} (tgt : Nat) (hd : decode M.2.1 pc = .ok (.ifCond .le off, 3)) (ht : (pc : Int) + off = (tgt : Int)) (h : x ≤ 0) (k : J K B e M (tgt) loc (stk) σ) : J K B e M pc loc (.int x :: stk) σ := by
  intro l D C ad nN S p ev R s m args below meth c A0 H locs ls X hA Y hl
  obtain ⟨hx, hb, hml, hr, hlk, hown, hts, hK, hf, hlo, hKn, hB, hSc, hTh⟩ := id X
  exact lv_if_le hx hb hd ht (fun _ => k l D C ad nN S p ev R s m args below meth c A0 H locs ls X hA Y hl) (fun z => by first | exact absurd h z | exact absurd z h)
theorem a_if_le_f {x : Int32} {off : Int} (tgt : Nat) (hd : decode M.2.1 pc = .ok (.ifCond .le off, 3)) (ht : (pc : Int) + off = (tgt : Int)) (h : ¬ x ≤ 0) (k : J K B e M (pc + 3) loc (stk) σ) : J K B e M pc loc (.int x :: stk) σ := by
  intro l D C ad nN S p ev R s m args below meth c A0 H locs ls X hA Y hl
  obtain ⟨hx, hb, hml, hr, hlk, hown, hts, hK, hf, hlo, hKn, hB, hSc, hTh⟩ := id X
  exact lv_if_le hx hb hd ht (fun z => by first | exact absurd h z | exact absurd z h) (fun _ => k l D C ad nN S p ev R s m args below meth c A0 H locs ls X hA Y hl)
theorem a_icmp_le_t {x y : Int32} {off : Int} (tgt : Nat) (hd : decode M.2.1 pc = .ok (.if_icmp .le off, 3)) (ht : (pc : Int) + off = (tgt : Int)) (h : x ≤ y) (k : J K B e M (tgt) loc (stk) σ) : J K B e M pc loc (.int y :: .int x :: stk) σ := by
  intro l D C ad nN S p ev R s m args below meth c A0 H locs ls X hA Y hl
  obtain ⟨hx, hb, hml, hr, hlk, hown, hts, hK, hf, hlo, hKn, hB, hSc, hTh⟩ := id X
  exact lv_icmp_le hx hb hd ht (fun _ => k l D C ad nN S p ev R s m args below meth c A0 H locs ls X hA Y hl) (fun z => by first | exact absurd h z | exact absurd z h)
theorem a_icmp_le_f {x y : Int32} {off : Int} (tgt : Nat) (hd : decode M.2.1 pc = .ok (.if_icmp .le off, 3)) (ht : (pc : Int) + off = (tgt : Int)) (h : ¬ x ≤ y) (k : J K B e M (pc + 3) loc (stk) σ) : J K B e M pc loc (.int y :: .int x :: stk) σ := by
  intro l D C ad nN S p ev R s m args below meth c A0 H locs ls X hA Y hl
  obtain ⟨hx, hb, hml, hr, hlk, hown, hts, hK, hf, hlo, hKn, hB, hSc, hTh⟩ := id X
  exact lv_icmp_le hx hb hd ht (fun z => by first | exact absurd h z | exact absurd z h) (fun _ => k l D C ad nN S p ev R s m args below meth c A0 H locs ls X hA Y hl)
theorem a_goto {off : Int} (tgt : Nat) (hd : decode M.2.1 pc = .ok (.goto off, 3)) (ht : (pc : Int) + off = (tgt : Int)) (k : J K B e M (tgt) loc (stk) σ) : J K B e M pc loc (stk) σ := by
  intro l D C ad nN S p ev R s m args below meth c A0 H locs ls X hA Y hl
  obtain ⟨hx, hb, hml, hr, hlk, hown, hts, hK, hf, hlo, hKn, hB, hSc, hTh⟩ := id X
  exact lv_goto hx hb hd ht (k l D C ad nN S p ev R s m args below meth c A0 H locs ls X hA Y hl)
theorem a_ifnull_r {x : Nat} {off : Int} (hd : decode M.2.1 pc = .ok (.ifnull off, 3)) (k : J K B e M (pc + 3) loc (stk) σ) : J K B e M pc loc (.ref x :: stk) σ := by
  intro l D C ad nN S p ev R s m args below meth c A0 H locs ls X hA Y hl
  obtain ⟨hx, hb, hml, hr, hlk, hown, hts, hK, hf, hlo, hKn, hB, hSc, hTh⟩ := id X
  exact lv_ifnull hx hb hd (k l D C ad nN S p ev R s m args below meth c A0 H locs ls X hA Y hl)
theorem a_ifnonnull_r {x : Nat} {off : Int} (tgt : Nat) (hd : decode M.2.1 pc = .ok (.ifnonnull off, 3)) (ht : (pc : Int) + off = (tgt : Int)) (k : J K B e M (tgt) loc (stk) σ) : J K B e M pc loc (.ref x :: stk) σ := by
  intro l D C ad nN S p ev R s m args below meth c A0 H locs ls X hA Y hl
  obtain ⟨hx, hb, hml, hr, hlk, hown, hts, hK, hf, hlo, hKn, hB, hSc, hTh⟩ := id X
  exact lv_ifnonnull hx hb hd ht (k l D C ad nN S p ev R s m args below meth c A0 H locs ls X hA Y hl)
theorem a_ifnull_n {off : Int} (tgt : Nat) (hd : decode M.2.1 pc = .ok (.ifnull off, 3)) (ht : (pc : Int) + off = (tgt : Int)) (k : J K B e M (tgt) loc (stk) σ) : J K B e M pc loc (.null :: stk) σ := by
  intro l D C ad nN S p ev R s m args below meth c A0 H locs ls X hA Y hl
  obtain ⟨hx, hb, hml, hr, hlk, hown, hts, hK, hf, hlo, hKn, hB, hSc, hTh⟩ := id X
  exact lv_ifnullN hx hb hd ht (k l D C ad nN S p ev R s m args below meth c A0 H locs ls X hA Y hl)
theorem a_ifnonnull_n {off : Int} (hd : decode M.2.1 pc = .ok (.ifnonnull off, 3)) (k : J K B e M (pc + 3) loc (stk) σ) : J K B e M pc loc (.null :: stk) σ := by
  intro l D C ad nN S p ev R s m args below meth c A0 H locs ls X hA Y hl
  obtain ⟨hx, hb, hml, hr, hlk, hown, hts, hK, hf, hlo, hKn, hB, hSc, hTh⟩ := id X
  exact lv_ifnonnullN hx hb hd (k l D C ad nN S p ev R s m args below meth c A0 H locs ls X hA Y hl)
theorem a_tabOut {x : Int32} {dflt lo hi : Int} {offs : Array Int} {len : Nat} (tgt : Nat) (hd : decode M.2.1 pc = .ok (.tableswitch dflt lo hi offs, len)) (h : x.toInt < lo ∨ hi < x.toInt) (ht : (pc : Int) + dflt = (tgt : Int)) (k : J K B e M (tgt) loc (stk) σ) : J K B e M pc loc (.int x :: stk) σ := by
  intro l D C ad nN S p ev R s m args below meth c A0 H locs ls X hA Y hl
  obtain ⟨hx, hb, hml, hr, hlk, hown, hts, hK, hf, hlo, hKn, hB, hSc, hTh⟩ := id X
  exact lv_tableOut hx hb hd h ht (k l D C ad nN S p ev R s m args below meth c A0 H locs ls X hA Y hl)
theorem a_tabIn {x : Int32} {dflt lo hi off : Int} {offs : Array Int} {len : Nat} (v : Int32) (tgt : Nat) (hd : decode M.2.1 pc = .ok (.tableswitch dflt lo hi offs, len)) (h : x = v) (h1 : ¬ v.toInt < lo) (h2 : ¬ hi < v.toInt) (ho : offs[(v.toInt - lo).toNat]? = some off) (ht : (pc : Int) + off = (tgt : Int)) (k : J K B e M (tgt) loc (stk) σ) : J K B e M pc loc (.int x :: stk) σ := by
  intro l D C ad nN S p ev R s m args below meth c A0 H locs ls X hA Y hl
  obtain ⟨hx, hb, hml, hr, hlk, hown, hts, hK, hf, hlo, hKn, hB, hSc, hTh⟩ := id X
  subst h
  exact lv_tableIn hx hb hd h1 h2 ho ht (k l D C ad nN S p ev R s m args below meth c A0 H locs ls X hA Y hl)
theorem a_top {v w : Value} (h : v = w) (k : J K B e M (pc) loc (w :: stk) σ) : J K B e M pc loc (v :: stk) σ := by
  intro l D C ad nN S p ev R s m args below meth c A0 H locs ls X hA Y hl
  obtain ⟨hx, hb, hml, hr, hlk, hown, hts, hK, hf, hlo, hKn, hB, hSc, hTh⟩ := id X
  subst h
  exact k l D C ad nN S p ev R s m args below meth c A0 H locs ls X hA Y hl
theorem a_iret {v : Int32} (hM : M.2.2.2 = some .int) (hd : decode M.2.1 pc = .ok (.ireturn, 1)) : AL K e M pc loc [.int v] τ (some (.int v)) τ := by
  intro l D C ad nN S p ev R s m args below meth c A0 H locs ls X hA Y hl
  obtain ⟨hx, hb, hml, hr, hlk, hown, hts, hK, hf, hlo, hKn, hB, hSc, hTh⟩ := id X
  exact W.iret hx hb (by rw [hr, hM]) (fun t ht hW => ⟨⟨rfl, by rw [ht]; exact Y.1, aK.warm hW hK, Y.2.1, Y.2.2.2⟩, Y.2.2.1.F ht⟩) Y.2.2.1.2.2 hd hlk
theorem a_zret {v : Int32} (hM : M.2.2.2 = some .boolean) (hv : v = 0 ∨ v = 1) (hd : decode M.2.1 pc = .ok (.ireturn, 1)) : AL K e M pc loc [.int v] τ (some (.int v)) τ := by
  intro l D C ad nN S p ev R s m args below meth c A0 H locs ls X hA Y hl
  obtain ⟨hx, hb, hml, hr, hlk, hown, hts, hK, hf, hlo, hKn, hB, hSc, hTh⟩ := id X
  exact W.zret hx hb (by rw [hr, hM]) (by rcases hv with rfl | rfl <;> rfl) (fun t ht hW => ⟨⟨rfl, by rw [ht]; exact Y.1, aK.warm hW hK, Y.2.1, Y.2.2.2⟩, Y.2.2.1.F ht⟩) Y.2.2.1.2.2 hd hlk
theorem a_lret {v : Int64} (hM : M.2.2.2 = some .long) (hd : decode M.2.1 pc = .ok (.lreturn, 1)) : AL K e M pc loc [.long v] τ (some (.long v)) τ := by
  intro l D C ad nN S p ev R s m args below meth c A0 H locs ls X hA Y hl
  obtain ⟨hx, hb, hml, hr, hlk, hown, hts, hK, hf, hlo, hKn, hB, hSc, hTh⟩ := id X
  exact W.lret hx hb (by rw [hr, hM]) (fun t ht hW => ⟨⟨rfl, by rw [ht]; exact Y.1, aK.warm hW hK, Y.2.1, Y.2.2.2⟩, Y.2.2.1.F ht⟩) Y.2.2.1.2.2 hd (hlocks := hlk)
theorem a_vret (hM : M.2.2.2 = none) (hd : decode M.2.1 pc = .ok (.return_, 1)) : AL K e M pc loc [] τ none τ := by
  intro l D C ad nN S p ev R s m args below meth c A0 H locs ls X hA Y hl
  obtain ⟨hx, hb, hml, hr, hlk, hown, hts, hK, hf, hlo, hKn, hB, hSc, hTh⟩ := id X
  exact W.vret hx hb (by rw [hr, hM]) (fun t ht hW => ⟨⟨rfl, by rw [ht]; exact Y.1, aK.warm hW hK, Y.2.1, Y.2.2.2⟩, Y.2.2.1.F ht⟩) Y.2.2.1.2.2 hd hlk
end AR
end
section
section AH
variable {K : Nat → Prop} {B : JX} {e : Nat} {M : MI} {pc : Nat} {loc loc' : List (Nat × Value)} {stk : List Value} {σ τ : St} {r : Option Value}
/-- a field link of class own at the place ix: slot k of the class of number ci -/
def FL (own : String) (ix ci k : Nat) : Prop := ∃ (C : String) (T : u_T) (N : Nat), vwCl[ci]? = some (C, T, N) ∧ k < N ∧ (T k).1 = C ∧ Cond.fieldLink own ix C (T k).2.1 (T k).2.2.1 ∈ aT ∧ (∀ w ∈ u_ws C T N, w ∈ aT)
/-- the same, of a field that may be written -/
def tyOf : Nat → FieldType
  | 1 => .long
  | 3 => .boolean
  | _ => .int
def FP (own : String) (ix ci k : Nat) : Prop := ∃ (C : String) (T : u_T) (N : Nat) (ty0 : Nat → FieldType), vwCl[ci]? = some (C, T, N) ∧ k < N ∧ (T k).1 = C ∧ Cond.fieldLink own ix C (T k).2.1 (T k).2.2.1 ∈ aT ∧ (∀ w ∈ u_ws C T N, w ∈ aT) ∧
  (∀ k, k < N → parseFieldDescriptor (T k).2.2.1 = some (ty0 k)) ∧ (∀ a, a < N → ∀ b, b < N → a ≠ b → (T a).2.1 ≠ (T b).2.1) ∧ (T k).2.2.2 = false ∧ parseFieldDescriptor (T k).2.2.1 = some (tyOf (sty ci k))
/-- cell i is an object of the class of number ci, of n slots; an array of n places of ints, longs, GIFTS -/
def OB (K : Nat → Prop) (i ci n : Nat) : Prop := (∀ m, K m → i < m) ∧ kd i = 1 ∧ cl i = ci ∧ nsl i = n
def IA (K : Nat → Prop) (i n : Nat) : Prop := (∀ m, K m → i < m) ∧ kd i = 2 ∧ nsl i = n
def LA (K : Nat → Prop) (i n : Nat) : Prop := (∀ m, K m → i < m) ∧ kd i = 3 ∧ nsl i = n
def GA (K : Nat → Prop) (i n : Nat) : Prop := (∀ m, K m → i < m) ∧ kd i = 4 ∧ nsl i = n
theorem a_get {i k ix n ci : Nat} (v : Value) (ho : OB K i ci n) (hkn : k < n) (hf : FL M.1.cls ix ci k) (hv : av σ i k = v) (hd : decode M.2.1 pc = .ok (.getfield ix, 3)) (kk : J K B e M (pc + 3) loc (v :: stk) σ) : J K B e M pc loc (.ref i :: stk) σ := by
  intro l D C ad nN S p ev R s m args below meth c A0 H locs ls X hA Y hl
  obtain ⟨hx, hb, hml, hr, hlk, hown, hts, hK, -, -, hKn, hB, hSc, hTh⟩ := id X
  obtain ⟨Cn, T, N, h1, h2, h3, h4, h5⟩ := hf
  obtain ⟨hi, hk, rfl, rfl⟩ := ho
  refine va_get (v := rv ad v) hx hb hts h5 hown hK.1 Y.1 i (wsE_at ad C σ (hi _ hKn.1) |>.trans (by rw [cellE_1 ad C σ hk])) h1 k h2 (hts _ h4) (fun x hx => by rw [h3] at hx; exact hx) ?_ hd ?_
  · rw [List.getElem?_map, List.getElem?_range hkn, ← hv]; rfl
  · exact kk l D C ad nN S p ev R s m args below meth c A0 H locs ls X hA Y hl
theorem fits_int (x : Int32) : fits .int (.int x) = true := rfl
theorem av_setI_self {i k : Nat} {x : Int32} (h : sty (cl i) k = 0 ∨ sty (cl i) k = 3) : av (setI σ i k x) i k = .int x := by
  rcases h with h | h <;> simp [av, h, setI]
theorem av_setI_ne {i k j : Nat} {x : Int32} (h : j ≠ k) : av (setI σ i k x) i j = av σ i j := by
  have e1 : (setI σ i k x).1 i j = σ.1 i j := by simp [setI, h]
  simp only [av, e1]; rfl
theorem av_setL_self {i k : Nat} {x : Int64} (h : sty (cl i) k = 1) : av (setL σ i k x) i k = .long x := by
  simp [av, h, setL]
theorem av_setL_ne {i k j : Nat} {x : Int64} (h : j ≠ k) : av (setL σ i k x) i j = av σ i j := by
  have e1 : (setL σ i k x).2 i j = σ.2 i j := by simp [setL, h]
  simp only [av, e1]; rfl
theorem range_set {n k : Nat} {ad : Nat → Nat} {f g : Nat → Value} {v : Value} (hk : k < n) (h1 : v = rv ad (g k)) (h2 : ∀ j, j ≠ k → g j = f j) : ((List.range n).map fun j => rv ad (f j)).set k v = (List.range n).map fun j => rv ad (g j) := by
  apply List.ext_getElem?
  intro j
  by_cases hj : j = k
  · subst hj
    rw [List.getElem?_set_self (by simpa using hk), List.getElem?_map, List.getElem?_range hk, h1]
    rfl
  · rw [List.getElem?_set_ne (Ne.symm hj), List.getElem?_map, List.getElem?_map]
    by_cases hl : j < n
    · rw [List.getElem?_range hl]
      simp [h2 j hj]
    · simp [List.getElem?_eq_none (by simp; omega : (List.range n).length ≤ j)]
theorem a_putI {i k ix n ci : Nat} {x : Int32} (ho : OB K i ci n) (hkn : k < n) (hf : FP M.1.cls ix ci k) (hs : sty ci k = 0 ∨ (sty ci k = 3 ∧ (x = 0 ∨ x = 1))) (hd : decode M.2.1 pc = .ok (.putfield ix, 3)) (kk : J K B e M (pc + 3) loc stk (setI σ i k x)) : J K B e M pc loc (.int x :: .ref i :: stk) σ := by
  intro l D C ad nN S p ev R s m args below meth c A0 H locs ls X hA Y hl
  obtain ⟨hx, hb, hml, hr, hlk, hown, hts, hK, -, -, hKn, hB, hSc, hTh⟩ := id X
  obtain ⟨Cn, T, N, ty0, h1, h2, h3, h4, h5, h6, h7, h8, h9⟩ := hf
  obtain ⟨hi, hk, rfl, rfl⟩ := ho
  have hs2 : sty (cl i) k = 0 ∨ sty (cl i) k = 3 := by rcases hs with h | h; exact Or.inl h; exact Or.inr h.1
  have hnar : narrow (tyOf (sty (cl i) k)) (.int x) = .int x ∧ fits (tyOf (sty (cl i) k)) (.int x) = true := by
    rcases hs with h | ⟨h, rfl | rfl⟩ <;> rw [h] <;> exact ⟨rfl, rfl⟩
  refine va_put (ty := tyOf (sty (cl i) k)) hx hb hts h5 ty0 h6 h7 hown hK.1 Y.1 Y.2.1 Y.2.2.1 i (wsE_at ad C σ (hi _ hKn.1) |>.trans (by rw [cellE_1 ad C σ hk])) h1 k h2 (hts _ h4) (fun x hx => by rw [h3] at hx; exact hx) h8 h9 hnar.1 hnar.2 (by simpa using hkn) hd (fun H1 locs1 q1 q2 q3 => ?_)
  have e1 := wsE_set (nN := nN) ad C σ (setI σ i k x) (hi _ hKn.1) (e := .inr (cl i, ((List.range (nsl i)).map fun j => rv ad (av σ i j)).set k (rv ad (.int x)))) (by
    rw [cellE_1 ad C _ hk, range_set hkn (g := av (setI σ i k x) i) (by rw [av_setI_self hs2]) (fun j hj => av_setI_ne hj)]) (fun j hj => cellE_setI_ne ad C σ hj)
  rw [e1] at q1 q2
  exact kk l D C ad nN S p ev R s m args below meth c A0 H1 locs1 ls X hA ⟨q1, q2, q3, sc_setI Y.2.2.2 (Nat.lt_of_lt_of_le (hi _ hKn.1) hKn.2)⟩ hl
theorem a_putL {i k ix n ci : Nat} {x : Int64} (ho : OB K i ci n) (hkn : k < n) (hf : FP M.1.cls ix ci k) (hs : sty ci k = 1) (hd : decode M.2.1 pc = .ok (.putfield ix, 3)) (kk : J K B e M (pc + 3) loc stk (setL σ i k x)) : J K B e M pc loc (.long x :: .ref i :: stk) σ := by
  intro l D C ad nN S p ev R s m args below meth c A0 H locs ls X hA Y hl
  obtain ⟨hx, hb, hml, hr, hlk, hown, hts, hK, -, -, hKn, hB, hSc, hTh⟩ := id X
  obtain ⟨Cn, T, N, ty0, h1, h2, h3, h4, h5, h6, h7, h8, h9⟩ := hf
  obtain ⟨hi, hk, rfl, rfl⟩ := ho
  rw [hs] at h9
  refine va_put (ty := .long) hx hb hts h5 ty0 h6 h7 hown hK.1 Y.1 Y.2.1 Y.2.2.1 i (wsE_at ad C σ (hi _ hKn.1) |>.trans (by rw [cellE_1 ad C σ hk])) h1 k h2 (hts _ h4) (fun x hx => by rw [h3] at hx; exact hx) h8 h9 rfl rfl (by simpa using hkn) hd (fun H1 locs1 q1 q2 q3 => ?_)
  have e1 := wsE_set (nN := nN) ad C σ (setL σ i k x) (hi _ hKn.1) (e := .inr (cl i, ((List.range (nsl i)).map fun j => rv ad (av σ i j)).set k (rv ad (.long x)))) (by
    rw [cellE_1 ad C _ hk, range_set hkn (g := av (setL σ i k x) i) (by rw [av_setL_self hs]) (fun j hj => av_setL_ne hj)]) (fun j hj => cellE_setL_ne ad C σ hj)
  rw [e1] at q1 q2
  exact kk l D C ad nN S p ev R s m args below meth c A0 H1 locs1 ls X hA ⟨q1, q2, q3, sc_setL Y.2.2.2⟩ hl
theorem a_iald {i n : Nat} {j : Int32} (ho : IA K i n) (hb : inb j n = true) (hd : decode M.2.1 pc = .ok (.iaload, 1)) (kk : J K B e M (pc + 1) loc (.int (σ.1 i j.toNatClampNeg) :: stk) σ) : J K B e M pc loc (.int j :: .ref i :: stk) σ := by
  intro l D C ad nN S p ev R s m args below meth c A0 H locs ls X hA Y hl
  obtain ⟨hx, hbb, hml, hr, hlk, hown, hts, hK, -, -, hKn, hB, hSc, hTh⟩ := id X
  obtain ⟨hi, hk, rfl⟩ := ho
  exact va_iald hx hbb hK.1 Y.1 i 0 (wsE_at ad C σ (hi _ hKn.1) |>.trans (by rw [cellE_2 ad C σ hk])) rfl (inb_vp hb) hd (kk l D C ad nN S p ev R s m args below meth c A0 H locs ls X hA Y hl)
theorem a_lald {i n : Nat} {j : Int32} (ho : LA K i n) (hb : inb j n = true) (hd : decode M.2.1 pc = .ok (.laload, 1)) (kk : J K B e M (pc + 1) loc (.long (σ.2 i j.toNatClampNeg) :: stk) σ) : J K B e M pc loc (.int j :: .ref i :: stk) σ := by
  intro l D C ad nN S p ev R s m args below meth c A0 H locs ls X hA Y hl
  obtain ⟨hx, hbb, hml, hr, hlk, hown, hts, hK, -, -, hKn, hB, hSc, hTh⟩ := id X
  obtain ⟨hi, hk, rfl⟩ := ho
  exact va_lald hx hbb hK.1 Y.1 i 1 (wsE_at ad C σ (hi _ hKn.1) |>.trans (by rw [cellE_3 ad C σ hk])) rfl (inb_vp hb) hd (kk l D C ad nN S p ev R s m args below meth c A0 H locs ls X hA Y hl)
theorem a_aald {i n : Nat} {j : Int32} (v : Nat) (ho : GA K i n) (hb : inb j n = true) (hv : rfv i j.toNatClampNeg = v) (hd : decode M.2.1 pc = .ok (.aaload, 1)) (kk : J K B e M (pc + 1) loc (.ref v :: stk) σ) : J K B e M pc loc (.int j :: .ref i :: stk) σ := by
  intro l D C ad nN S p ev R s m args below meth c A0 H locs ls X hA Y hl
  obtain ⟨hx, hbb, hml, hr, hlk, hown, hts, hK, -, -, hKn, hB, hSc, hTh⟩ := id X
  obtain ⟨hi, hk, rfl⟩ := ho; subst hv
  exact va_aldq (f := fun j => some (ad (rfv i j))) hx hbb hK.1 Y.1 i 2 (wsE_at ad C σ (hi _ hKn.1) |>.trans (by rw [cellE_4 ad C σ hk])) rfl (inb_vp hb) hd (kk l D C ad nN S p ev R s m args below meth c A0 H locs ls X hA Y hl)
theorem a_iast {i n : Nat} {j x : Int32} (ho : IA K i n) (hb : inb j n = true) (hd : decode M.2.1 pc = .ok (.iastore, 1)) (kk : J K B e M (pc + 1) loc stk (setI σ i j.toNatClampNeg x)) : J K B e M pc loc (.int x :: .int j :: .ref i :: stk) σ := by
  intro l D C ad nN S p ev R s m args below meth c A0 H locs ls X hA Y hl
  obtain ⟨hx, hbb, hml, hr, hlk, hown, hts, hK, -, -, hKn, hB, hSc, hTh⟩ := id X
  obtain ⟨hi, hk, rfl⟩ := ho
  refine va_iast hx hbb hK.1 Y.1 Y.2.1 Y.2.2.1 i 0 (wsE_at ad C σ (hi _ hKn.1) |>.trans (by rw [cellE_2 ad C σ hk])) rfl (inb_vp hb) hd (fun H1 locs1 q1 q2 q3 => ?_)
  have e1 := wsE_set (nN := nN) ad C σ (setI σ i j.toNatClampNeg x) (hi _ hKn.1) (e := .inl (C.1, (nsl i, .inl (upd (σ.1 i) j.toNatClampNeg x)))) (by
    rw [cellE_2 ad C _ hk]
    congr 4
    funext b
    simp [setI, upd]) (fun j hj => cellE_setI_ne ad C σ hj)
  rw [e1] at q1 q2
  exact kk l D C ad nN S p ev R s m args below meth c A0 H1 locs1 ls X hA ⟨q1, q2, q3, sc_setI Y.2.2.2 (Nat.lt_of_lt_of_le (hi _ hKn.1) hKn.2)⟩ hl
theorem a_last {i n : Nat} {j : Int32} {x : Int64} (ho : LA K i n) (hb : inb j n = true) (hd : decode M.2.1 pc = .ok (.lastore, 1)) (kk : J K B e M (pc + 1) loc stk (setL σ i j.toNatClampNeg x)) : J K B e M pc loc (.long x :: .int j :: .ref i :: stk) σ := by
  intro l D C ad nN S p ev R s m args below meth c A0 H locs ls X hA Y hl
  obtain ⟨hx, hbb, hml, hr, hlk, hown, hts, hK, -, -, hKn, hB, hSc, hTh⟩ := id X
  obtain ⟨hi, hk, rfl⟩ := ho
  refine va_last hx hbb hK.1 Y.1 Y.2.1 Y.2.2.1 i 1 (wsE_at ad C σ (hi _ hKn.1) |>.trans (by rw [cellE_3 ad C σ hk])) rfl (inb_vp hb) hd (fun H1 locs1 q1 q2 q3 => ?_)
  have e1 := wsE_set (nN := nN) ad C σ (setL σ i j.toNatClampNeg x) (hi _ hKn.1) (e := .inl (C.2.1, (nsl i, .inr (.inl (vp_updL (σ.2 i) j.toNatClampNeg x))))) (by
    rw [cellE_3 ad C _ hk]
    congr 5
    funext b
    simp [setL, vp_updL]) (fun j hj => cellE_setL_ne ad C σ hj)
  rw [e1] at q1 q2
  exact kk l D C ad nN S p ev R s m args below meth c A0 H1 locs1 ls X hA ⟨q1, q2, q3, sc_setL Y.2.2.2⟩ hl
theorem a_alen {i n : Nat} {v : Int32} (ho : IA K i n ∨ LA K i n) (hv : Int32.ofNat n = v) (hd : decode M.2.1 pc = .ok (.arraylength, 1)) (kk : J K B e M (pc + 1) loc (.int v :: stk) σ) : J K B e M pc loc (.ref i :: stk) σ := by
  intro l D C ad nN S p ev R s m args below meth c A0 H locs ls X hA Y hl
  obtain ⟨hx, hbb, hml, hr, hlk, hown, hts, hK, -, -, hKn, hB, hSc, hTh⟩ := id X
  rcases ho with ⟨hi, hk, rfl⟩ | ⟨hi, hk, rfl⟩
  · exact va_alen hx hbb hK.1 Y.1 i 0 (wsE_at ad C σ (hi _ hKn.1) |>.trans (by rw [cellE_2 ad C σ hk])) rfl hv hd (kk l D C ad nN S p ev R s m args below meth c A0 H locs ls X hA Y hl)
  · exact va_alen hx hbb hK.1 Y.1 i 1 (wsE_at ad C σ (hi _ hKn.1) |>.trans (by rw [cellE_3 ad C σ hk])) rfl hv hd (kk l D C ad nN S p ev R s m args below meth c A0 H locs ls X hA Y hl)
/-- System.arraycopy from both starts -/
def CPL (own : String) (ix : Nat) : Prop := Cond.methodLink own ix arraycopyName ∈ aT ∧ Cond.native arraycopyName ∈ aT ∧ Cond.static arraycopyName ∈ aT ∧ Cond.initialized "java/lang/System" ∈ aT
theorem a_cpyI {i j ix n0 n1 : Nat} {n : Int32} (hoi : IA K i n0) (hoj : IA K j n1) (hf : CPL M.1.cls ix) (h3 : ¬ n < 0) (h4 : n.toNatClampNeg ≤ n0) (h5 : n.toNatClampNeg ≤ n1) (hw : (stk.map fun v => v.category).sum ≤ 8) (hd : decode M.2.1 pc = .ok (.invokestatic ix, 3)) (kk : J K B (e + 1) M (pc + 3) loc stk (cpyI σ i j n.toNatClampNeg)) : J K B (e + 1) M pc loc (.int n :: .int 0 :: .ref j :: .int 0 :: .ref i :: stk) σ := by
  intro l D C ad nN S p ev R s m args below meth c A0 H locs ls X hA Y hl
  obtain ⟨hx, hbb, hml, hr, hlk, hown, hts, hK, hf1, hf2, hKn, hB, hSc, hTh⟩ := id X
  obtain ⟨w1, w2, w3, w4⟩ := hf
  obtain ⟨hi, hki, rfl⟩ := hoi
  obtain ⟨hj, hkj, rfl⟩ := hoj
  have hw2 : ((stk.map (rv ad)).map fun v => v.category).sum ≤ 8 := by
    have e1 : ((stk.map (rv ad)).map fun v => v.category) = stk.map fun v => v.category := by simp [Function.comp_def, rv_cat]
    rw [e1]; exact hw
  refine va_copyi hx hbb (hml.trans hl.1.symm) hown (hts _ w1) (hts _ w2) (hts _ w3) (hts _ w4) hK.1 Y.1 Y.2.1 Y.2.2.1 i j 0 0 (wsE_at ad C σ (hi _ hKn.1) |>.trans (by rw [cellE_2 ad C σ hki])) (wsE_at ad C σ (hj _ hKn.1) |>.trans (by rw [cellE_2 ad C σ hkj])) rfl rfl rfl (by decide) (by decide) h3 (by simpa using h4) (by simpa using h5) (fun _ _ => rfl) (by omega) (Nat.le_trans (Nat.add_le_add_right hw2 _) (Nat.le_trans (show 8 + (nativeFrameWords "java/lang/System" "arraycopy" 5 + 11) ≤ 36 from by decide +kernel) (by omega))) hd (fun H1 locs1 q1 q2 q3 => ?_)
  have e1 := wsE_set (nN := nN) ad C σ (cpyI σ i j n.toNatClampNeg) (hj _ hKn.1) (e := .inl (C.1, (nsl j, .inl (va_cpy (σ.1 i) (σ.1 j) (0 : Int32).toNatClampNeg (0 : Int32).toNatClampNeg n.toNatClampNeg)))) (by
    rw [cellE_2 ad C _ hkj]
    congr 4
    funext b
    simp [cpyI, va_cpy]) (fun a ha => cellE_cpyI_ne ad C σ ha)
  rw [e1] at q1 q2
  exact kk l D C ad nN S p ev R s m args below meth c A0 H1 locs1 ls X hA ⟨q1, q2, q3, sc_cpyI Y.2.2.2 (Nat.lt_of_lt_of_le (hj _ hKn.1) hKn.2)⟩ hl
theorem a_cpyL {i j ix n0 n1 : Nat} {n : Int32} (hoi : LA K i n0) (hoj : LA K j n1) (hf : CPL M.1.cls ix) (h3 : ¬ n < 0) (h4 : n.toNatClampNeg ≤ n0) (h5 : n.toNatClampNeg ≤ n1) (hw : (stk.map fun v => v.category).sum ≤ 8) (hd : decode M.2.1 pc = .ok (.invokestatic ix, 3)) (kk : J K B (e + 1) M (pc + 3) loc stk (cpyL σ i j n.toNatClampNeg)) : J K B (e + 1) M pc loc (.int n :: .int 0 :: .ref j :: .int 0 :: .ref i :: stk) σ := by
  intro l D C ad nN S p ev R s m args below meth c A0 H locs ls X hA Y hl
  obtain ⟨hx, hbb, hml, hr, hlk, hown, hts, hK, hf1, hf2, hKn, hB, hSc, hTh⟩ := id X
  obtain ⟨w1, w2, w3, w4⟩ := hf
  obtain ⟨hi, hki, rfl⟩ := hoi
  obtain ⟨hj, hkj, rfl⟩ := hoj
  have hw2 : ((stk.map (rv ad)).map fun v => v.category).sum ≤ 8 := by
    have e1 : ((stk.map (rv ad)).map fun v => v.category) = stk.map fun v => v.category := by simp [Function.comp_def, rv_cat]
    rw [e1]; exact hw
  refine va_copyl hx hbb (hml.trans hl.1.symm) hown (hts _ w1) (hts _ w2) (hts _ w3) (hts _ w4) hK.1 Y.1 Y.2.1 Y.2.2.1 i j 1 1 (wsE_at ad C σ (hi _ hKn.1) |>.trans (by rw [cellE_3 ad C σ hki])) (wsE_at ad C σ (hj _ hKn.1) |>.trans (by rw [cellE_3 ad C σ hkj])) rfl rfl rfl (by decide) (by decide) h3 (by simpa using h4) (by simpa using h5) (fun _ _ => rfl) (by omega) (Nat.le_trans (Nat.add_le_add_right hw2 _) (Nat.le_trans (show 8 + (nativeFrameWords "java/lang/System" "arraycopy" 5 + 11) ≤ 36 from by decide +kernel) (by omega))) hd (fun H1 locs1 q1 q2 q3 => ?_)
  have e1 := wsE_set (nN := nN) ad C σ (cpyL σ i j n.toNatClampNeg) (hj _ hKn.1) (e := .inl (C.2.1, (nsl j, .inr (.inl (va_cpy (σ.2 i) (σ.2 j) (0 : Int32).toNatClampNeg (0 : Int32).toNatClampNeg n.toNatClampNeg))))) (by
    rw [cellE_3 ad C _ hkj]
    congr 5
    funext b
    simp [cpyL, va_cpy]) (fun a ha => cellE_cpyL_ne ad C σ ha)
  rw [e1] at q1 q2
  exact kk l D C ad nN S p ev R s m args below meth c A0 H1 locs1 ls X hA ⟨q1, q2, q3, sc_cpyL Y.2.2.2⟩ hl
/-- calls: the words of a site -/
def VL (own : String) (ix ci : Nat) (M' : MI) (n : Nat) : Prop := (∃ (T : u_T) (N : Nat), vwCl[ci]? = some (M'.1.cls, T, N)) ∧ (Cond.methodLink own ix M'.1 ∈ aT ∨ ∃ host, Cond.methodLinkNest own ix M'.1 host ∈ aNst) ∧ Cond.instanceMethod M'.1 ∈ aT ∧ Cond.selects M'.1.cls M'.1 M'.1 ∈ aT ∧ Cond.initialized M'.1.cls ∈ aT ∧ Cond.code M'.1 M'.2.1 M'.2.2.1 M'.2.2.2 ∈ aT ∧
  (M'.1.cls ≠ "java/lang/invoke/MethodHandle" ∧ M'.1.cls ≠ "java/lang/invoke/VarHandle" ∧ (parseMethodDescriptor M'.1.desc).map (fun d => d.parameters.length) = some n) ∧ M'.2.2.1 ≤ 17
def SL (own : String) (ix : Nat) (M' : MI) (n : Nat) : Prop := (Cond.methodLink own ix M'.1 ∈ aT ∨ ∃ host, Cond.methodLinkNest own ix M'.1 host ∈ aNst) ∧ Cond.static M'.1 ∈ aT ∧ Cond.initialized M'.1.cls ∈ aT ∧ Cond.code M'.1 M'.2.1 M'.2.2.1 M'.2.2.2 ∈ aT ∧
  (M'.1.cls ≠ "java/lang/invoke/MethodHandle" ∧ M'.1.cls ≠ "java/lang/invoke/VarHandle" ∧ (parseMethodDescriptor M'.1.desc).map (fun d => d.parameters.length) = some n) ∧ M'.2.2.1 ≤ 17
theorem aT_good {w : Cond} (h : w ∈ aT) : w ∈ aT ∧ ((w.onTables && w.keeps) = true ∨ ∃ ty, w = .arrayClass ty) := ⟨h, good_of_word (List.mem_filter.mp h).2⟩
theorem mWs_good {M' : MI} (h : Cond.code M'.1 M'.2.1 M'.2.2.1 M'.2.2.2 ∈ aT) : GoodIn aT (mWs M') := fun w hw => by
  rcases List.mem_cons.mp hw with rfl | hw
  · exact aT_good h
  · exact aT_good hw
theorem rv_map_length (ad : Nat → Nat) (as : List Value) : (as.map (rv ad)).length = as.length := List.length_map ..
theorem cat_map (ad : Nat → Nat) (as : List Value) : ((as.map (rv ad)).map fun v => v.category) = as.map fun v => v.category := by simp [Function.comp_def, rv_cat]
/-- behind a call -/
theorem a_back {l : Launch} {D : va_G} {C : CT} {ad : Nat → Nat} {nN : Nat} {S : Sx} {p : Program} {ev : Env} {R : Room} {s : State} {m : MethodId} {args : Array Value} {below : List Frame} {meth : Method} {c : Code} {A0 : Nat → Prop} {H : Heap} {locs : List Loc} {ls : Array Slot} {st0 : List Value} {a : Array Value} {q : Option Value} {σ1 : St} {Q : State → Prop} {mc ms : Nat}
    (hr : va_Run p l ev R s m args below meth c H locs mc ms 0 0 (F0 m pc ls st0) (stk.map (rv ad)) (aQ D C ad nN S (va_A (wsE ad C nN σ) H.size) q σ1 a) (va_A (wsE ad C nN σ) H.size)) (hA : ∀ q, s.heap.size ≤ q → A0 q) (Y : Hp D C ad nN S A0 s σ H locs)
    (kk : ∀ (H1 : Heap) (locs1 : List Loc), Hp D C ad nN S A0 s σ1 H1 locs1 → W p l ev R s m args below meth c H1 locs1 mc ms Q (F0 m (pc + 3) ls (((q.toList ++ stk)).map (rv ad)))) : W p l ev R s m args below meth c H locs mc ms Q (F0 m pc ls st0) := by
  intro T hT X
  obtain ⟨v, st₀, t, T', L, h0, X', hL, e1, e2, ⟨⟨hv, hB⟩, hz, hk⟩, st⟩ := hr T hT X
  rw [h0] at hz hk
  have hfree : ∀ z, va_A (wsE ad C nN σ) H.size z → A0 z := by
    intro z hz2
    rcases hz2 with ⟨k, w, hw⟩ | hw
    · exact Y.2.1.2 k _ hw
    · exact hA z (Nat.le_trans Y.2.2.1.1 hw)
  have hv' : v.toList ++ stk.map (rv ad) = ((q.toList ++ stk)).map (rv ad) := by
    have : v = q.map (rv ad) := by injection hv
    subst this
    cases q <;> simp
  have hS : va_S A0 s.heap T'.heap (locs ++ L) := by
    refine ⟨Nat.le_trans Y.2.2.1.1 (by rw [e1]; exact hz), fun z h1 h2 => ?_, fun z hz2 => ?_⟩
    · rw [e1, hk z (Nat.lt_of_lt_of_le h1 Y.2.2.1.1) (fun w => h2 (hfree z w))]
      exact Y.2.2.1.2.1 z h1 h2
    · rcases List.mem_append.mp hz2 with h | h
      · exact Y.2.2.1.2.2 z h
      · exact hfree _ (hL z h)
  have hP : va_P D vwCl (wsE ad C nN σ1) T'.heap := by rw [e1]; exact hB.1
  have hD : va_D A0 (wsE ad C nN σ1) := hB.2.2.1.weaken (fun k w _ h => hfree _ h)
  obtain ⟨t2, a1, b1⟩ := kk T'.heap (locs ++ L) ⟨hP, hD, hS, hB.2.2.2⟩ T' rfl X'
  rw [← hv'] at a1
  exact ⟨t2, st t2 a1, b1⟩
abbrev aPre (D : va_G) (C : CT) (ad : Nat → Nat) (nN : Nat) (S : Sx) (σ : St) (sz : Nat) : State → Prop := fun U => U.heap.size = sz ∧ va_P D vwCl (wsE ad C nN σ) U.heap ∧ aK D C U ∧ va_D (fun _ => True) (wsE ad C nN σ) ∧ (va_X (ad 68) S.2 S.1 U U.heap ∧ ad 68 < sz ∧ ¬ va_A (wsE ad C nN σ) sz (ad 68)) ∧ sc σ S
theorem a_blind {D : va_G} {C : CT} {ad : Nat → Nat} {nN : Nat} {S : Sx} {as : List Value} {sz : Nat} : FrameBlind (va_Pc (as.map (rv ad)) (aPre D C ad nN S σ sz)) := by
  intro a U g mk h
  obtain ⟨h1, h2, h3, h4, h5, ⟨h6, h7⟩, h8⟩ := h
  exact ⟨h1, h2, h3, aK.same (s := U) (U := U.calling g mk a) rfl h4, h5, ⟨va_X.moved (by exact Vm.Alike.refl _) h6, h7⟩, h8⟩
theorem a_preS {D : va_G} {C : CT} {ad : Nat → Nat} {nN : Nat} {S : Sx} {as : List Value} {s : State} {H : Heap} {A0 : Nat → Prop} {locs : List Loc} (Y : Hp D C ad nN S A0 s σ H locs) (hK : aK D C s) (hA : ∀ q, s.heap.size ≤ q → A0 q) (hSc : va_X (ad 68) S.2 S.1 s s.heap ∧ ad 68 < s.heap.size ∧ ¬ A0 (ad 68)) : PreS s H (va_Pc (as.map (rv ad)) (aPre D C ad nN S σ H.size)) (as.map (rv ad)) := by
  refine ⟨a_blind, fun U hU hW => ⟨rfl, by rw [hU], by rw [hU]; exact Y.1, aK.warm hW hK, Y.2.1.weaken (fun _ _ _ _ => trivial), ⟨?_, Nat.lt_of_lt_of_le hSc.2.1 Y.2.2.1.1, ?_⟩, Y.2.2.2⟩⟩
  · rw [hU]
    exact va_X.moved hW.alike (hSc.1.kept (Y.2.2.1.2.1 _ hSc.2.1 hSc.2.2))
  · rintro (⟨k, w, hw⟩ | hw)
    · exact hSc.2.2 (Y.2.1.2 k _ hw)
    · exact absurd (Nat.lt_of_lt_of_le hSc.2.1 Y.2.2.1.1) (Nat.not_lt.mpr hw)
theorem a_callS {ix n : Nat} {as : List Value} {M' : MI} {q : Option Value} {σ1 : St} (hs : SpK K e M' as σ q σ1) (hL : SL M.1.cls ix M' n) (hn : as.length = n) (hw : (stk.map fun v => v.category).sum ≤ 8) (hd : decode M.2.1 pc = .ok (.invokestatic ix, 3)) (kk : J K B (e + 1) M (pc + 3) loc (q.toList ++ stk) σ1) : J K B (e + 1) M pc loc (as.reverse ++ stk) σ := by
  intro l D C ad nN S p ev R s m args below meth c A0 H locs ls X hA Y hl
  obtain ⟨hx, hbb, hml, hr, hlk, hown, hts, hK, hf1, hf2, hKn, hB, hSc, hTh⟩ := id X
  obtain ⟨hlink, w2, w3, w4, hdsc, h15⟩ := hL
  have hst : (F0 m pc ls ((as.reverse ++ stk).map (rv ad))).stack = (as.map (rv ad)).reverse ++ stk.map (rv ad) := by simp
  have hW : 2 * (F0 m pc ls ((as.reverse ++ stk).map (rv ad))).monitorRoom + ((stk.map (rv ad)).map fun v => v.category).sum ≤ 8 := by
    rw [cat_map]; exact lv_room hw
  have hroom : e + 1 ≤ R.frames ∧ 8 + (M'.2.2.1 + 11) + 36 * e ≤ R.locals := ⟨hf1, by omega⟩
  have hroomc : B.1.1 + 0 ≤ R.cells ∧ B.1.2 + 0 ≤ R.slots := hB
  have hrun : va_Run p l ev R s m args below meth c H locs B.1.1 B.1.2 0 0 (F0 m pc ls ((as.reverse ++ stk).map (rv ad))) (stk.map (rv ad)) (aQ D C ad nN S (va_A (wsE ad C nN σ) H.size) q σ1 (as.map (rv ad)).toArray) (va_A (wsE ad C nN σ) H.size) := by
    rcases hlink with w1 | ⟨host, w1⟩
    · exact va_runS ⟨hx, hbb, hml, hown, hts⟩ (hs l D C ad nN S H.size hKn.1 hKn.2) ⟨callB_of (ws' := aT) n hts (mWs_good w4) rfl rfl rfl (hts _ w3) (hts _ w1) hdsc hroom, hts _ w2⟩ (a_preS Y hK hA hSc) rfl (by simpa using hn) hl.1 hst hW hd hroomc
    · exact va_runSN ⟨hx, hbb, hml, hown, hts⟩ (hs l D C ad nN S H.size hKn.1 hKn.2) ⟨va_cnB (ws' := aT) n hts (mWs_good w4) rfl rfl rfl (hK.2 _ w1) (hts _ w3) hdsc hroom, hts _ w2, trivial⟩ (a_preS Y hK hA hSc) rfl (by simpa using hn) hl.1 hst hW hd hroomc
  exact a_back hrun hA Y (fun H1 locs1 Y1 => kk l D C ad nN S p ev R s m args below meth c A0 H1 locs1 ls X hA Y1 hl)
theorem a_callV {ix n i ci ni : Nat} {as : List Value} {M' : MI} {q : Option Value} {σ1 : St} (hs : SpK K e M' (.ref i :: as) σ q σ1) (ho : OB K i ci ni) (hL : VL M.1.cls ix ci M' n) (hn : as.length = n) (hw : (stk.map fun v => v.category).sum ≤ 8) (hd : decode M.2.1 pc = .ok (.invokevirtual ix, 3)) (kk : J K B (e + 1) M (pc + 3) loc (q.toList ++ stk) σ1) : J K B (e + 1) M pc loc (as.reverse ++ .ref i :: stk) σ := by
  intro l D C ad nN S p ev R s m args below meth c A0 H locs ls X hA Y hl
  obtain ⟨hx, hbb, hml, hr, hlk, hown, hts, hK, hf1, hf2, hKn, hB, hSc, hTh⟩ := id X
  obtain ⟨⟨T, N, hcl⟩, hlink, w2, w5, w3, w4, hdsc, h15⟩ := hL
  obtain ⟨hi, hk, rfl, rfl⟩ := ho
  have hst : (F0 m pc ls ((as.reverse ++ .ref i :: stk).map (rv ad))).stack = (as.map (rv ad)).reverse ++ .ref (ad i) :: stk.map (rv ad) := by simp [rv]
  have hW : 2 * (F0 m pc ls ((as.reverse ++ .ref i :: stk).map (rv ad))).monitorRoom + ((stk.map (rv ad)).map fun v => v.category).sum ≤ 8 := by
    rw [cat_map]; exact lv_room hw
  have hroom : e + 1 ≤ R.frames ∧ 8 + (M'.2.2.1 + 11) + 36 * e ≤ R.locals := ⟨hf1, by omega⟩
  have hroomc : B.1.1 + 0 ≤ R.cells ∧ B.1.2 + 0 ≤ R.slots := hB
  have hpre : PreV s H M'.1.cls (ad i) (va_Pc ((.ref i :: as).map (rv ad)) (aPre D C ad nN S σ H.size)) (as.map (rv ad)) :=
    ⟨a_blind, va_recv hK.1 Y.1 hcl (wsE_at ad C σ (hi _ hKn.1) |>.trans (by rw [cellE_1 ad C σ hk])), fun U hU hW => (a_preS (as := .ref i :: as) Y hK hA hSc).2 U hU hW⟩
  have hrun : va_Run p l ev R s m args below meth c H locs B.1.1 B.1.2 0 0 (F0 m pc ls ((as.reverse ++ .ref i :: stk).map (rv ad))) (stk.map (rv ad)) (aQ D C ad nN S (va_A (wsE ad C nN σ) H.size) q σ1 (.ref (ad i) :: as.map (rv ad)).toArray) (va_A (wsE ad C nN σ) H.size) := by
    rcases hlink with w1 | ⟨host, w1⟩
    · exact va_runV ⟨hx, hbb, hml, hown, hts⟩ (hs l D C ad nN S H.size hKn.1 hKn.2) ⟨callB_of (ws' := aT) n hts (mWs_good w4) rfl rfl rfl (hts _ w3) (hts _ w1) hdsc hroom, hts _ w2, hts _ w5⟩ hpre rfl (by simpa using hn) hl.1 hst hW hd hroomc
    · exact va_runVN ⟨hx, hbb, hml, hown, hts⟩ (hs l D C ad nN S H.size hKn.1 hKn.2) ⟨va_cnB (ws' := aT) n hts (mWs_good w4) rfl rfl rfl (hK.2 _ w1) (hts _ w3) hdsc hroom, hts _ w2, hts _ w5⟩ hpre rfl (by simpa using hn) hl.1 hst hW hd hroomc
  exact a_back hrun hA Y (fun H1 locs1 Y1 => kk l D C ad nN S p ev R s m args below meth c A0 H1 locs1 ls X hA Y1 hl)
/-- the script: a number of it, its length -/
theorem a_sld {j : Int32} (hb : inb j (σ.1 69 0).toNatClampNeg = true) (hd : decode M.2.1 pc = .ok (.iaload, 1)) (kk : J K B e M (pc + 1) loc (.int (σ.1 68 j.toNatClampNeg) :: stk) σ) : J K B e M pc loc (.int j :: .ref 68 :: stk) σ := by
  intro l D C ad nN S p ev R s m args below meth c A0 H locs ls X hA Y hl
  obtain ⟨hx, hbb, hml, hr, hlk, hown, hts, hK, hf1, hf2, hKn, hB, hSc, hTh⟩ := id X
  obtain ⟨s1, s2, s3⟩ := Y.2.2.2
  have e1 : (σ.1 69 0).toNatClampNeg = S.2 := by rw [s2]; exact nI_clamp (by omega)
  rw [e1] at hb
  refine va_sld hx hbb hSc.1 hSc.2.1 hSc.2.2 Y.2.2.1 (inb_vp hb) hd ?_
  rw [← s1]
  exact kk l D C ad nN S p ev R s m args below meth c A0 H locs ls X hA Y hl
theorem a_slen (hd : decode M.2.1 pc = .ok (.arraylength, 1)) (kk : J K B e M (pc + 1) loc (.int (σ.1 69 0) :: stk) σ) : J K B e M pc loc (.ref 68 :: stk) σ := by
  intro l D C ad nN S p ev R s m args below meth c A0 H locs ls X hA Y hl
  obtain ⟨hx, hbb, hml, hr, hlk, hown, hts, hK, hf1, hf2, hKn, hB, hSc, hTh⟩ := id X
  obtain ⟨s1, s2, s3⟩ := Y.2.2.2
  refine va_slen hx hbb hSc.1 hSc.2.1 hSc.2.2 Y.2.2.1 hd ?_
  have k1 := kk l D C ad nN S p ev R s m args below meth c A0 H locs ls X hA Y hl
  rw [s2] at k1
  exact k1
theorem lv_args_lm (ad : Nat → Nat) : ∀ (as : List Value) (k : Nat), lv_args k (as.map (rv ad)) = lm ad (lv_args k as)
  | [], _ => rfl
  | v :: as, k => by
    show (k, rv ad v) :: lv_args (if (rv ad v).category = 2 then k + 2 else k + 1) (as.map (rv ad)) = (k, rv ad v) :: lm ad (lv_args (if v.category = 2 then k + 2 else k + 1) as)
    rw [rv_cat, lv_args_lm ad as]
theorem lg_len (ad : Nat → Nat) : ∀ as : List Value, (lg_sl (as.map (rv ad))).length = (lg_sl as).length
  | [] => rfl
  | v :: as => by
    have h := lg_len ad as
    simp only [lg_sl, List.map_cons, List.flatMap_cons, List.length_append, rv_cat] at h ⊢
    rw [h]
    split <;> rfl
/-- a method's contract out of the walk of its body -/
theorem sp_of {as : List Value} (hy : plainName M.1.cls = true) (hlen : (lg_sl as).length ≤ M.2.2.1) (hq : lv_args 0 as = loc) (h : AL K e M 0 loc [] σ r τ) : SpK K e M as σ r τ := by
  intro l D C ad nN S sz hKn hN68
  refine Met.ofW (cc := M.2.1) (maxL := M.2.2.1) (ret := M.2.2.2) (ws' := aT) hy rfl ?_
  intro p ev s m args below meth c s₁ B hml hv
  obtain ⟨rfl, hsz, hP, hK, hD0, hSc, hsc⟩ := hv
  have hts := atoms_spec (ws := mWs M) B.pre
  have hown : s.vm.findClass M.1.cls = some m.cls := findClass_of_methodNamed B.named
  have hl := lv_entry (as.map (rv ad)) (n := M.2.2.1) (by rw [lg_len]; exact hlen)
  rw [lg_entry_eq]
  generalize (lg_sl (as.map (rv ad)) ++ List.replicate (M.2.2.1 - (lg_sl (as.map (rv ad))).length) Slot.unset).toArray = ls at hl ⊢
  rw [lv_args_lm, hq] at hl
  subst hsz
  exact h l D C ad nN S p ev _ s m _ below meth c (va_A (wsE ad C nN σ) s.heap.size) s.heap [] ls ⟨B.exec, B.bytes, hml, B.returns, B.notSynchronized, hown, fun w hw => hts w (List.mem_cons_of_mem _ hw), hK, Nat.le_refl _, Nat.le_refl _, ⟨hKn, hN68⟩, ⟨Nat.zero_le _, Nat.zero_le _⟩, hSc, trivial⟩ (fun q hq => Or.inr hq) ⟨hP, hD0.self, va_S.rf, hsc⟩ hl
end AH
end
section
theorem aT_in {w : Cond} (i : Nat) (h : lw_tbl[i]? = some w) (hg : goodWord w = true) : w ∈ aT := List.mem_filter.mpr ⟨List.mem_of_getElem? h, hg⟩
theorem aN_in {w : Cond} (i : Nat) (h : lw_tbl[i]? = some w) (hg : isNest w = true) : w ∈ aNst := List.mem_filter.mpr ⟨List.mem_of_getElem? h, hg⟩
theorem aT_r (ws : List Cond) (ps : List Nat) (hp : ws = ps.filterMap (fun i => lw_tbl[i]?)) (h : ws.all goodWord = true) : ∀ w ∈ ws, w ∈ aT := by
  intro w hw
  have h1 := List.all_eq_true.mp h w hw
  rw [hp] at hw
  obtain ⟨i, -, hi⟩ := List.mem_filterMap.mp hw
  exact aT_in i hi h1
/-- just k cells are there -/
abbrev eqK (k : Nat) : Nat → Prop := fun n => n = k
theorem OB.mono {K K' : Nat → Prop} {i ci n : Nat} (h : OB K i ci n) (hk : ∀ n, K' n → K n) : OB K' i ci n := ⟨fun m e => h.1 m (hk m e), h.2⟩
/-- a WORLD's number, a GIFT's number -/
def isW (w : Nat) : Prop := w = 4 ∨ w = 19 ∨ w = 34
theorem ob_0 : OB K58 0 8 11 := ⟨fun m h => Nat.lt_of_lt_of_le (by decide) h, rfl, rfl, rfl⟩
theorem ob_1 : OB K58 1 5 2 := ⟨fun m h => Nat.lt_of_lt_of_le (by decide) h, rfl, rfl, rfl⟩
theorem ia_2 : IA K58 2 16 := ⟨fun m h => Nat.lt_of_lt_of_le (by decide) h, rfl, rfl⟩
theorem ob_3 : OB K58 3 4 4 := ⟨fun m h => Nat.lt_of_lt_of_le (by decide) h, rfl, rfl, rfl⟩
theorem ob_4 : OB K58 4 7 9 := ⟨fun m h => Nat.lt_of_lt_of_le (by decide) h, rfl, rfl, rfl⟩
theorem ia_5 : IA K58 5 8 := ⟨fun m h => Nat.lt_of_lt_of_le (by decide) h, rfl, rfl⟩
theorem ia_6 : IA K58 6 8 := ⟨fun m h => Nat.lt_of_lt_of_le (by decide) h, rfl, rfl⟩
theorem ia_7 : IA K58 7 8 := ⟨fun m h => Nat.lt_of_lt_of_le (by decide) h, rfl, rfl⟩
theorem ia_8 : IA K58 8 64 := ⟨fun m h => Nat.lt_of_lt_of_le (by decide) h, rfl, rfl⟩
theorem ia_9 : IA K58 9 64 := ⟨fun m h => Nat.lt_of_lt_of_le (by decide) h, rfl, rfl⟩
theorem ga_10 : GA K58 10 8 := ⟨fun m h => Nat.lt_of_lt_of_le (by decide) h, rfl, rfl⟩
theorem ob_11 : OB K58 11 3 8 := ⟨fun m h => Nat.lt_of_lt_of_le (by decide) h, rfl, rfl, rfl⟩
theorem ob_12 : OB K58 12 3 8 := ⟨fun m h => Nat.lt_of_lt_of_le (by decide) h, rfl, rfl, rfl⟩
theorem ob_13 : OB K58 13 3 8 := ⟨fun m h => Nat.lt_of_lt_of_le (by decide) h, rfl, rfl, rfl⟩
theorem ob_14 : OB K58 14 3 8 := ⟨fun m h => Nat.lt_of_lt_of_le (by decide) h, rfl, rfl, rfl⟩
theorem ob_15 : OB K58 15 3 8 := ⟨fun m h => Nat.lt_of_lt_of_le (by decide) h, rfl, rfl, rfl⟩
theorem ob_16 : OB K58 16 3 8 := ⟨fun m h => Nat.lt_of_lt_of_le (by decide) h, rfl, rfl, rfl⟩
theorem ob_17 : OB K58 17 3 8 := ⟨fun m h => Nat.lt_of_lt_of_le (by decide) h, rfl, rfl, rfl⟩
theorem ob_18 : OB K58 18 3 8 := ⟨fun m h => Nat.lt_of_lt_of_le (by decide) h, rfl, rfl, rfl⟩
theorem ob_19 : OB K58 19 7 9 := ⟨fun m h => Nat.lt_of_lt_of_le (by decide) h, rfl, rfl, rfl⟩
theorem ia_20 : IA K58 20 8 := ⟨fun m h => Nat.lt_of_lt_of_le (by decide) h, rfl, rfl⟩
theorem ia_21 : IA K58 21 8 := ⟨fun m h => Nat.lt_of_lt_of_le (by decide) h, rfl, rfl⟩
theorem ia_22 : IA K58 22 8 := ⟨fun m h => Nat.lt_of_lt_of_le (by decide) h, rfl, rfl⟩
theorem ia_23 : IA K58 23 64 := ⟨fun m h => Nat.lt_of_lt_of_le (by decide) h, rfl, rfl⟩
theorem ia_24 : IA K58 24 64 := ⟨fun m h => Nat.lt_of_lt_of_le (by decide) h, rfl, rfl⟩
theorem ga_25 : GA K58 25 8 := ⟨fun m h => Nat.lt_of_lt_of_le (by decide) h, rfl, rfl⟩
theorem ob_26 : OB K58 26 3 8 := ⟨fun m h => Nat.lt_of_lt_of_le (by decide) h, rfl, rfl, rfl⟩
theorem ob_27 : OB K58 27 3 8 := ⟨fun m h => Nat.lt_of_lt_of_le (by decide) h, rfl, rfl, rfl⟩
theorem ob_28 : OB K58 28 3 8 := ⟨fun m h => Nat.lt_of_lt_of_le (by decide) h, rfl, rfl, rfl⟩
theorem ob_29 : OB K58 29 3 8 := ⟨fun m h => Nat.lt_of_lt_of_le (by decide) h, rfl, rfl, rfl⟩
theorem ob_30 : OB K58 30 3 8 := ⟨fun m h => Nat.lt_of_lt_of_le (by decide) h, rfl, rfl, rfl⟩
theorem ob_31 : OB K58 31 3 8 := ⟨fun m h => Nat.lt_of_lt_of_le (by decide) h, rfl, rfl, rfl⟩
theorem ob_32 : OB K58 32 3 8 := ⟨fun m h => Nat.lt_of_lt_of_le (by decide) h, rfl, rfl, rfl⟩
theorem ob_33 : OB K58 33 3 8 := ⟨fun m h => Nat.lt_of_lt_of_le (by decide) h, rfl, rfl, rfl⟩
theorem ob_34 : OB K58 34 7 9 := ⟨fun m h => Nat.lt_of_lt_of_le (by decide) h, rfl, rfl, rfl⟩
theorem ia_35 : IA K58 35 8 := ⟨fun m h => Nat.lt_of_lt_of_le (by decide) h, rfl, rfl⟩
theorem ia_36 : IA K58 36 8 := ⟨fun m h => Nat.lt_of_lt_of_le (by decide) h, rfl, rfl⟩
theorem ia_37 : IA K58 37 8 := ⟨fun m h => Nat.lt_of_lt_of_le (by decide) h, rfl, rfl⟩
theorem ia_38 : IA K58 38 64 := ⟨fun m h => Nat.lt_of_lt_of_le (by decide) h, rfl, rfl⟩
theorem ia_39 : IA K58 39 64 := ⟨fun m h => Nat.lt_of_lt_of_le (by decide) h, rfl, rfl⟩
theorem ga_40 : GA K58 40 8 := ⟨fun m h => Nat.lt_of_lt_of_le (by decide) h, rfl, rfl⟩
theorem ob_41 : OB K58 41 3 8 := ⟨fun m h => Nat.lt_of_lt_of_le (by decide) h, rfl, rfl, rfl⟩
theorem ob_42 : OB K58 42 3 8 := ⟨fun m h => Nat.lt_of_lt_of_le (by decide) h, rfl, rfl, rfl⟩
theorem ob_43 : OB K58 43 3 8 := ⟨fun m h => Nat.lt_of_lt_of_le (by decide) h, rfl, rfl, rfl⟩
theorem ob_44 : OB K58 44 3 8 := ⟨fun m h => Nat.lt_of_lt_of_le (by decide) h, rfl, rfl, rfl⟩
theorem ob_45 : OB K58 45 3 8 := ⟨fun m h => Nat.lt_of_lt_of_le (by decide) h, rfl, rfl, rfl⟩
theorem ob_46 : OB K58 46 3 8 := ⟨fun m h => Nat.lt_of_lt_of_le (by decide) h, rfl, rfl, rfl⟩
theorem ob_47 : OB K58 47 3 8 := ⟨fun m h => Nat.lt_of_lt_of_le (by decide) h, rfl, rfl, rfl⟩
theorem ob_48 : OB K58 48 3 8 := ⟨fun m h => Nat.lt_of_lt_of_le (by decide) h, rfl, rfl, rfl⟩
theorem ob_49 : OB K58 49 2 1 := ⟨fun m h => Nat.lt_of_lt_of_le (by decide) h, rfl, rfl, rfl⟩
theorem ob_50 : OB K58 50 6 2 := ⟨fun m h => Nat.lt_of_lt_of_le (by decide) h, rfl, rfl, rfl⟩
theorem la_51 : LA K58 51 72 := ⟨fun m h => Nat.lt_of_lt_of_le (by decide) h, rfl, rfl⟩
theorem la_52 : LA K58 52 72 := ⟨fun m h => Nat.lt_of_lt_of_le (by decide) h, rfl, rfl⟩
theorem ob_53 : OB K58 53 1 2 := ⟨fun m h => Nat.lt_of_lt_of_le (by decide) h, rfl, rfl, rfl⟩
theorem ia_54 : IA K58 54 256 := ⟨fun m h => Nat.lt_of_lt_of_le (by decide) h, rfl, rfl⟩
theorem ia_55 : IA K58 55 8 := ⟨fun m h => Nat.lt_of_lt_of_le (by decide) h, rfl, rfl⟩
theorem ob_56 : OB K58 56 0 3 := ⟨fun m h => Nat.lt_of_lt_of_le (by decide) h, rfl, rfl, rfl⟩
theorem ia_57 : IA K58 57 8 := ⟨fun m h => Nat.lt_of_lt_of_le (by decide) h, rfl, rfl⟩
theorem lia_58 {k : Nat} (h : 58 < k) : IA (eqK k) 58 4 := ⟨fun m e => by rw [e]; exact h, rfl, rfl⟩
theorem lia_59 {k : Nat} (h : 59 < k) : IA (eqK k) 59 16 := ⟨fun m e => by rw [e]; exact h, rfl, rfl⟩
theorem lia_60 {k : Nat} (h : 60 < k) : IA (eqK k) 60 27 := ⟨fun m e => by rw [e]; exact h, rfl, rfl⟩
theorem lia_61 {k : Nat} (h : 61 < k) : IA (eqK k) 61 64 := ⟨fun m e => by rw [e]; exact h, rfl, rfl⟩
theorem lia_62 {k : Nat} (h : 62 < k) : IA (eqK k) 62 64 := ⟨fun m e => by rw [e]; exact h, rfl, rfl⟩
theorem lia_63 {k : Nat} (h : 63 < k) : IA (eqK k) 63 64 := ⟨fun m e => by rw [e]; exact h, rfl, rfl⟩
theorem lla_64 {k : Nat} (h : 64 < k) : LA (eqK k) 64 1 := ⟨fun m e => by rw [e]; exact h, rfl, rfl⟩
theorem lia_65 {k : Nat} (h : 65 < k) : IA (eqK k) 65 64 := ⟨fun m e => by rw [e]; exact h, rfl, rfl⟩
theorem lia_66 {k : Nat} (h : 66 < k) : IA (eqK k) 66 64 := ⟨fun m e => by rw [e]; exact h, rfl, rfl⟩
theorem lia_67 {k : Nat} (h : 67 < k) : IA (eqK k) 67 27 := ⟨fun m e => by rw [e]; exact h, rfl, rfl⟩
theorem isW_4 : isW 4 := Or.inl rfl
theorem isW_19 : isW 19 := Or.inr (Or.inl rfl)
theorem isW_34 : isW 34 := Or.inr (Or.inr rfl)
section FW
variable {w : Nat} {σ : St}
theorem obW (h : isW w) : OB K58 w 7 9 := by rcases h with rfl | rfl | rfl <;> exact ⟨fun m h => Nat.lt_of_lt_of_le (by decide) h, rfl, rfl, rfl⟩
theorem iaW1 (h : isW w) : IA K58 (w + 1) 8 := by rcases h with rfl | rfl | rfl <;> exact ⟨fun m h => Nat.lt_of_lt_of_le (by decide) h, rfl, rfl⟩
theorem iaW2 (h : isW w) : IA K58 (w + 2) 8 := by rcases h with rfl | rfl | rfl <;> exact ⟨fun m h => Nat.lt_of_lt_of_le (by decide) h, rfl, rfl⟩
theorem iaW3 (h : isW w) : IA K58 (w + 3) 8 := by rcases h with rfl | rfl | rfl <;> exact ⟨fun m h => Nat.lt_of_lt_of_le (by decide) h, rfl, rfl⟩
theorem iaW4 (h : isW w) : IA K58 (w + 4) 64 := by rcases h with rfl | rfl | rfl <;> exact ⟨fun m h => Nat.lt_of_lt_of_le (by decide) h, rfl, rfl⟩
theorem iaW5 (h : isW w) : IA K58 (w + 5) 64 := by rcases h with rfl | rfl | rfl <;> exact ⟨fun m h => Nat.lt_of_lt_of_le (by decide) h, rfl, rfl⟩
theorem gaW (h : isW w) : GA K58 (w + 6) 8 := by rcases h with rfl | rfl | rfl <;> exact ⟨fun m h => Nat.lt_of_lt_of_le (by decide) h, rfl, rfl⟩
theorem avW0 (h : isW w) : av σ w 0 = .int (σ.1 w 0) := by rcases h with rfl | rfl | rfl <;> rfl
theorem avW6 (h : isW w) : av σ w 6 = .int (σ.1 w 6) := by rcases h with rfl | rfl | rfl <;> rfl
theorem avW8 (h : isW w) : av σ w 8 = .int (σ.1 w 8) := by rcases h with rfl | rfl | rfl <;> rfl
theorem avW1 (h : isW w) : av σ w 1 = .ref (w + 1) := by rcases h with rfl | rfl | rfl <;> rfl
theorem avW2 (h : isW w) : av σ w 2 = .ref (w + 2) := by rcases h with rfl | rfl | rfl <;> rfl
theorem avW3 (h : isW w) : av σ w 3 = .ref (w + 3) := by rcases h with rfl | rfl | rfl <;> rfl
theorem avW4 (h : isW w) : av σ w 4 = .ref (w + 4) := by rcases h with rfl | rfl | rfl <;> rfl
theorem avW5 (h : isW w) : av σ w 5 = .ref (w + 5) := by rcases h with rfl | rfl | rfl <;> rfl
theorem avW7 (h : isW w) : av σ w 7 = .ref (w + 6) := by rcases h with rfl | rfl | rfl <;> rfl
theorem inb_iff {j : Int32} {n : Nat} (hn : n < 2 ^ 31) : inb j n = true ↔ ∃ k : Nat, k < n ∧ j = nI k := by
  constructor
  · intro h
    exact vp_in_of (inb_vp h) hn
  · rintro ⟨k, hk, rfl⟩
    exact decide_eq_true (vp_in_nI hk hn)
theorem rfG (h : isW w) {j : Int32} (hj : inb j 8 = true) : rfv (w + 6) j.toNatClampNeg = w + 7 + j.toNatClampNeg := by
  obtain ⟨k, hk, rfl⟩ := (inb_iff (by decide)).mp hj
  rw [nI_clamp (by omega)]
  rcases h with rfl | rfl | rfl <;> (rcases (show k = 0 ∨ k = 1 ∨ k = 2 ∨ k = 3 ∨ k = 4 ∨ k = 5 ∨ k = 6 ∨ k = 7 by omega) with rfl | rfl | rfl | rfl | rfl | rfl | rfl | rfl <;> rfl)
theorem obGn (h : isW w) {k : Nat} (hk : k < 8) : OB K58 (w + 7 + k) 3 8 := by
  rcases h with rfl | rfl | rfl <;> (rcases (show k = 0 ∨ k = 1 ∨ k = 2 ∨ k = 3 ∨ k = 4 ∨ k = 5 ∨ k = 6 ∨ k = 7 by omega) with rfl | rfl | rfl | rfl | rfl | rfl | rfl | rfl <;> exact ⟨fun m h => Nat.lt_of_lt_of_le (by decide) h, rfl, rfl, rfl⟩)
theorem obG (h : isW w) {j : Int32} (hj : inb j 8 = true) : OB K58 (w + 7 + j.toNatClampNeg) 3 8 := by
  obtain ⟨k, hk, rfl⟩ := (inb_iff (by decide)).mp hj
  rw [nI_clamp (by omega)]
  exact obGn h hk
theorem avG {g : Nat} (h : OB K58 g 3 8) (k : Nat) (hs : sty 3 k = 0) : av σ g k = .int (σ.1 g k) := by
  obtain ⟨-, -, hc, -⟩ := h
  simp [av, hc, hs]
end FW
def MX8_init : MI := (yX8_init, cX8_init, 1, none)
theorem cw_X8_init : Cond.code MX8_init.1 MX8_init.2.1 MX8_init.2.2.1 MX8_init.2.2.2 ∈ aT := aT_in 23 (by decide +kernel) rfl
def MX8_letters : MI := (yX8_letters, cX8_letters, 4, some .int)
theorem cw_X8_letters : Cond.code MX8_letters.1 MX8_letters.2.1 MX8_letters.2.2.1 MX8_letters.2.2.2 ∈ aT := aT_in 482 (by decide +kernel) rfl
def MX8_fault : MI := (yX8_fault, cX8_fault, 1, some .int)
theorem cw_X8_fault : Cond.code MX8_fault.1 MX8_fault.2.1 MX8_fault.2.2.1 MX8_fault.2.2.2 ∈ aT := aT_in 246 (by decide +kernel) rfl
def MX8_law : MI := (yX8_law, cX8_law, 1, some .int)
theorem cw_X8_law : Cond.code MX8_law.1 MX8_law.2.1 MX8_law.2.2.1 MX8_law.2.2.2 ∈ aT := aT_in 260 (by decide +kernel) rfl
def MX8_lawTold : MI := (yX8_lawTold, cX8_lawTold, 2, some .int)
theorem cw_X8_lawTold : Cond.code MX8_lawTold.1 MX8_lawTold.2.1 MX8_lawTold.2.2.1 MX8_lawTold.2.2.2 ∈ aT := aT_in 272 (by decide +kernel) rfl
def MX8_person : MI := (yX8_person, cX8_person, 2, some .int)
theorem cw_X8_person : Cond.code MX8_person.1 MX8_person.2.1 MX8_person.2.2.1 MX8_person.2.2.2 ∈ aT := aT_in 277 (by decide +kernel) rfl
def MX8_know : MI := (yX8_know, cX8_know, 5, some .int)
theorem cw_X8_know : Cond.code MX8_know.1 MX8_know.2.1 MX8_know.2.2.1 MX8_know.2.2.2 ∈ aT := aT_in 285 (by decide +kernel) rfl
def MX8_like : MI := (yX8_like, cX8_like, 5, some .int)
theorem cw_X8_like : Cond.code MX8_like.1 MX8_like.2.1 MX8_like.2.2.1 MX8_like.2.2.2 ∈ aT := aT_in 308 (by decide +kernel) rfl
def MX8_about : MI := (yX8_about, cX8_about, 3, some .int)
theorem cw_X8_about : Cond.code MX8_about.1 MX8_about.2.1 MX8_about.2.2.1 MX8_about.2.2.2 ∈ aT := aT_in 315 (by decide +kernel) rfl
def MX8_owes : MI := (yX8_owes, cX8_owes, 3, some .int)
theorem cw_X8_owes : Cond.code MX8_owes.1 MX8_owes.2.1 MX8_owes.2.2.1 MX8_owes.2.2.2 ∈ aT := aT_in 327 (by decide +kernel) rfl
def MX8_rest : MI := (yX8_rest, cX8_rest, 2, some .int)
theorem cw_X8_rest : Cond.code MX8_rest.1 MX8_rest.2.1 MX8_rest.2.2.1 MX8_rest.2.2.2 ∈ aT := aT_in 331 (by decide +kernel) rfl
def MX8_gift : MI := (yX8_gift, cX8_gift, 3, some .int)
theorem cw_X8_gift : Cond.code MX8_gift.1 MX8_gift.2.1 MX8_gift.2.2.1 MX8_gift.2.2.2 ∈ aT := aT_in 341 (by decide +kernel) rfl
def MX8_told : MI := (yX8_told, cX8_told, 4, some .int)
theorem cw_X8_told : Cond.code MX8_told.1 MX8_told.2.1 MX8_told.2.2.1 MX8_told.2.2.2 ∈ aT := aT_in 353 (by decide +kernel) rfl
def MX8_as : MI := (yX8_as, cX8_as, 3, some .int)
theorem cw_X8_as : Cond.code MX8_as.1 MX8_as.2.1 MX8_as.2.2.1 MX8_as.2.2.2 ∈ aT := aT_in 371 (by decide +kernel) rfl
def MX8_may : MI := (yX8_may, cX8_may, 2, some .int)
theorem cw_X8_may : Cond.code MX8_may.1 MX8_may.2.1 MX8_may.2.2.1 MX8_may.2.2.2 ∈ aT := aT_in 379 (by decide +kernel) rfl
def MX8_give : MI := (yX8_give, cX8_give, 3, some .int)
theorem cw_X8_give : Cond.code MX8_give.1 MX8_give.2.1 MX8_give.2.2.1 MX8_give.2.2.2 ∈ aT := aT_in 392 (by decide +kernel) rfl
def MX8_years : MI := (yX8_years, cX8_years, 4, some .int)
theorem cw_X8_years : Cond.code MX8_years.1 MX8_years.2.1 MX8_years.2.2.1 MX8_years.2.2.2 ∈ aT := aT_in 407 (by decide +kernel) rfl
def MX8_drawn : MI := (yX8_drawn, cX8_drawn, 6, some .int)
theorem cw_X8_drawn : Cond.code MX8_drawn.1 MX8_drawn.2.1 MX8_drawn.2.2.1 MX8_drawn.2.2.2 ∈ aT := aT_in 446 (by decide +kernel) rfl
def MX8_count : MI := (yX8_count, cX8_count, 2, some .int)
theorem cw_X8_count : Cond.code MX8_count.1 MX8_count.2.1 MX8_count.2.2.1 MX8_count.2.2.2 ∈ aT := aT_in 528 (by decide +kernel) rfl
def MX8_isPerson : MI := (yX8_isPerson, cX8_isPerson, 2, some .boolean)
theorem cw_X8_isPerson : Cond.code MX8_isPerson.1 MX8_isPerson.2.1 MX8_isPerson.2.2.1 MX8_isPerson.2.2.2 ∈ aT := aT_in 293 (by decide +kernel) rfl
def MX8_areTwo : MI := (yX8_areTwo, cX8_areTwo, 3, some .boolean)
theorem cw_X8_areTwo : Cond.code MX8_areTwo.1 MX8_areTwo.2.1 MX8_areTwo.2.2.1 MX8_areTwo.2.2.2 ∈ aT := aT_in 289 (by decide +kernel) rfl
def MX8_isGift : MI := (yX8_isGift, cX8_isGift, 2, some .boolean)
theorem cw_X8_isGift : Cond.code MX8_isGift.1 MX8_isGift.2.1 MX8_isGift.2.2.1 MX8_isGift.2.2.2 ∈ aT := aT_in 357 (by decide +kernel) rfl
def MX8_whoMayHave : MI := (yX8_whoMayHave, cX8_whoMayHave, 3, some .int)
theorem cw_X8_whoMayHave : Cond.code MX8_whoMayHave.1 MX8_whoMayHave.2.1 MX8_whoMayHave.2.2.1 MX8_whoMayHave.2.2.2 ∈ aT := aT_in 384 (by decide +kernel) rfl
def MX8_within : MI := (yX8_within, cX8_within, 3, some .boolean)
theorem cw_X8_within : Cond.code MX8_within.1 MX8_within.2.1 MX8_within.2.2.1 MX8_within.2.2.2 ∈ aT := aT_in 256 (by decide +kernel) rfl
def MX8_pair : MI := (yX8_pair, cX8_pair, 2, some .int)
theorem cw_X8_pair : Cond.code MX8_pair.1 MX8_pair.2.1 MX8_pair.2.2.1 MX8_pair.2.2.2 ∈ aT := aT_in 311 (by decide +kernel) rfl
def MX8_bit : MI := (yX8_bit, cX8_bit, 1, some .int)
theorem cw_X8_bit : Cond.code MX8_bit.1 MX8_bit.2.1 MX8_bit.2.2.1 MX8_bit.2.2.2 ∈ aT := aT_in 300 (by decide +kernel) rfl
def MX0_init : MI := (yX0_init, cX0_init, 1, none)
theorem cw_X0_init : Cond.code MX0_init.1 MX0_init.2.1 MX0_init.2.2.1 MX0_init.2.2.2 ∈ aT := aT_in 200 (by decide +kernel) rfl
def MX1_init : MI := (yX1_init, cX1_init, 1, none)
theorem cw_X1_init : Cond.code MX1_init.1 MX1_init.2.1 MX1_init.2.2.1 MX1_init.2.2.2 ∈ aT := aT_in 187 (by decide +kernel) rfl
def MX2_init : MI := (yX2_init, cX2_init, 1, none)
theorem cw_X2_init : Cond.code MX2_init.1 MX2_init.2.1 MX2_init.2.2.1 MX2_init.2.2.2 ∈ aT := aT_in 162 (by decide +kernel) rfl
def MX2_oneOf : MI := (yX2_oneOf, cX2_oneOf, 5, some .int)
theorem cw_X2_oneOf : Cond.code MX2_oneOf.1 MX2_oneOf.2.1 MX2_oneOf.2.2.1 MX2_oneOf.2.2.2 ∈ aT := aT_in 430 (by decide +kernel) rfl
def MX3_init : MI := (yX3_init, cX3_init, 1, none)
theorem cw_X3_init : Cond.code MX3_init.1 MX3_init.2.1 MX3_init.2.2.1 MX3_init.2.2.2 ∈ aT := aT_in 82 (by decide +kernel) rfl
def MX3_begin : MI := (yX3_begin, cX3_begin, 3, none)
theorem cw_X3_begin : Cond.code MX3_begin.1 MX3_begin.2.1 MX3_begin.2.2.1 MX3_begin.2.2.2 ∈ aT := aT_in 349 (by decide +kernel) rfl
def MX3_copyFrom : MI := (yX3_copyFrom, cX3_copyFrom, 2, none)
theorem cw_X3_copyFrom : Cond.code MX3_copyFrom.1 MX3_copyFrom.2.1 MX3_copyFrom.2.2.1 MX3_copyFrom.2.2.2 ∈ aT := aT_in 457 (by decide +kernel) rfl
def MX3_lives : MI := (yX3_lives, cX3_lives, 1, some .boolean)
theorem cw_X3_lives : Cond.code MX3_lives.1 MX3_lives.2.1 MX3_lives.2.2.1 MX3_lives.2.2.2 ∈ aT := aT_in 323 (by decide +kernel) rfl
def MX3_isOf : MI := (yX3_isOf, cX3_isOf, 2, some .boolean)
theorem cw_X3_isOf : Cond.code MX3_isOf.1 MX3_isOf.2.1 MX3_isOf.2.2.1 MX3_isOf.2.2.2 ∈ aT := aT_in 375 (by decide +kernel) rfl
def MX3_worth : MI := (yX3_worth, cX3_worth, 2, some .int)
theorem cw_X3_worth : Cond.code MX3_worth.1 MX3_worth.2.1 MX3_worth.2.2.1 MX3_worth.2.2.2 ∈ aT := aT_in 361 (by decide +kernel) rfl
def MX3_mustGo : MI := (yX3_mustGo, cX3_mustGo, 2, some .boolean)
theorem cw_X3_mustGo : Cond.code MX3_mustGo.1 MX3_mustGo.2.1 MX3_mustGo.2.2.1 MX3_mustGo.2.2.2 ∈ aT := aT_in 415 (by decide +kernel) rfl
def MX3_moveTo : MI := (yX3_moveTo, cX3_moveTo, 3, none)
theorem cw_X3_moveTo : Cond.code MX3_moveTo.1 MX3_moveTo.2.1 MX3_moveTo.2.2.1 MX3_moveTo.2.2.2 ∈ aT := aT_in 402 (by decide +kernel) rfl
def MX4_init : MI := (yX4_init, cX4_init, 1, none)
theorem cw_X4_init : Cond.code MX4_init.1 MX4_init.2.1 MX4_init.2.2.1 MX4_init.2.2.2 ∈ aT := aT_in 48 (by decide +kernel) rfl
def MX4_readFrom : MI := (yX4_readFrom, cX4_readFrom, 5, none)
theorem cw_X4_readFrom : Cond.code MX4_readFrom.1 MX4_readFrom.2.1 MX4_readFrom.2.2.1 MX4_readFrom.2.2.2 ∈ aT := aT_in 268 (by decide +kernel) rfl
def MX5_init : MI := (yX5_init, cX5_init, 1, none)
theorem cw_X5_init : Cond.code MX5_init.1 MX5_init.2.1 MX5_init.2.2.1 MX5_init.2.2.2 ∈ aT := aT_in 31 (by decide +kernel) rfl
def MX5_lettersIn : MI := (yX5_lettersIn, cX5_lettersIn, 6, some .int)
theorem cw_X5_lettersIn : Cond.code MX5_lettersIn.1 MX5_lettersIn.2.1 MX5_lettersIn.2.2.1 MX5_lettersIn.2.2.2 ∈ aT := aT_in 485 (by decide +kernel) rfl
def MX5_byteOf : MI := (yX5_byteOf, cX5_byteOf, 3, some .int)
theorem cw_X5_byteOf : Cond.code MX5_byteOf.1 MX5_byteOf.2.1 MX5_byteOf.2.2.1 MX5_byteOf.2.2.2 ∈ aT := aT_in 488 (by decide +kernel) rfl
def MX5_append : MI := (yX5_append, cX5_append, 5, none)
theorem cw_X5_append : Cond.code MX5_append.1 MX5_append.2.1 MX5_append.2.2.1 MX5_append.2.2.2 ∈ aT := aT_in 493 (by decide +kernel) rfl
def MX5_firstFault : MI := (yX5_firstFault, cX5_firstFault, 3, some .int)
theorem cw_X5_firstFault : Cond.code MX5_firstFault.1 MX5_firstFault.2.1 MX5_firstFault.2.2.1 MX5_firstFault.2.2.2 ∈ aT := aT_in 250 (by decide +kernel) rfl
def MX5_isLaw : MI := (yX5_isLaw, cX5_isLaw, 3, some .boolean)
theorem cw_X5_isLaw : Cond.code MX5_isLaw.1 MX5_isLaw.2.1 MX5_isLaw.2.2.1 MX5_isLaw.2.2.2 ∈ aT := aT_in 264 (by decide +kernel) rfl
def MX5_behind : MI := (yX5_behind, cX5_behind, 2, some .int)
theorem cw_X5_behind : Cond.code MX5_behind.1 MX5_behind.2.1 MX5_behind.2.2.1 MX5_behind.2.2.2 ∈ aT := aT_in 253 (by decide +kernel) rfl
def MX6_init : MI := (yX6_init, cX6_init, 1, none)
theorem cw_X6_init : Cond.code MX6_init.1 MX6_init.2.1 MX6_init.2.2.1 MX6_init.2.2.2 ∈ aT := aT_in 173 (by decide +kernel) rfl
def MX7_init : MI := (yX7_init, cX7_init, 2, none)
theorem cw_X7_init : Cond.code MX7_init.1 MX7_init.2.1 MX7_init.2.2.1 MX7_init.2.2.2 ∈ aT := aT_in 75 (by decide +kernel) rfl
def MX7_copyFrom : MI := (yX7_copyFrom, cX7_copyFrom, 3, none)
theorem cw_X7_copyFrom : Cond.code MX7_copyFrom.1 MX7_copyFrom.2.1 MX7_copyFrom.2.2.1 MX7_copyFrom.2.2.2 ∈ aT := aT_in 450 (by decide +kernel) rfl
def MX7_addPerson : MI := (yX7_addPerson, cX7_addPerson, 2, some .int)
theorem cw_X7_addPerson : Cond.code MX7_addPerson.1 MX7_addPerson.2.1 MX7_addPerson.2.2.1 MX7_addPerson.2.2.2 ∈ aT := aT_in 281 (by decide +kernel) rfl
def MX7_addGift : MI := (yX7_addGift, cX7_addGift, 3, some .int)
theorem cw_X7_addGift : Cond.code MX7_addGift.1 MX7_addGift.2.1 MX7_addGift.2.2.1 MX7_addGift.2.2.2 ∈ aT := aT_in 345 (by decide +kernel) rfl
def MX7_knows : MI := (yX7_knows, cX7_knows, 3, some .boolean)
theorem cw_X7_knows : Cond.code MX7_knows.1 MX7_knows.2.1 MX7_knows.2.2.1 MX7_knows.2.2.2 ∈ aT := aT_in 297 (by decide +kernel) rfl
def MX7_setKnown : MI := (yX7_setKnown, cX7_setKnown, 4, none)
theorem cw_X7_setKnown : Cond.code MX7_setKnown.1 MX7_setKnown.2.1 MX7_setKnown.2.2.1 MX7_setKnown.2.2.2 ∈ aT := aT_in 304 (by decide +kernel) rfl
def MX7_heldBy : MI := (yX7_heldBy, cX7_heldBy, 4, some .int)
theorem cw_X7_heldBy : Cond.code MX7_heldBy.1 MX7_heldBy.2.1 MX7_heldBy.2.2.1 MX7_heldBy.2.2.2 ∈ aT := aT_in 319 (by decide +kernel) rfl
def MX7_living : MI := (yX7_living, cX7_living, 3, some .int)
theorem cw_X7_living : Cond.code MX7_living.1 MX7_living.2.1 MX7_living.2.2.1 MX7_living.2.2.2 ∈ aT := aT_in 461 (by decide +kernel) rfl
def MX7_allFeasts : MI := (yX7_allFeasts, cX7_allFeasts, 3, some .int)
theorem cw_X7_allFeasts : Cond.code MX7_allFeasts.1 MX7_allFeasts.2.1 MX7_allFeasts.2.2.1 MX7_allFeasts.2.2.2 ∈ aT := aT_in 465 (by decide +kernel) rfl
def MX7_balance : MI := (yX7_balance, cX7_balance, 4, some .int)
theorem cw_X7_balance : Cond.code MX7_balance.1 MX7_balance.2.1 MX7_balance.2.2.1 MX7_balance.2.2.2 ∈ aT := aT_in 336 (by decide +kernel) rfl
def MX7_mayHave : MI := (yX7_mayHave, cX7_mayHave, 5, some .int)
theorem cw_X7_mayHave : Cond.code MX7_mayHave.1 MX7_mayHave.2.1 MX7_mayHave.2.2.1 MX7_mayHave.2.2.2 ∈ aT := aT_in 388 (by decide +kernel) rfl
def MX7_handOn : MI := (yX7_handOn, cX7_handOn, 4, none)
theorem cw_X7_handOn : Cond.code MX7_handOn.1 MX7_handOn.2.1 MX7_handOn.2.2.1 MX7_handOn.2.2.2 ∈ aT := aT_in 397 (by decide +kernel) rfl
def MX7_passYear : MI := (yX7_passYear, cX7_passYear, 9, some .int)
theorem cw_X7_passYear : Cond.code MX7_passYear.1 MX7_passYear.2.1 MX7_passYear.2.2.1 MX7_passYear.2.2.2 ∈ aT := aT_in 411 (by decide +kernel) rfl
def MX7_chosenBy : MI := (yX7_chosenBy, cX7_chosenBy, 7, some .int)
theorem cw_X7_chosenBy : Cond.code MX7_chosenBy.1 MX7_chosenBy.2.1 MX7_chosenBy.2.2.1 MX7_chosenBy.2.2.2 ∈ aT := aT_in 421 (by decide +kernel) rfl
def MX7_markOf : MI := (yX7_markOf, cX7_markOf, 3, some .int)
theorem cw_X7_markOf : Cond.code MX7_markOf.1 MX7_markOf.2.1 MX7_markOf.2.2.1 MX7_markOf.2.2.2 ∈ aT := aT_in 425 (by decide +kernel) rfl
def ML_cell : MI := (yL_cell, cL_cell, 2, some .int)
theorem cw_L_cell : Cond.code ML_cell.1 ML_cell.2.1 ML_cell.2.2.1 ML_cell.2.2.2 ∈ aT := aT_in 468 (by decide +kernel) rfl
def ML_at : MI := (yL_at, cL_at, 2, some .int)
theorem cw_L_at : Cond.code ML_at.1 ML_at.2.1 ML_at.2.2.1 ML_at.2.2.2 ∈ aT := aT_in 472 (by decide +kernel) rfl
def ML_lawText : MI := (yL_lawText, cL_lawText, 4, some .int)
theorem cw_L_lawText : Cond.code ML_lawText.1 ML_lawText.2.1 ML_lawText.2.2.1 ML_lawText.2.2.2 ∈ aT := aT_in 475 (by decide +kernel) rfl
def ML_write : MI := (yL_write, cL_write, 4, some .boolean)
theorem cw_L_write : Cond.code ML_write.1 ML_write.2.1 ML_write.2.2.1 ML_write.2.2.2 ∈ aT := aT_in 478 (by decide +kernel) rfl
def ML_people : MI := (yL_people, cL_people, 12, some .boolean)
theorem cw_L_people : Cond.code ML_people.1 ML_people.2.1 ML_people.2.2.1 ML_people.2.2.2 ∈ aT := aT_in 496 (by decide +kernel) rfl
def ML_gifts : MI := (yL_gifts, cL_gifts, 8, some .boolean)
theorem cw_L_gifts : Cond.code ML_gifts.1 ML_gifts.2.1 ML_gifts.2.2.1 ML_gifts.2.2.2 ∈ aT := aT_in 499 (by decide +kernel) rfl
def ML_may : MI := (yL_may, cL_may, 5, some .int)
theorem cw_L_may : Cond.code ML_may.1 ML_may.2.1 ML_may.2.2.1 ML_may.2.2.2 ∈ aT := aT_in 502 (by decide +kernel) rfl
def ML_worth : MI := (yL_worth, cL_worth, 3, some .int)
theorem cw_L_worth : Cond.code ML_worth.1 ML_worth.2.1 ML_worth.2.2.1 ML_worth.2.2.2 ∈ aT := aT_in 508 (by decide +kernel) rfl
def ML_give : MI := (yL_give, cL_give, 8, some .int)
theorem cw_L_give : Cond.code ML_give.1 ML_give.2.1 ML_give.2.2.1 ML_give.2.2.2 ∈ aT := aT_in 505 (by decide +kernel) rfl
def ML_holds : MI := (yL_holds, cL_holds, 5, some .int)
theorem cw_L_holds : Cond.code ML_holds.1 ML_holds.2.1 ML_holds.2.2.1 ML_holds.2.2.2 ∈ aT := aT_in 517 (by decide +kernel) rfl
def ML_habit : MI := (yL_habit, cL_habit, 8, some .int)
theorem cw_L_habit : Cond.code ML_habit.1 ML_habit.2.1 ML_habit.2.2.1 ML_habit.2.2.2 ∈ aT := aT_in 514 (by decide +kernel) rfl
def ML_year : MI := (yL_year, cL_year, 16, some .int)
theorem cw_L_year : Cond.code ML_year.1 ML_year.2.1 ML_year.2.2.1 ML_year.2.2.2 ∈ aT := aT_in 511 (by decide +kernel) rfl
def ML_stands : MI := (yL_stands, cL_stands, 9, some .boolean)
theorem cw_L_stands : Cond.code ML_stands.1 ML_stands.2.1 ML_stands.2.2.1 ML_stands.2.2.2 ∈ aT := aT_in 524 (by decide +kernel) rfl
def ML_law : MI := (yL_law, cL_law, 25, some .boolean)
def MJ6_bitCount_0f7a4 : MI := (yJ6_bitCount_0f7a4, cJ6_bitCount_0f7a4, 1, some .int)
theorem cw_J6_bitCount_0f7a4 : Cond.code MJ6_bitCount_0f7a4.1 MJ6_bitCount_0f7a4.2.1 MJ6_bitCount_0f7a4.2.2.1 MJ6_bitCount_0f7a4.2.2.2 ∈ aT := aT_in 433 (by decide +kernel) rfl
def MJ9_max_7cf53 : MI := (yJ9_max_7cf53, cJ9_max_7cf53, 2, some .int)
theorem cw_J9_max_7cf53 : Cond.code MJ9_max_7cf53.1 MJ9_max_7cf53.2.1 MJ9_max_7cf53.2.2.1 MJ9_max_7cf53.2.2.2 ∈ aT := aT_in 364 (by decide +kernel) rfl
def MJ9_min_7cf53 : MI := (yJ9_min_7cf53, cJ9_min_7cf53, 2, some .int)
theorem cw_J9_min_7cf53 : Cond.code MJ9_min_7cf53.1 MJ9_min_7cf53.2.1 MJ9_min_7cf53.2.2.1 MJ9_min_7cf53.2.2.2 ∈ aT := aT_in 367 (by decide +kernel) rfl
set_option maxRecDepth 20000 in
theorem lays_X0 : ∀ w ∈ u_ws RX0 TX0 3, w ∈ aT := aT_r _ [203, 205, 207] (by decide +kernel) (by decide +kernel)
set_option maxRecDepth 20000 in
theorem lays_X1 : ∀ w ∈ u_ws RX1 TX1 2, w ∈ aT := aT_r _ [191, 193] (by decide +kernel) (by decide +kernel)
set_option maxRecDepth 20000 in
theorem lays_X2 : ∀ w ∈ u_ws RX2 TX2 1, w ∈ aT := aT_r _ [166] (by decide +kernel) (by decide +kernel)
set_option maxRecDepth 20000 in
theorem lays_X3 : ∀ w ∈ u_ws RX3 TX3 8, w ∈ aT := aT_r _ [104, 106, 108, 110, 112, 114, 116, 118] (by decide +kernel) (by decide +kernel)
set_option maxRecDepth 20000 in
theorem lays_X4 : ∀ w ∈ u_ws RX4 TX4 4, w ∈ aT := aT_r _ [62, 64, 66, 68] (by decide +kernel) (by decide +kernel)
set_option maxRecDepth 20000 in
theorem lays_X5 : ∀ w ∈ u_ws RX5 TX5 2, w ∈ aT := aT_r _ [38, 40] (by decide +kernel) (by decide +kernel)
set_option maxRecDepth 20000 in
theorem lays_X6 : ∀ w ∈ u_ws RX6 TX6 2, w ∈ aT := aT_r _ [177, 179] (by decide +kernel) (by decide +kernel)
set_option maxRecDepth 20000 in
theorem lays_X7 : ∀ w ∈ u_ws RX7 TX7 9, w ∈ aT := aT_r _ [139, 141, 143, 145, 147, 149, 151, 153, 155] (by decide +kernel) (by decide +kernel)
set_option maxRecDepth 20000 in
theorem lays_X8 : ∀ w ∈ u_ws RX8 TX8 11, w ∈ aT := aT_r _ [220, 222, 224, 226, 228, 230, 232, 234, 236, 238, 240] (by decide +kernel) (by decide +kernel)
set_option maxRecDepth 20000 in
theorem lays_X9 : ∀ w ∈ u_ws RX9 TX9 0, w ∈ aT := aT_r _ [] (by decide +kernel) (by decide +kernel)
theorem fl_X8_12 : FL RX8 12 8 0 := ⟨RX8, TX8, 11, rfl, by decide, rfl, aT_in 210 (by decide +kernel) rfl, lays_X8⟩
theorem fl_X8_19 : FL RX8 19 8 1 := ⟨RX8, TX8, 11, rfl, by decide, rfl, aT_in 211 (by decide +kernel) rfl, lays_X8⟩
theorem fl_X8_26 : FL RX8 26 8 2 := ⟨RX8, TX8, 11, rfl, by decide, rfl, aT_in 212 (by decide +kernel) rfl, lays_X8⟩
theorem fl_X8_30 : FL RX8 30 8 3 := ⟨RX8, TX8, 11, rfl, by decide, rfl, aT_in 213 (by decide +kernel) rfl, lays_X8⟩
theorem fl_X8_33 : FL RX8 33 8 4 := ⟨RX8, TX8, 11, rfl, by decide, rfl, aT_in 214 (by decide +kernel) rfl, lays_X8⟩
theorem fl_X8_39 : FL RX8 39 8 5 := ⟨RX8, TX8, 11, rfl, by decide, rfl, aT_in 215 (by decide +kernel) rfl, lays_X8⟩
theorem fl_X8_46 : FL RX8 46 8 6 := ⟨RX8, TX8, 11, rfl, by decide, rfl, aT_in 216 (by decide +kernel) rfl, lays_X8⟩
theorem fl_X8_53 : FL RX8 53 8 7 := ⟨RX8, TX8, 11, rfl, by decide, rfl, aT_in 217 (by decide +kernel) rfl, lays_X8⟩
theorem fl_X8_60 : FL RX8 60 8 8 := ⟨RX8, TX8, 11, rfl, by decide, rfl, aT_in 218 (by decide +kernel) rfl, lays_X8⟩
theorem sl_X8_64 : SL RX8 64 MX5_lettersIn 1 := ⟨Or.inl (aT_in 483 (by decide +kernel) rfl), aT_in 484 (by decide +kernel) rfl, aT_in 8 (by decide +kernel) rfl, cw_X5_lettersIn, ⟨by decide +kernel, by decide +kernel, by decide +kernel⟩, by decide⟩
theorem fl_X8_68 : FL RX8 68 5 1 := ⟨RX5, TX5, 2, rfl, by decide, rfl, aT_in 35 (by decide +kernel) rfl, lays_X5⟩
theorem vl_X8_72 : VL RX8 72 5 MX5_append 2 := ⟨⟨TX5, 2, rfl⟩, Or.inl (aT_in 490 (by decide +kernel) rfl), aT_in 491 (by decide +kernel) rfl, aT_in 492 (by decide +kernel) rfl, aT_in 8 (by decide +kernel) rfl, cw_X5_append, ⟨by decide +kernel, by decide +kernel, by decide +kernel⟩, by decide⟩
theorem vl_X8_76 : VL RX8 76 5 MX5_firstFault 0 := ⟨⟨TX5, 2, rfl⟩, Or.inl (aT_in 247 (by decide +kernel) rfl), aT_in 248 (by decide +kernel) rfl, aT_in 249 (by decide +kernel) rfl, aT_in 8 (by decide +kernel) rfl, cw_X5_firstFault, ⟨by decide +kernel, by decide +kernel, by decide +kernel⟩, by decide⟩
theorem vl_X8_80 : VL RX8 80 5 MX5_isLaw 0 := ⟨⟨TX5, 2, rfl⟩, Or.inl (aT_in 261 (by decide +kernel) rfl), aT_in 262 (by decide +kernel) rfl, aT_in 263 (by decide +kernel) rfl, aT_in 8 (by decide +kernel) rfl, cw_X5_isLaw, ⟨by decide +kernel, by decide +kernel, by decide +kernel⟩, by decide⟩
theorem vl_X8_84 : VL RX8 84 4 MX4_readFrom 1 := ⟨⟨TX4, 4, rfl⟩, Or.inl (aT_in 265 (by decide +kernel) rfl), aT_in 266 (by decide +kernel) rfl, aT_in 267 (by decide +kernel) rfl, aT_in 9 (by decide +kernel) rfl, cw_X4_readFrom, ⟨by decide +kernel, by decide +kernel, by decide +kernel⟩, by decide⟩
theorem fp_X8_68 : FP RX8 68 5 1 := ⟨RX5, TX5, 2, tyX5, rfl, by decide, rfl, aT_in 35 (by decide +kernel) rfl, lays_X5, tyX5_ok, nmX5, rfl, tyX5_ok 1 (by decide)⟩
theorem fl_X8_88 : FL RX8 88 8 9 := ⟨RX8, TX8, 11, rfl, by decide, rfl, aT_in 219 (by decide +kernel) rfl, lays_X8⟩
theorem fp_X8_88 : FP RX8 88 8 9 := ⟨RX8, TX8, 11, tyX8, rfl, by decide, rfl, aT_in 219 (by decide +kernel) rfl, lays_X8, tyX8_ok, nmX8, rfl, tyX8_ok 9 (by decide)⟩
theorem sl_X8_91 : SL RX8 91 MX8_within 3 := ⟨Or.inl (aT_in 273 (by decide +kernel) rfl), aT_in 255 (by decide +kernel) rfl, aT_in 7 (by decide +kernel) rfl, cw_X8_within, ⟨by decide +kernel, by decide +kernel, by decide +kernel⟩, by decide⟩
theorem fl_X8_95 : FL RX8 95 4 0 := ⟨RX4, TX4, 4, rfl, by decide, rfl, aT_in 51 (by decide +kernel) rfl, lays_X4⟩
theorem fl_X8_98 : FL RX8 98 4 1 := ⟨RX4, TX4, 4, rfl, by decide, rfl, aT_in 54 (by decide +kernel) rfl, lays_X4⟩
theorem fl_X8_102 : FL RX8 102 4 2 := ⟨RX4, TX4, 4, rfl, by decide, rfl, aT_in 57 (by decide +kernel) rfl, lays_X4⟩
theorem fl_X8_105 : FL RX8 105 4 3 := ⟨RX4, TX4, 4, rfl, by decide, rfl, aT_in 60 (by decide +kernel) rfl, lays_X4⟩
theorem fl_X8_108 : FL RX8 108 7 0 := ⟨RX7, TX7, 9, rfl, by decide, rfl, aT_in 122 (by decide +kernel) rfl, lays_X7⟩
theorem vl_X8_111 : VL RX8 111 7 MX7_addPerson 1 := ⟨⟨TX7, 9, rfl⟩, Or.inl (aT_in 278 (by decide +kernel) rfl), aT_in 279 (by decide +kernel) rfl, aT_in 280 (by decide +kernel) rfl, aT_in 10 (by decide +kernel) rfl, cw_X7_addPerson, ⟨by decide +kernel, by decide +kernel, by decide +kernel⟩, by decide⟩
theorem vl_X8_115 : VL RX8 115 8 MX8_areTwo 2 := ⟨⟨TX8, 11, rfl⟩, Or.inl (aT_in 286 (by decide +kernel) rfl), aT_in 288 (by decide +kernel) rfl, aT_in 0 (by decide +kernel) rfl, aT_in 7 (by decide +kernel) rfl, cw_X8_areTwo, ⟨by decide +kernel, by decide +kernel, by decide +kernel⟩, by decide⟩
theorem vl_X8_119 : VL RX8 119 7 MX7_knows 2 := ⟨⟨TX7, 9, rfl⟩, Or.inl (aT_in 294 (by decide +kernel) rfl), aT_in 295 (by decide +kernel) rfl, aT_in 296 (by decide +kernel) rfl, aT_in 10 (by decide +kernel) rfl, cw_X7_knows, ⟨by decide +kernel, by decide +kernel, by decide +kernel⟩, by decide⟩
theorem vl_X8_122 : VL RX8 122 7 MX7_setKnown 3 := ⟨⟨TX7, 9, rfl⟩, Or.inl (aT_in 301 (by decide +kernel) rfl), aT_in 302 (by decide +kernel) rfl, aT_in 303 (by decide +kernel) rfl, aT_in 10 (by decide +kernel) rfl, cw_X7_setKnown, ⟨by decide +kernel, by decide +kernel, by decide +kernel⟩, by decide⟩
theorem fl_X8_126 : FL RX8 126 7 4 := ⟨RX7, TX7, 9, rfl, by decide, rfl, aT_in 130 (by decide +kernel) rfl, lays_X7⟩
theorem sl_X8_130 : SL RX8 130 MX8_pair 2 := ⟨Or.inl (aT_in 309 (by decide +kernel) rfl), aT_in 310 (by decide +kernel) rfl, aT_in 7 (by decide +kernel) rfl, cw_X8_pair, ⟨by decide +kernel, by decide +kernel, by decide +kernel⟩, by decide⟩
theorem vl_X8_134 : VL RX8 134 8 MX8_isPerson 1 := ⟨⟨TX8, 11, rfl⟩, Or.inl (aT_in 290 (by decide +kernel) rfl), aT_in 292 (by decide +kernel) rfl, aT_in 1 (by decide +kernel) rfl, aT_in 7 (by decide +kernel) rfl, cw_X8_isPerson, ⟨by decide +kernel, by decide +kernel, by decide +kernel⟩, by decide⟩
theorem fl_X8_138 : FL RX8 138 7 1 := ⟨RX7, TX7, 9, rfl, by decide, rfl, aT_in 124 (by decide +kernel) rfl, lays_X7⟩
theorem vl_X8_141 : VL RX8 141 7 MX7_heldBy 1 := ⟨⟨TX7, 9, rfl⟩, Or.inl (aT_in 316 (by decide +kernel) rfl), aT_in 317 (by decide +kernel) rfl, aT_in 318 (by decide +kernel) rfl, aT_in 10 (by decide +kernel) rfl, cw_X7_heldBy, ⟨by decide +kernel, by decide +kernel, by decide +kernel⟩, by decide⟩
theorem fl_X8_144 : FL RX8 144 7 2 := ⟨RX7, TX7, 9, rfl, by decide, rfl, aT_in 126 (by decide +kernel) rfl, lays_X7⟩
theorem fl_X8_147 : FL RX8 147 7 3 := ⟨RX7, TX7, 9, rfl, by decide, rfl, aT_in 128 (by decide +kernel) rfl, lays_X7⟩
theorem fl_X8_150 : FL RX8 150 7 5 := ⟨RX7, TX7, 9, rfl, by decide, rfl, aT_in 132 (by decide +kernel) rfl, lays_X7⟩
theorem kc_X8_153 : Cond.constant RX8 153 (-100001) ∈ aT := aT_in 332 (by decide +kernel) rfl
theorem vl_X8_154 : VL RX8 154 7 MX7_balance 1 := ⟨⟨TX7, 9, rfl⟩, Or.inl (aT_in 333 (by decide +kernel) rfl), aT_in 334 (by decide +kernel) rfl, aT_in 335 (by decide +kernel) rfl, aT_in 10 (by decide +kernel) rfl, cw_X7_balance, ⟨by decide +kernel, by decide +kernel, by decide +kernel⟩, by decide⟩
theorem fl_X8_157 : FL RX8 157 7 6 := ⟨RX7, TX7, 9, rfl, by decide, rfl, aT_in 134 (by decide +kernel) rfl, lays_X7⟩
theorem vl_X8_160 : VL RX8 160 7 MX7_addGift 2 := ⟨⟨TX7, 9, rfl⟩, Or.inl (aT_in 342 (by decide +kernel) rfl), aT_in 343 (by decide +kernel) rfl, aT_in 344 (by decide +kernel) rfl, aT_in 10 (by decide +kernel) rfl, cw_X7_addGift, ⟨by decide +kernel, by decide +kernel, by decide +kernel⟩, by decide⟩
theorem vl_X8_163 : VL RX8 163 8 MX8_isGift 1 := ⟨⟨TX8, 11, rfl⟩, Or.inl (aT_in 354 (by decide +kernel) rfl), aT_in 356 (by decide +kernel) rfl, aT_in 2 (by decide +kernel) rfl, aT_in 7 (by decide +kernel) rfl, cw_X8_isGift, ⟨by decide +kernel, by decide +kernel, by decide +kernel⟩, by decide⟩
theorem fl_X8_166 : FL RX8 166 7 7 := ⟨RX7, TX7, 9, rfl, by decide, rfl, aT_in 136 (by decide +kernel) rfl, lays_X7⟩
theorem fl_X8_170 : FL RX8 170 3 0 := ⟨RX3, TX3, 8, rfl, by decide, rfl, aT_in 85 (by decide +kernel) rfl, lays_X3⟩
theorem fl_X8_175 : FL RX8 175 3 1 := ⟨RX3, TX3, 8, rfl, by decide, rfl, aT_in 87 (by decide +kernel) rfl, lays_X3⟩
theorem fl_X8_178 : FL RX8 178 3 2 := ⟨RX3, TX3, 8, rfl, by decide, rfl, aT_in 90 (by decide +kernel) rfl, lays_X3⟩
theorem fl_X8_181 : FL RX8 181 3 3 := ⟨RX3, TX3, 8, rfl, by decide, rfl, aT_in 93 (by decide +kernel) rfl, lays_X3⟩
theorem fl_X8_184 : FL RX8 184 3 4 := ⟨RX3, TX3, 8, rfl, by decide, rfl, aT_in 95 (by decide +kernel) rfl, lays_X3⟩
theorem fl_X8_187 : FL RX8 187 3 5 := ⟨RX3, TX3, 8, rfl, by decide, rfl, aT_in 98 (by decide +kernel) rfl, lays_X3⟩
theorem vl_X8_190 : VL RX8 190 3 MX3_worth 0 := ⟨⟨TX3, 8, rfl⟩, Or.inl (aT_in 358 (by decide +kernel) rfl), aT_in 359 (by decide +kernel) rfl, aT_in 360 (by decide +kernel) rfl, aT_in 11 (by decide +kernel) rfl, cw_X3_worth, ⟨by decide +kernel, by decide +kernel, by decide +kernel⟩, by decide⟩
theorem fl_X8_193 : FL RX8 193 3 6 := ⟨RX3, TX3, 8, rfl, by decide, rfl, aT_in 101 (by decide +kernel) rfl, lays_X3⟩
theorem fl_X8_196 : FL RX8 196 3 7 := ⟨RX3, TX3, 8, rfl, by decide, rfl, aT_in 103 (by decide +kernel) rfl, lays_X3⟩
theorem vl_X8_199 : VL RX8 199 3 MX3_isOf 1 := ⟨⟨TX3, 8, rfl⟩, Or.inl (aT_in 372 (by decide +kernel) rfl), aT_in 373 (by decide +kernel) rfl, aT_in 374 (by decide +kernel) rfl, aT_in 11 (by decide +kernel) rfl, cw_X3_isOf, ⟨by decide +kernel, by decide +kernel, by decide +kernel⟩, by decide⟩
theorem vl_X8_202 : VL RX8 202 3 MX3_lives 0 := ⟨⟨TX3, 8, rfl⟩, Or.inl (aT_in 380 (by decide +kernel) rfl), aT_in 321 (by decide +kernel) rfl, aT_in 322 (by decide +kernel) rfl, aT_in 11 (by decide +kernel) rfl, cw_X3_lives, ⟨by decide +kernel, by decide +kernel, by decide +kernel⟩, by decide⟩
theorem vl_X8_205 : VL RX8 205 8 MX8_whoMayHave 1 := ⟨⟨TX8, 11, rfl⟩, Or.inl (aT_in 381 (by decide +kernel) rfl), aT_in 383 (by decide +kernel) rfl, aT_in 3 (by decide +kernel) rfl, aT_in 7 (by decide +kernel) rfl, cw_X8_whoMayHave, ⟨by decide +kernel, by decide +kernel, by decide +kernel⟩, by decide⟩
theorem sl_X8_208 : SL RX8 208 MX8_bit 1 := ⟨Or.inl (aT_in 393 (by decide +kernel) rfl), aT_in 299 (by decide +kernel) rfl, aT_in 7 (by decide +kernel) rfl, cw_X8_bit, ⟨by decide +kernel, by decide +kernel, by decide +kernel⟩, by decide⟩
theorem vl_X8_211 : VL RX8 211 7 MX7_handOn 3 := ⟨⟨TX7, 9, rfl⟩, Or.inl (aT_in 394 (by decide +kernel) rfl), aT_in 395 (by decide +kernel) rfl, aT_in 396 (by decide +kernel) rfl, aT_in 10 (by decide +kernel) rfl, cw_X7_handOn, ⟨by decide +kernel, by decide +kernel, by decide +kernel⟩, by decide⟩
theorem vl_X8_215 : VL RX8 215 7 MX7_passYear 2 := ⟨⟨TX7, 9, rfl⟩, Or.inl (aT_in 408 (by decide +kernel) rfl), aT_in 409 (by decide +kernel) rfl, aT_in 410 (by decide +kernel) rfl, aT_in 10 (by decide +kernel) rfl, cw_X7_passYear, ⟨by decide +kernel, by decide +kernel, by decide +kernel⟩, by decide⟩
theorem vl_X8_265 : VL RX8 265 7 MX7_copyFrom 1 := ⟨⟨TX7, 9, rfl⟩, Or.inl (aT_in 447 (by decide +kernel) rfl), aT_in 448 (by decide +kernel) rfl, aT_in 449 (by decide +kernel) rfl, aT_in 10 (by decide +kernel) rfl, cw_X7_copyFrom, ⟨by decide +kernel, by decide +kernel, by decide +kernel⟩, by decide⟩
theorem fl_X8_268 : FL RX8 268 2 0 := ⟨RX2, TX2, 1, rfl, by decide, rfl, aT_in 165 (by decide +kernel) rfl, lays_X2⟩
theorem fp_X8_268 : FP RX8 268 2 0 := ⟨RX2, TX2, 1, tyX2, rfl, by decide, rfl, aT_in 165 (by decide +kernel) rfl, lays_X2, tyX2_ok, nmX2, rfl, tyX2_ok 0 (by decide)⟩
theorem vl_X8_272 : VL RX8 272 7 MX7_living 0 := ⟨⟨TX7, 9, rfl⟩, Or.inl (aT_in 458 (by decide +kernel) rfl), aT_in 459 (by decide +kernel) rfl, aT_in 460 (by decide +kernel) rfl, aT_in 10 (by decide +kernel) rfl, cw_X7_living, ⟨by decide +kernel, by decide +kernel, by decide +kernel⟩, by decide⟩
theorem vl_X8_275 : VL RX8 275 7 MX7_allFeasts 0 := ⟨⟨TX7, 9, rfl⟩, Or.inl (aT_in 462 (by decide +kernel) rfl), aT_in 463 (by decide +kernel) rfl, aT_in 464 (by decide +kernel) rfl, aT_in 10 (by decide +kernel) rfl, cw_X7_allFeasts, ⟨by decide +kernel, by decide +kernel, by decide +kernel⟩, by decide⟩
theorem fl_X8_299 : FL RX8 299 7 8 := ⟨RX7, TX7, 9, rfl, by decide, rfl, aT_in 138 (by decide +kernel) rfl, lays_X7⟩
theorem vl_X8_347 : VL RX8 347 7 MX7_mayHave 3 := ⟨⟨TX7, 9, rfl⟩, Or.inl (aT_in 385 (by decide +kernel) rfl), aT_in 386 (by decide +kernel) rfl, aT_in 387 (by decide +kernel) rfl, aT_in 10 (by decide +kernel) rfl, cw_X7_mayHave, ⟨by decide +kernel, by decide +kernel, by decide +kernel⟩, by decide⟩
theorem fl_X0_9 : FL RX0 9 0 0 := ⟨RX0, TX0, 3, rfl, by decide, rfl, aT_in 202 (by decide +kernel) rfl, lays_X0⟩
theorem fl_X1_11 : FL RX1 11 1 0 := ⟨RX1, TX1, 2, rfl, by decide, rfl, aT_in 189 (by decide +kernel) rfl, lays_X1⟩
theorem fl_X1_15 : FL RX1 15 1 1 := ⟨RX1, TX1, 2, rfl, by decide, rfl, aT_in 190 (by decide +kernel) rfl, lays_X1⟩
theorem sl_X2_9 : SL RX2 9 MJ6_bitCount_0f7a4 1 := ⟨Or.inl (aT_in 431 (by decide +kernel) rfl), aT_in 432 (by decide +kernel) rfl, aT_in 17 (by decide +kernel) rfl, cw_J6_bitCount_0f7a4, ⟨by decide +kernel, by decide +kernel, by decide +kernel⟩, by decide⟩
theorem kc_X2_15 : Cond.constantLong RX2 15 (1103515245) ∈ aT := aT_in 437 (by decide +kernel) rfl
theorem fl_X2_17 : FL RX2 17 2 0 := ⟨RX2, TX2, 1, rfl, by decide, rfl, aT_in 164 (by decide +kernel) rfl, lays_X2⟩
theorem kc_X2_23 : Cond.constantLong RX2 23 (12345) ∈ aT := aT_in 438 (by decide +kernel) rfl
theorem kc_X2_25 : Cond.constantLong RX2 25 (2147483647) ∈ aT := aT_in 439 (by decide +kernel) rfl
theorem fp_X2_17 : FP RX2 17 2 0 := ⟨RX2, TX2, 1, tyX2, rfl, by decide, rfl, aT_in 164 (by decide +kernel) rfl, lays_X2, tyX2_ok, nmX2, rfl, tyX2_ok 0 (by decide)⟩
theorem kc_X2_27 : Cond.constantLong RX2 27 (65536) ∈ aT := aT_in 440 (by decide +kernel) rfl
theorem sl_X2_29 : SL RX2 29 MX8_bit 1 := ⟨Or.inr ⟨"GivenGoesOn", aN_in 441 (by decide +kernel) rfl⟩, aT_in 299 (by decide +kernel) rfl, aT_in 7 (by decide +kernel) rfl, cw_X8_bit, ⟨by decide +kernel, by decide +kernel, by decide +kernel⟩, by decide⟩
theorem fl_X3_9 : FL RX3 9 3 0 := ⟨RX3, TX3, 8, rfl, by decide, rfl, aT_in 84 (by decide +kernel) rfl, lays_X3⟩
theorem fp_X3_9 : FP RX3 9 3 0 := ⟨RX3, TX3, 8, tyX3, rfl, by decide, rfl, aT_in 84 (by decide +kernel) rfl, lays_X3, tyX3_ok, nmX3, rfl, tyX3_ok 0 (by decide)⟩
theorem fl_X3_15 : FL RX3 15 3 1 := ⟨RX3, TX3, 8, rfl, by decide, rfl, aT_in 86 (by decide +kernel) rfl, lays_X3⟩
theorem fp_X3_15 : FP RX3 15 3 1 := ⟨RX3, TX3, 8, tyX3, rfl, by decide, rfl, aT_in 86 (by decide +kernel) rfl, lays_X3, tyX3_ok, nmX3, rfl, tyX3_ok 1 (by decide)⟩
theorem fl_X3_18 : FL RX3 18 3 2 := ⟨RX3, TX3, 8, rfl, by decide, rfl, aT_in 88 (by decide +kernel) rfl, lays_X3⟩
theorem fp_X3_18 : FP RX3 18 3 2 := ⟨RX3, TX3, 8, tyX3, rfl, by decide, rfl, aT_in 88 (by decide +kernel) rfl, lays_X3, tyX3_ok, nmX3, rfl, tyX3_ok 2 (by decide)⟩
theorem fl_X3_21 : FL RX3 21 3 3 := ⟨RX3, TX3, 8, rfl, by decide, rfl, aT_in 91 (by decide +kernel) rfl, lays_X3⟩
theorem fp_X3_21 : FP RX3 21 3 3 := ⟨RX3, TX3, 8, tyX3, rfl, by decide, rfl, aT_in 91 (by decide +kernel) rfl, lays_X3, tyX3_ok, nmX3, rfl, tyX3_ok 3 (by decide)⟩
theorem fl_X3_24 : FL RX3 24 3 4 := ⟨RX3, TX3, 8, rfl, by decide, rfl, aT_in 94 (by decide +kernel) rfl, lays_X3⟩
theorem fp_X3_24 : FP RX3 24 3 4 := ⟨RX3, TX3, 8, tyX3, rfl, by decide, rfl, aT_in 94 (by decide +kernel) rfl, lays_X3, tyX3_ok, nmX3, rfl, tyX3_ok 4 (by decide)⟩
theorem fl_X3_27 : FL RX3 27 3 5 := ⟨RX3, TX3, 8, rfl, by decide, rfl, aT_in 96 (by decide +kernel) rfl, lays_X3⟩
theorem fp_X3_27 : FP RX3 27 3 5 := ⟨RX3, TX3, 8, tyX3, rfl, by decide, rfl, aT_in 96 (by decide +kernel) rfl, lays_X3, tyX3_ok, nmX3, rfl, tyX3_ok 5 (by decide)⟩
theorem fl_X3_30 : FL RX3 30 3 6 := ⟨RX3, TX3, 8, rfl, by decide, rfl, aT_in 99 (by decide +kernel) rfl, lays_X3⟩
theorem fp_X3_30 : FP RX3 30 3 6 := ⟨RX3, TX3, 8, tyX3, rfl, by decide, rfl, aT_in 99 (by decide +kernel) rfl, lays_X3, tyX3_ok, nmX3, rfl, tyX3_ok 6 (by decide)⟩
theorem fl_X3_33 : FL RX3 33 3 7 := ⟨RX3, TX3, 8, rfl, by decide, rfl, aT_in 102 (by decide +kernel) rfl, lays_X3⟩
theorem fp_X3_33 : FP RX3 33 3 7 := ⟨RX3, TX3, 8, tyX3, rfl, by decide, rfl, aT_in 102 (by decide +kernel) rfl, lays_X3, tyX3_ok, nmX3, rfl, tyX3_ok 7 (by decide)⟩
theorem sl_X3_36 : SL RX3 36 MJ9_max_7cf53 2 := ⟨Or.inl (aT_in 362 (by decide +kernel) rfl), aT_in 363 (by decide +kernel) rfl, aT_in 16 (by decide +kernel) rfl, cw_J9_max_7cf53, ⟨by decide +kernel, by decide +kernel, by decide +kernel⟩, by decide⟩
theorem sl_X3_42 : SL RX3 42 MJ9_min_7cf53 2 := ⟨Or.inl (aT_in 365 (by decide +kernel) rfl), aT_in 366 (by decide +kernel) rfl, aT_in 16 (by decide +kernel) rfl, cw_J9_min_7cf53, ⟨by decide +kernel, by decide +kernel, by decide +kernel⟩, by decide⟩
theorem vl_X3_45 : VL RX3 45 3 MX3_lives 0 := ⟨⟨TX3, 8, rfl⟩, Or.inl (aT_in 416 (by decide +kernel) rfl), aT_in 321 (by decide +kernel) rfl, aT_in 322 (by decide +kernel) rfl, aT_in 11 (by decide +kernel) rfl, cw_X3_lives, ⟨by decide +kernel, by decide +kernel, by decide +kernel⟩, by decide⟩
theorem vl_X3_49 : VL RX3 49 3 MX3_isOf 1 := ⟨⟨TX3, 8, rfl⟩, Or.inl (aT_in 403 (by decide +kernel) rfl), aT_in 373 (by decide +kernel) rfl, aT_in 374 (by decide +kernel) rfl, aT_in 11 (by decide +kernel) rfl, cw_X3_isOf, ⟨by decide +kernel, by decide +kernel, by decide +kernel⟩, by decide⟩
theorem fl_X4_11 : FL RX4 11 4 0 := ⟨RX4, TX4, 4, rfl, by decide, rfl, aT_in 50 (by decide +kernel) rfl, lays_X4⟩
theorem fp_X4_11 : FP RX4 11 4 0 := ⟨RX4, TX4, 4, tyX4, rfl, by decide, rfl, aT_in 50 (by decide +kernel) rfl, lays_X4, tyX4_ok, nmX4, rfl, tyX4_ok 0 (by decide)⟩
theorem fl_X4_15 : FL RX4 15 4 3 := ⟨RX4, TX4, 4, rfl, by decide, rfl, aT_in 59 (by decide +kernel) rfl, lays_X4⟩
theorem fp_X4_15 : FP RX4 15 4 3 := ⟨RX4, TX4, 4, tyX4, rfl, by decide, rfl, aT_in 59 (by decide +kernel) rfl, lays_X4, tyX4_ok, nmX4, rfl, tyX4_ok 3 (by decide)⟩
theorem fl_X4_18 : FL RX4 18 4 1 := ⟨RX4, TX4, 4, rfl, by decide, rfl, aT_in 53 (by decide +kernel) rfl, lays_X4⟩
theorem fp_X4_18 : FP RX4 18 4 1 := ⟨RX4, TX4, 4, tyX4, rfl, by decide, rfl, aT_in 53 (by decide +kernel) rfl, lays_X4, tyX4_ok, nmX4, rfl, tyX4_ok 1 (by decide)⟩
theorem fl_X4_22 : FL RX4 22 4 2 := ⟨RX4, TX4, 4, rfl, by decide, rfl, aT_in 56 (by decide +kernel) rfl, lays_X4⟩
theorem fp_X4_22 : FP RX4 22 4 2 := ⟨RX4, TX4, 4, tyX4, rfl, by decide, rfl, aT_in 56 (by decide +kernel) rfl, lays_X4, tyX4_ok, nmX4, rfl, tyX4_ok 2 (by decide)⟩
theorem fl_X4_25 : FL RX4 25 5 1 := ⟨RX5, TX5, 2, rfl, by decide, rfl, aT_in 36 (by decide +kernel) rfl, lays_X5⟩
theorem fl_X4_30 : FL RX4 30 5 0 := ⟨RX5, TX5, 2, rfl, by decide, rfl, aT_in 34 (by decide +kernel) rfl, lays_X5⟩
theorem fl_X5_9 : FL RX5 9 5 0 := ⟨RX5, TX5, 2, rfl, by decide, rfl, aT_in 33 (by decide +kernel) rfl, lays_X5⟩
theorem sl_X5_15 : SL RX5 15 MX5_byteOf 2 := ⟨Or.inl (aT_in 486 (by decide +kernel) rfl), aT_in 487 (by decide +kernel) rfl, aT_in 8 (by decide +kernel) rfl, cw_X5_byteOf, ⟨by decide +kernel, by decide +kernel, by decide +kernel⟩, by decide⟩
theorem kc_X5_19 : Cond.constantLong RX5 19 (255) ∈ aT := aT_in 489 (by decide +kernel) rfl
theorem fl_X5_21 : FL RX5 21 5 1 := ⟨RX5, TX5, 2, rfl, by decide, rfl, aT_in 37 (by decide +kernel) rfl, lays_X5⟩
theorem fp_X5_21 : FP RX5 21 5 1 := ⟨RX5, TX5, 2, tyX5, rfl, by decide, rfl, aT_in 37 (by decide +kernel) rfl, lays_X5, tyX5_ok, nmX5, rfl, tyX5_ok 1 (by decide)⟩
theorem sl_X5_25 : SL RX5 25 MX5_behind 2 := ⟨Or.inl (aT_in 251 (by decide +kernel) rfl), aT_in 252 (by decide +kernel) rfl, aT_in 8 (by decide +kernel) rfl, cw_X5_behind, ⟨by decide +kernel, by decide +kernel, by decide +kernel⟩, by decide⟩
theorem sl_X5_29 : SL RX5 29 MX8_within 3 := ⟨Or.inr ⟨"GivenGoesOn", aN_in 254 (by decide +kernel) rfl⟩, aT_in 255 (by decide +kernel) rfl, aT_in 7 (by decide +kernel) rfl, cw_X8_within, ⟨by decide +kernel, by decide +kernel, by decide +kernel⟩, by decide⟩
theorem fl_X6_11 : FL RX6 11 6 0 := ⟨RX6, TX6, 2, rfl, by decide, rfl, aT_in 175 (by decide +kernel) rfl, lays_X6⟩
theorem fl_X6_15 : FL RX6 15 6 1 := ⟨RX6, TX6, 2, rfl, by decide, rfl, aT_in 176 (by decide +kernel) rfl, lays_X6⟩
theorem fl_X7_9 : FL RX7 9 7 1 := ⟨RX7, TX7, 9, rfl, by decide, rfl, aT_in 123 (by decide +kernel) rfl, lays_X7⟩
theorem fl_X7_15 : FL RX7 15 7 2 := ⟨RX7, TX7, 9, rfl, by decide, rfl, aT_in 125 (by decide +kernel) rfl, lays_X7⟩
theorem fl_X7_18 : FL RX7 18 7 3 := ⟨RX7, TX7, 9, rfl, by decide, rfl, aT_in 127 (by decide +kernel) rfl, lays_X7⟩
theorem fl_X7_21 : FL RX7 21 7 4 := ⟨RX7, TX7, 9, rfl, by decide, rfl, aT_in 129 (by decide +kernel) rfl, lays_X7⟩
theorem fl_X7_24 : FL RX7 24 7 5 := ⟨RX7, TX7, 9, rfl, by decide, rfl, aT_in 131 (by decide +kernel) rfl, lays_X7⟩
theorem fl_X7_29 : FL RX7 29 7 7 := ⟨RX7, TX7, 9, rfl, by decide, rfl, aT_in 135 (by decide +kernel) rfl, lays_X7⟩
theorem fl_X7_34 : FL RX7 34 7 0 := ⟨RX7, TX7, 9, rfl, by decide, rfl, aT_in 121 (by decide +kernel) rfl, lays_X7⟩
theorem fp_X7_34 : FP RX7 34 7 0 := ⟨RX7, TX7, 9, tyX7, rfl, by decide, rfl, aT_in 121 (by decide +kernel) rfl, lays_X7, tyX7_ok, nmX7, rfl, tyX7_ok 0 (by decide)⟩
theorem cp_X7_38 : CPL RX7 38 := ⟨aT_in 451 (by decide +kernel) rfl, aT_in 453 (by decide +kernel) rfl, aT_in 452 (by decide +kernel) rfl, aT_in 18 (by decide +kernel) rfl⟩
theorem fl_X7_44 : FL RX7 44 7 6 := ⟨RX7, TX7, 9, rfl, by decide, rfl, aT_in 133 (by decide +kernel) rfl, lays_X7⟩
theorem fp_X7_44 : FP RX7 44 7 6 := ⟨RX7, TX7, 9, tyX7, rfl, by decide, rfl, aT_in 133 (by decide +kernel) rfl, lays_X7, tyX7_ok, nmX7, rfl, tyX7_ok 6 (by decide)⟩
theorem vl_X7_47 : VL RX7 47 3 MX3_copyFrom 1 := ⟨⟨TX3, 8, rfl⟩, Or.inl (aT_in 454 (by decide +kernel) rfl), aT_in 455 (by decide +kernel) rfl, aT_in 456 (by decide +kernel) rfl, aT_in 11 (by decide +kernel) rfl, cw_X3_copyFrom, ⟨by decide +kernel, by decide +kernel, by decide +kernel⟩, by decide⟩
theorem fl_X7_51 : FL RX7 51 7 8 := ⟨RX7, TX7, 9, rfl, by decide, rfl, aT_in 137 (by decide +kernel) rfl, lays_X7⟩
theorem fp_X7_51 : FP RX7 51 7 8 := ⟨RX7, TX7, 9, tyX7, rfl, by decide, rfl, aT_in 137 (by decide +kernel) rfl, lays_X7, tyX7_ok, nmX7, rfl, tyX7_ok 8 (by decide)⟩
theorem vl_X7_54 : VL RX7 54 3 MX3_begin 2 := ⟨⟨TX3, 8, rfl⟩, Or.inl (aT_in 346 (by decide +kernel) rfl), aT_in 347 (by decide +kernel) rfl, aT_in 348 (by decide +kernel) rfl, aT_in 11 (by decide +kernel) rfl, cw_X3_begin, ⟨by decide +kernel, by decide +kernel, by decide +kernel⟩, by decide⟩
theorem sl_X7_58 : SL RX7 58 MX8_bit 1 := ⟨Or.inr ⟨"GivenGoesOn", aN_in 298 (by decide +kernel) rfl⟩, aT_in 299 (by decide +kernel) rfl, aT_in 7 (by decide +kernel) rfl, cw_X8_bit, ⟨by decide +kernel, by decide +kernel, by decide +kernel⟩, by decide⟩
theorem vl_X7_62 : VL RX7 62 3 MX3_lives 0 := ⟨⟨TX3, 8, rfl⟩, Or.inl (aT_in 320 (by decide +kernel) rfl), aT_in 321 (by decide +kernel) rfl, aT_in 322 (by decide +kernel) rfl, aT_in 11 (by decide +kernel) rfl, cw_X3_lives, ⟨by decide +kernel, by decide +kernel, by decide +kernel⟩, by decide⟩
theorem fl_X7_66 : FL RX7 66 3 2 := ⟨RX3, TX3, 8, rfl, by decide, rfl, aT_in 89 (by decide +kernel) rfl, lays_X3⟩
theorem sl_X7_69 : SL RX7 69 MX8_pair 2 := ⟨Or.inr ⟨"GivenGoesOn", aN_in 337 (by decide +kernel) rfl⟩, aT_in 310 (by decide +kernel) rfl, aT_in 7 (by decide +kernel) rfl, cw_X8_pair, ⟨by decide +kernel, by decide +kernel, by decide +kernel⟩, by decide⟩
theorem vl_X7_73 : VL RX7 73 3 MX3_worth 0 := ⟨⟨TX3, 8, rfl⟩, Or.inl (aT_in 398 (by decide +kernel) rfl), aT_in 359 (by decide +kernel) rfl, aT_in 360 (by decide +kernel) rfl, aT_in 11 (by decide +kernel) rfl, cw_X3_worth, ⟨by decide +kernel, by decide +kernel, by decide +kernel⟩, by decide⟩
theorem vl_X7_77 : VL RX7 77 3 MX3_moveTo 2 := ⟨⟨TX3, 8, rfl⟩, Or.inl (aT_in 399 (by decide +kernel) rfl), aT_in 400 (by decide +kernel) rfl, aT_in 401 (by decide +kernel) rfl, aT_in 11 (by decide +kernel) rfl, cw_X3_moveTo, ⟨by decide +kernel, by decide +kernel, by decide +kernel⟩, by decide⟩
theorem fl_X7_80 : FL RX7 80 3 6 := ⟨RX3, TX3, 8, rfl, by decide, rfl, aT_in 100 (by decide +kernel) rfl, lays_X3⟩
theorem fl_X7_83 : FL RX7 83 3 5 := ⟨RX3, TX3, 8, rfl, by decide, rfl, aT_in 97 (by decide +kernel) rfl, lays_X3⟩
theorem fp_X7_83 : FP RX7 83 3 5 := ⟨RX3, TX3, 8, tyX3, rfl, by decide, rfl, aT_in 97 (by decide +kernel) rfl, lays_X3, tyX3_ok, nmX3, rfl, tyX3_ok 5 (by decide)⟩
theorem fl_X7_86 : FL RX7 86 4 0 := ⟨RX4, TX4, 4, rfl, by decide, rfl, aT_in 52 (by decide +kernel) rfl, lays_X4⟩
theorem vl_X7_91 : VL RX7 91 3 MX3_mustGo 1 := ⟨⟨TX3, 8, rfl⟩, Or.inl (aT_in 412 (by decide +kernel) rfl), aT_in 413 (by decide +kernel) rfl, aT_in 414 (by decide +kernel) rfl, aT_in 11 (by decide +kernel) rfl, cw_X3_mustGo, ⟨by decide +kernel, by decide +kernel, by decide +kernel⟩, by decide⟩
theorem fl_X7_95 : FL RX7 95 4 2 := ⟨RX4, TX4, 4, rfl, by decide, rfl, aT_in 58 (by decide +kernel) rfl, lays_X4⟩
theorem fl_X7_99 : FL RX7 99 3 3 := ⟨RX3, TX3, 8, rfl, by decide, rfl, aT_in 92 (by decide +kernel) rfl, lays_X3⟩
theorem fl_X7_102 : FL RX7 102 4 1 := ⟨RX4, TX4, 4, rfl, by decide, rfl, aT_in 55 (by decide +kernel) rfl, lays_X4⟩
theorem vl_X7_105 : VL RX7 105 7 MX7_mayHave 3 := ⟨⟨TX7, 9, rfl⟩, Or.inl (aT_in 417 (by decide +kernel) rfl), aT_in 386 (by decide +kernel) rfl, aT_in 387 (by decide +kernel) rfl, aT_in 10 (by decide +kernel) rfl, cw_X7_mayHave, ⟨by decide +kernel, by decide +kernel, by decide +kernel⟩, by decide⟩
theorem vl_X7_109 : VL RX7 109 7 MX7_chosenBy 2 := ⟨⟨TX7, 9, rfl⟩, Or.inl (aT_in 418 (by decide +kernel) rfl), aT_in 420 (by decide +kernel) rfl, aT_in 4 (by decide +kernel) rfl, aT_in 10 (by decide +kernel) rfl, cw_X7_chosenBy, ⟨by decide +kernel, by decide +kernel, by decide +kernel⟩, by decide⟩
theorem vl_X7_112 : VL RX7 112 2 MX2_oneOf 1 := ⟨⟨TX2, 1, rfl⟩, Or.inl (aT_in 427 (by decide +kernel) rfl), aT_in 428 (by decide +kernel) rfl, aT_in 429 (by decide +kernel) rfl, aT_in 12 (by decide +kernel) rfl, cw_X2_oneOf, ⟨by decide +kernel, by decide +kernel, by decide +kernel⟩, by decide⟩
theorem fl_X7_117 : FL RX7 117 4 3 := ⟨RX4, TX4, 4, rfl, by decide, rfl, aT_in 61 (by decide +kernel) rfl, lays_X4⟩
theorem vl_X7_120 : VL RX7 120 7 MX7_handOn 3 := ⟨⟨TX7, 9, rfl⟩, Or.inl (aT_in 442 (by decide +kernel) rfl), aT_in 395 (by decide +kernel) rfl, aT_in 396 (by decide +kernel) rfl, aT_in 10 (by decide +kernel) rfl, cw_X7_handOn, ⟨by decide +kernel, by decide +kernel, by decide +kernel⟩, by decide⟩
theorem vl_X7_124 : VL RX7 124 7 MX7_markOf 2 := ⟨⟨TX7, 9, rfl⟩, Or.inl (aT_in 422 (by decide +kernel) rfl), aT_in 424 (by decide +kernel) rfl, aT_in 5 (by decide +kernel) rfl, aT_in 10 (by decide +kernel) rfl, cw_X7_markOf, ⟨by decide +kernel, by decide +kernel, by decide +kernel⟩, by decide⟩
theorem vl_X7_127 : VL RX7 127 7 MX7_heldBy 1 := ⟨⟨TX7, 9, rfl⟩, Or.inl (aT_in 426 (by decide +kernel) rfl), aT_in 317 (by decide +kernel) rfl, aT_in 318 (by decide +kernel) rfl, aT_in 10 (by decide +kernel) rfl, cw_X7_heldBy, ⟨by decide +kernel, by decide +kernel, by decide +kernel⟩, by decide⟩
theorem kc_L_7 : Cond.constant RL 7 (747796405) ∈ aT := aT_in 469 (by decide +kernel) rfl
theorem sl_L_8 : SL RL 8 ML_at 2 := ⟨Or.inl (aT_in 470 (by decide +kernel) rfl), aT_in 471 (by decide +kernel) rfl, aT_in 6 (by decide +kernel) rfl, cw_L_at, ⟨by decide +kernel, by decide +kernel, by decide +kernel⟩, by decide⟩
theorem vl_L_14 : VL RL 14 8 MX8_letters 1 := ⟨⟨TX8, 11, rfl⟩, Or.inl (aT_in 479 (by decide +kernel) rfl), aT_in 480 (by decide +kernel) rfl, aT_in 481 (by decide +kernel) rfl, aT_in 7 (by decide +kernel) rfl, cw_X8_letters, ⟨by decide +kernel, by decide +kernel, by decide +kernel⟩, by decide⟩
theorem sl_L_20 : SL RL 20 ML_cell 2 := ⟨Or.inl (aT_in 466 (by decide +kernel) rfl), aT_in 467 (by decide +kernel) rfl, aT_in 6 (by decide +kernel) rfl, cw_L_cell, ⟨by decide +kernel, by decide +kernel, by decide +kernel⟩, by decide⟩
theorem vl_L_24 : VL RL 24 8 MX8_person 1 := ⟨⟨TX8, 11, rfl⟩, Or.inl (aT_in 274 (by decide +kernel) rfl), aT_in 275 (by decide +kernel) rfl, aT_in 276 (by decide +kernel) rfl, aT_in 7 (by decide +kernel) rfl, cw_X8_person, ⟨by decide +kernel, by decide +kernel, by decide +kernel⟩, by decide⟩
theorem vl_L_28 : VL RL 28 8 MX8_know 3 := ⟨⟨TX8, 11, rfl⟩, Or.inl (aT_in 282 (by decide +kernel) rfl), aT_in 283 (by decide +kernel) rfl, aT_in 284 (by decide +kernel) rfl, aT_in 7 (by decide +kernel) rfl, cw_X8_know, ⟨by decide +kernel, by decide +kernel, by decide +kernel⟩, by decide⟩
theorem vl_L_32 : VL RL 32 8 MX8_like 3 := ⟨⟨TX8, 11, rfl⟩, Or.inl (aT_in 305 (by decide +kernel) rfl), aT_in 306 (by decide +kernel) rfl, aT_in 307 (by decide +kernel) rfl, aT_in 7 (by decide +kernel) rfl, cw_X8_like, ⟨by decide +kernel, by decide +kernel, by decide +kernel⟩, by decide⟩
theorem vl_L_36 : VL RL 36 8 MX8_gift 2 := ⟨⟨TX8, 11, rfl⟩, Or.inl (aT_in 338 (by decide +kernel) rfl), aT_in 339 (by decide +kernel) rfl, aT_in 340 (by decide +kernel) rfl, aT_in 7 (by decide +kernel) rfl, cw_X8_gift, ⟨by decide +kernel, by decide +kernel, by decide +kernel⟩, by decide⟩
theorem sl_L_39 : SL RL 39 ML_worth 2 := ⟨Or.inl (aT_in 506 (by decide +kernel) rfl), aT_in 507 (by decide +kernel) rfl, aT_in 6 (by decide +kernel) rfl, cw_L_worth, ⟨by decide +kernel, by decide +kernel, by decide +kernel⟩, by decide⟩
theorem sl_L_42 : SL RL 42 ML_holds 3 := ⟨Or.inl (aT_in 515 (by decide +kernel) rfl), aT_in 516 (by decide +kernel) rfl, aT_in 6 (by decide +kernel) rfl, cw_L_holds, ⟨by decide +kernel, by decide +kernel, by decide +kernel⟩, by decide⟩
theorem sl_L_46 : SL RL 46 ML_may 4 := ⟨Or.inl (aT_in 500 (by decide +kernel) rfl), aT_in 501 (by decide +kernel) rfl, aT_in 6 (by decide +kernel) rfl, cw_L_may, ⟨by decide +kernel, by decide +kernel, by decide +kernel⟩, by decide⟩
theorem sl_L_50 : SL RL 50 ML_habit 5 := ⟨Or.inl (aT_in 512 (by decide +kernel) rfl), aT_in 513 (by decide +kernel) rfl, aT_in 6 (by decide +kernel) rfl, cw_L_habit, ⟨by decide +kernel, by decide +kernel, by decide +kernel⟩, by decide⟩
theorem kc_L_54 : Cond.constantLong RL 54 (1103515245) ∈ aT := aT_in 518 (by decide +kernel) rfl
theorem kc_L_56 : Cond.constantLong RL 56 (12345) ∈ aT := aT_in 519 (by decide +kernel) rfl
theorem kc_L_58 : Cond.constantLong RL 58 (2147483648) ∈ aT := aT_in 520 (by decide +kernel) rfl
theorem kc_L_60 : Cond.constantLong RL 60 (65536) ∈ aT := aT_in 521 (by decide +kernel) rfl
theorem sl_L_62 : SL RL 62 ML_give 6 := ⟨Or.inl (aT_in 503 (by decide +kernel) rfl), aT_in 504 (by decide +kernel) rfl, aT_in 6 (by decide +kernel) rfl, cw_L_give, ⟨by decide +kernel, by decide +kernel, by decide +kernel⟩, by decide⟩
theorem vl_L_66 : VL RL 66 8 MX8_owes 2 := ⟨⟨TX8, 11, rfl⟩, Or.inl (aT_in 324 (by decide +kernel) rfl), aT_in 325 (by decide +kernel) rfl, aT_in 326 (by decide +kernel) rfl, aT_in 7 (by decide +kernel) rfl, cw_X8_owes, ⟨by decide +kernel, by decide +kernel, by decide +kernel⟩, by decide⟩
theorem vl_L_69 : VL RL 69 8 MX8_rest 1 := ⟨⟨TX8, 11, rfl⟩, Or.inl (aT_in 328 (by decide +kernel) rfl), aT_in 329 (by decide +kernel) rfl, aT_in 330 (by decide +kernel) rfl, aT_in 7 (by decide +kernel) rfl, cw_X8_rest, ⟨by decide +kernel, by decide +kernel, by decide +kernel⟩, by decide⟩
theorem vl_L_72 : VL RL 72 8 MX8_about 2 := ⟨⟨TX8, 11, rfl⟩, Or.inl (aT_in 312 (by decide +kernel) rfl), aT_in 313 (by decide +kernel) rfl, aT_in 314 (by decide +kernel) rfl, aT_in 7 (by decide +kernel) rfl, cw_X8_about, ⟨by decide +kernel, by decide +kernel, by decide +kernel⟩, by decide⟩
theorem vl_L_75 : VL RL 75 8 MX8_told 2 := ⟨⟨TX8, 11, rfl⟩, Or.inl (aT_in 350 (by decide +kernel) rfl), aT_in 351 (by decide +kernel) rfl, aT_in 352 (by decide +kernel) rfl, aT_in 7 (by decide +kernel) rfl, cw_X8_told, ⟨by decide +kernel, by decide +kernel, by decide +kernel⟩, by decide⟩
theorem vl_L_78 : VL RL 78 8 MX8_count 1 := ⟨⟨TX8, 11, rfl⟩, Or.inl (aT_in 525 (by decide +kernel) rfl), aT_in 526 (by decide +kernel) rfl, aT_in 527 (by decide +kernel) rfl, aT_in 7 (by decide +kernel) rfl, cw_X8_count, ⟨by decide +kernel, by decide +kernel, by decide +kernel⟩, by decide⟩
theorem sl_L_82 : SL RL 82 ML_lawText 3 := ⟨Or.inl (aT_in 473 (by decide +kernel) rfl), aT_in 474 (by decide +kernel) rfl, aT_in 6 (by decide +kernel) rfl, cw_L_lawText, ⟨by decide +kernel, by decide +kernel, by decide +kernel⟩, by decide⟩
theorem sl_L_86 : SL RL 86 ML_write 3 := ⟨Or.inl (aT_in 476 (by decide +kernel) rfl), aT_in 477 (by decide +kernel) rfl, aT_in 6 (by decide +kernel) rfl, cw_L_write, ⟨by decide +kernel, by decide +kernel, by decide +kernel⟩, by decide⟩
theorem vl_L_90 : VL RL 90 8 MX8_fault 0 := ⟨⟨TX8, 11, rfl⟩, Or.inl (aT_in 243 (by decide +kernel) rfl), aT_in 244 (by decide +kernel) rfl, aT_in 245 (by decide +kernel) rfl, aT_in 7 (by decide +kernel) rfl, cw_X8_fault, ⟨by decide +kernel, by decide +kernel, by decide +kernel⟩, by decide⟩
theorem vl_L_94 : VL RL 94 8 MX8_law 0 := ⟨⟨TX8, 11, rfl⟩, Or.inl (aT_in 257 (by decide +kernel) rfl), aT_in 258 (by decide +kernel) rfl, aT_in 259 (by decide +kernel) rfl, aT_in 7 (by decide +kernel) rfl, cw_X8_law, ⟨by decide +kernel, by decide +kernel, by decide +kernel⟩, by decide⟩
theorem vl_L_97 : VL RL 97 8 MX8_lawTold 1 := ⟨⟨TX8, 11, rfl⟩, Or.inl (aT_in 269 (by decide +kernel) rfl), aT_in 270 (by decide +kernel) rfl, aT_in 271 (by decide +kernel) rfl, aT_in 7 (by decide +kernel) rfl, cw_X8_lawTold, ⟨by decide +kernel, by decide +kernel, by decide +kernel⟩, by decide⟩
theorem sl_L_100 : SL RL 100 ML_people 6 := ⟨Or.inl (aT_in 494 (by decide +kernel) rfl), aT_in 495 (by decide +kernel) rfl, aT_in 6 (by decide +kernel) rfl, cw_L_people, ⟨by decide +kernel, by decide +kernel, by decide +kernel⟩, by decide⟩
theorem sl_L_104 : SL RL 104 ML_gifts 6 := ⟨Or.inl (aT_in 497 (by decide +kernel) rfl), aT_in 498 (by decide +kernel) rfl, aT_in 6 (by decide +kernel) rfl, cw_L_gifts, ⟨by decide +kernel, by decide +kernel, by decide +kernel⟩, by decide⟩
theorem sl_L_107 : SL RL 107 ML_stands 4 := ⟨Or.inl (aT_in 522 (by decide +kernel) rfl), aT_in 523 (by decide +kernel) rfl, aT_in 6 (by decide +kernel) rfl, cw_L_stands, ⟨by decide +kernel, by decide +kernel, by decide +kernel⟩, by decide⟩
theorem vl_L_111 : VL RL 111 8 MX8_as 2 := ⟨⟨TX8, 11, rfl⟩, Or.inl (aT_in 368 (by decide +kernel) rfl), aT_in 369 (by decide +kernel) rfl, aT_in 370 (by decide +kernel) rfl, aT_in 7 (by decide +kernel) rfl, cw_X8_as, ⟨by decide +kernel, by decide +kernel, by decide +kernel⟩, by decide⟩
theorem vl_L_114 : VL RL 114 8 MX8_may 1 := ⟨⟨TX8, 11, rfl⟩, Or.inl (aT_in 376 (by decide +kernel) rfl), aT_in 377 (by decide +kernel) rfl, aT_in 378 (by decide +kernel) rfl, aT_in 7 (by decide +kernel) rfl, cw_X8_may, ⟨by decide +kernel, by decide +kernel, by decide +kernel⟩, by decide⟩
theorem vl_L_116 : VL RL 116 8 MX8_give 2 := ⟨⟨TX8, 11, rfl⟩, Or.inl (aT_in 389 (by decide +kernel) rfl), aT_in 390 (by decide +kernel) rfl, aT_in 391 (by decide +kernel) rfl, aT_in 7 (by decide +kernel) rfl, cw_X8_give, ⟨by decide +kernel, by decide +kernel, by decide +kernel⟩, by decide⟩
theorem kc_L_118 : Cond.constantLong RL 118 (-1) ∈ aT := aT_in 529 (by decide +kernel) rfl
theorem sl_L_120 : SL RL 120 ML_year 6 := ⟨Or.inl (aT_in 509 (by decide +kernel) rfl), aT_in 510 (by decide +kernel) rfl, aT_in 6 (by decide +kernel) rfl, cw_L_year, ⟨by decide +kernel, by decide +kernel, by decide +kernel⟩, by decide⟩
theorem vl_L_124 : VL RL 124 8 MX8_years 1 := ⟨⟨TX8, 11, rfl⟩, Or.inl (aT_in 404 (by decide +kernel) rfl), aT_in 405 (by decide +kernel) rfl, aT_in 406 (by decide +kernel) rfl, aT_in 7 (by decide +kernel) rfl, cw_X8_years, ⟨by decide +kernel, by decide +kernel, by decide +kernel⟩, by decide⟩
theorem kc_L_127 : Cond.constant RL 127 (2147483647) ∈ aT := aT_in 530 (by decide +kernel) rfl
theorem vl_L_128 : VL RL 128 8 MX8_drawn 3 := ⟨⟨TX8, 11, rfl⟩, Or.inl (aT_in 443 (by decide +kernel) rfl), aT_in 444 (by decide +kernel) rfl, aT_in 445 (by decide +kernel) rfl, aT_in 7 (by decide +kernel) rfl, cw_X8_drawn, ⟨by decide +kernel, by decide +kernel, by decide +kernel⟩, by decide⟩
theorem kc_L_131 : Cond.constant RL 131 (-100001) ∈ aT := aT_in 531 (by decide +kernel) rfl
theorem kc_J6_265 : Cond.constant RJ6 265 (1431655765) ∈ aT := aT_in 434 (by decide +kernel) rfl
theorem kc_J6_266 : Cond.constant RJ6 266 (858993459) ∈ aT := aT_in 435 (by decide +kernel) rfl
theorem kc_J6_267 : Cond.constant RJ6 267 (252645135) ∈ aT := aT_in 436 (by decide +kernel) rfl
end
section
theorem dX8_init_0 : decode cX8_init 0 = .ok (.aload_n 0, 1) := by decide +kernel
theorem dX8_init_1 : decode cX8_init 1 = .ok (.invokespecial 3, 3) := by decide +kernel
theorem dX8_init_4 : decode cX8_init 4 = .ok (.aload_n 0, 1) := by decide +kernel
theorem dX8_init_5 : decode cX8_init 5 = .ok (.new 9, 3) := by decide +kernel
theorem dX8_init_8 : decode cX8_init 8 = .ok (.dup, 1) := by decide +kernel
theorem dX8_init_9 : decode cX8_init 9 = .ok (.invokespecial 11, 3) := by decide +kernel
theorem dX8_init_12 : decode cX8_init 12 = .ok (.putfield 12, 3) := by decide +kernel
theorem dX8_init_15 : decode cX8_init 15 = .ok (.aload_n 0, 1) := by decide +kernel
theorem dX8_init_16 : decode cX8_init 16 = .ok (.new 16, 3) := by decide +kernel
theorem dX8_init_19 : decode cX8_init 19 = .ok (.dup, 1) := by decide +kernel
theorem dX8_init_20 : decode cX8_init 20 = .ok (.invokespecial 18, 3) := by decide +kernel
theorem dX8_init_23 : decode cX8_init 23 = .ok (.putfield 19, 3) := by decide +kernel
theorem dX8_init_26 : decode cX8_init 26 = .ok (.aload_n 0, 1) := by decide +kernel
theorem dX8_init_27 : decode cX8_init 27 = .ok (.new 23, 3) := by decide +kernel
theorem dX8_init_30 : decode cX8_init 30 = .ok (.dup, 1) := by decide +kernel
theorem dX8_init_31 : decode cX8_init 31 = .ok (.invokespecial 25, 3) := by decide +kernel
theorem dX8_init_34 : decode cX8_init 34 = .ok (.putfield 26, 3) := by decide +kernel
theorem dX8_init_37 : decode cX8_init 37 = .ok (.aload_n 0, 1) := by decide +kernel
theorem dX8_init_38 : decode cX8_init 38 = .ok (.new 23, 3) := by decide +kernel
theorem dX8_init_41 : decode cX8_init 41 = .ok (.dup, 1) := by decide +kernel
theorem dX8_init_42 : decode cX8_init 42 = .ok (.invokespecial 25, 3) := by decide +kernel
theorem dX8_init_45 : decode cX8_init 45 = .ok (.putfield 30, 3) := by decide +kernel
theorem dX8_init_48 : decode cX8_init 48 = .ok (.aload_n 0, 1) := by decide +kernel
theorem dX8_init_49 : decode cX8_init 49 = .ok (.new 23, 3) := by decide +kernel
theorem dX8_init_52 : decode cX8_init 52 = .ok (.dup, 1) := by decide +kernel
theorem dX8_init_53 : decode cX8_init 53 = .ok (.invokespecial 25, 3) := by decide +kernel
theorem dX8_init_56 : decode cX8_init 56 = .ok (.putfield 33, 3) := by decide +kernel
theorem dX8_init_59 : decode cX8_init 59 = .ok (.aload_n 0, 1) := by decide +kernel
theorem dX8_init_60 : decode cX8_init 60 = .ok (.new 36, 3) := by decide +kernel
theorem dX8_init_63 : decode cX8_init 63 = .ok (.dup, 1) := by decide +kernel
theorem dX8_init_64 : decode cX8_init 64 = .ok (.invokespecial 38, 3) := by decide +kernel
theorem dX8_init_67 : decode cX8_init 67 = .ok (.putfield 39, 3) := by decide +kernel
theorem dX8_init_70 : decode cX8_init 70 = .ok (.aload_n 0, 1) := by decide +kernel
theorem dX8_init_71 : decode cX8_init 71 = .ok (.new 43, 3) := by decide +kernel
theorem dX8_init_74 : decode cX8_init 74 = .ok (.dup, 1) := by decide +kernel
theorem dX8_init_75 : decode cX8_init 75 = .ok (.invokespecial 45, 3) := by decide +kernel
theorem dX8_init_78 : decode cX8_init 78 = .ok (.putfield 46, 3) := by decide +kernel
theorem dX8_init_81 : decode cX8_init 81 = .ok (.aload_n 0, 1) := by decide +kernel
theorem dX8_init_82 : decode cX8_init 82 = .ok (.new 50, 3) := by decide +kernel
theorem dX8_init_85 : decode cX8_init 85 = .ok (.dup, 1) := by decide +kernel
theorem dX8_init_86 : decode cX8_init 86 = .ok (.invokespecial 52, 3) := by decide +kernel
theorem dX8_init_89 : decode cX8_init 89 = .ok (.putfield 53, 3) := by decide +kernel
theorem dX8_init_92 : decode cX8_init 92 = .ok (.aload_n 0, 1) := by decide +kernel
theorem dX8_init_93 : decode cX8_init 93 = .ok (.new 57, 3) := by decide +kernel
theorem dX8_init_96 : decode cX8_init 96 = .ok (.dup, 1) := by decide +kernel
theorem dX8_init_97 : decode cX8_init 97 = .ok (.invokespecial 59, 3) := by decide +kernel
theorem dX8_init_100 : decode cX8_init 100 = .ok (.putfield 60, 3) := by decide +kernel
theorem dX8_init_103 : decode cX8_init 103 = .ok (.return_, 1) := by decide +kernel
theorem dX8_letters_0 : decode cX8_letters 0 = .ok (.lload_n 1, 1) := by decide +kernel
theorem dX8_letters_1 : decode cX8_letters 1 = .ok (.invokestatic 64, 3) := by decide +kernel
theorem dX8_letters_4 : decode cX8_letters 4 = .ok (.istore_n 3, 1) := by decide +kernel
theorem dX8_letters_5 : decode cX8_letters 5 = .ok (.iload_n 3, 1) := by decide +kernel
theorem dX8_letters_6 : decode cX8_letters 6 = .ok (.iconst (-1), 1) := by decide +kernel
theorem dX8_letters_7 : decode cX8_letters 7 = .ok (.if_icmp .ne 6, 3) := by decide +kernel
theorem dX8_letters_10 : decode cX8_letters 10 = .ok (.bipush (-102), 2) := by decide +kernel
theorem dX8_letters_12 : decode cX8_letters 12 = .ok (.ireturn, 1) := by decide +kernel
theorem dX8_letters_13 : decode cX8_letters 13 = .ok (.aload_n 0, 1) := by decide +kernel
theorem dX8_letters_14 : decode cX8_letters 14 = .ok (.getfield 12, 3) := by decide +kernel
theorem dX8_letters_17 : decode cX8_letters 17 = .ok (.getfield 68, 3) := by decide +kernel
theorem dX8_letters_20 : decode cX8_letters 20 = .ok (.iload_n 3, 1) := by decide +kernel
theorem dX8_letters_21 : decode cX8_letters 21 = .ok (.iadd, 1) := by decide +kernel
theorem dX8_letters_22 : decode cX8_letters 22 = .ok (.bipush 16, 2) := by decide +kernel
theorem dX8_letters_24 : decode cX8_letters 24 = .ok (.if_icmp .le 6, 3) := by decide +kernel
theorem dX8_letters_27 : decode cX8_letters 27 = .ok (.bipush (-104), 2) := by decide +kernel
theorem dX8_letters_29 : decode cX8_letters 29 = .ok (.ireturn, 1) := by decide +kernel
theorem dX8_letters_30 : decode cX8_letters 30 = .ok (.aload_n 0, 1) := by decide +kernel
theorem dX8_letters_31 : decode cX8_letters 31 = .ok (.getfield 12, 3) := by decide +kernel
theorem dX8_letters_34 : decode cX8_letters 34 = .ok (.lload_n 1, 1) := by decide +kernel
theorem dX8_letters_35 : decode cX8_letters 35 = .ok (.iload_n 3, 1) := by decide +kernel
theorem dX8_letters_36 : decode cX8_letters 36 = .ok (.invokevirtual 72, 3) := by decide +kernel
theorem dX8_letters_39 : decode cX8_letters 39 = .ok (.aload_n 0, 1) := by decide +kernel
theorem dX8_letters_40 : decode cX8_letters 40 = .ok (.getfield 12, 3) := by decide +kernel
theorem dX8_letters_43 : decode cX8_letters 43 = .ok (.getfield 68, 3) := by decide +kernel
theorem dX8_letters_46 : decode cX8_letters 46 = .ok (.ireturn, 1) := by decide +kernel
theorem dX8_fault_0 : decode cX8_fault 0 = .ok (.aload_n 0, 1) := by decide +kernel
theorem dX8_fault_1 : decode cX8_fault 1 = .ok (.getfield 12, 3) := by decide +kernel
theorem dX8_fault_4 : decode cX8_fault 4 = .ok (.invokevirtual 76, 3) := by decide +kernel
theorem dX8_fault_7 : decode cX8_fault 7 = .ok (.ireturn, 1) := by decide +kernel
theorem dX8_law_0 : decode cX8_law 0 = .ok (.aload_n 0, 1) := by decide +kernel
theorem dX8_law_1 : decode cX8_law 1 = .ok (.getfield 12, 3) := by decide +kernel
theorem dX8_law_4 : decode cX8_law 4 = .ok (.invokevirtual 80, 3) := by decide +kernel
theorem dX8_law_7 : decode cX8_law 7 = .ok (.ifCond .ne 6, 3) := by decide +kernel
theorem dX8_law_10 : decode cX8_law 10 = .ok (.bipush (-103), 2) := by decide +kernel
theorem dX8_law_12 : decode cX8_law 12 = .ok (.ireturn, 1) := by decide +kernel
theorem dX8_law_13 : decode cX8_law 13 = .ok (.aload_n 0, 1) := by decide +kernel
theorem dX8_law_14 : decode cX8_law 14 = .ok (.getfield 19, 3) := by decide +kernel
theorem dX8_law_17 : decode cX8_law 17 = .ok (.aload_n 0, 1) := by decide +kernel
theorem dX8_law_18 : decode cX8_law 18 = .ok (.getfield 12, 3) := by decide +kernel
theorem dX8_law_21 : decode cX8_law 21 = .ok (.invokevirtual 84, 3) := by decide +kernel
theorem dX8_law_24 : decode cX8_law 24 = .ok (.aload_n 0, 1) := by decide +kernel
theorem dX8_law_25 : decode cX8_law 25 = .ok (.getfield 12, 3) := by decide +kernel
theorem dX8_law_28 : decode cX8_law 28 = .ok (.iconst 0, 1) := by decide +kernel
theorem dX8_law_29 : decode cX8_law 29 = .ok (.putfield 68, 3) := by decide +kernel
theorem dX8_law_32 : decode cX8_law 32 = .ok (.aload_n 0, 1) := by decide +kernel
theorem dX8_law_33 : decode cX8_law 33 = .ok (.dup, 1) := by decide +kernel
theorem dX8_law_34 : decode cX8_law 34 = .ok (.getfield 88, 3) := by decide +kernel
theorem dX8_law_37 : decode cX8_law 37 = .ok (.iconst 1, 1) := by decide +kernel
theorem dX8_law_38 : decode cX8_law 38 = .ok (.iadd, 1) := by decide +kernel
theorem dX8_law_39 : decode cX8_law 39 = .ok (.putfield 88, 3) := by decide +kernel
theorem dX8_law_42 : decode cX8_law 42 = .ok (.aload_n 0, 1) := by decide +kernel
theorem dX8_law_43 : decode cX8_law 43 = .ok (.getfield 88, 3) := by decide +kernel
theorem dX8_law_46 : decode cX8_law 46 = .ok (.ireturn, 1) := by decide +kernel
theorem dX8_lawTold_0 : decode cX8_lawTold 0 = .ok (.iload_n 1, 1) := by decide +kernel
theorem dX8_lawTold_1 : decode cX8_lawTold 1 = .ok (.iconst 0, 1) := by decide +kernel
theorem dX8_lawTold_2 : decode cX8_lawTold 2 = .ok (.iconst 3, 1) := by decide +kernel
theorem dX8_lawTold_3 : decode cX8_lawTold 3 = .ok (.invokestatic 91, 3) := by decide +kernel
theorem dX8_lawTold_6 : decode cX8_lawTold 6 = .ok (.ifCond .ne 6, 3) := by decide +kernel
theorem dX8_lawTold_9 : decode cX8_lawTold 9 = .ok (.bipush (-102), 2) := by decide +kernel
theorem dX8_lawTold_11 : decode cX8_lawTold 11 = .ok (.ireturn, 1) := by decide +kernel
theorem dX8_lawTold_12 : decode cX8_lawTold 12 = .ok (.iload_n 1, 1) := by decide +kernel
theorem dX8_lawTold_13 : decode cX8_lawTold 13 = .ok (.tableswitch 67 0 2 #[27, 35, 51], 27) := by decide +kernel
theorem dX8_lawTold_40 : decode cX8_lawTold 40 = .ok (.aload_n 0, 1) := by decide +kernel
theorem dX8_lawTold_41 : decode cX8_lawTold 41 = .ok (.getfield 19, 3) := by decide +kernel
theorem dX8_lawTold_44 : decode cX8_lawTold 44 = .ok (.getfield 95, 3) := by decide +kernel
theorem dX8_lawTold_47 : decode cX8_lawTold 47 = .ok (.ireturn, 1) := by decide +kernel
theorem dX8_lawTold_48 : decode cX8_lawTold 48 = .ok (.aload_n 0, 1) := by decide +kernel
theorem dX8_lawTold_49 : decode cX8_lawTold 49 = .ok (.getfield 19, 3) := by decide +kernel
theorem dX8_lawTold_52 : decode cX8_lawTold 52 = .ok (.getfield 98, 3) := by decide +kernel
theorem dX8_lawTold_55 : decode cX8_lawTold 55 = .ok (.ifCond .eq 7, 3) := by decide +kernel
theorem dX8_lawTold_58 : decode cX8_lawTold 58 = .ok (.iconst 1, 1) := by decide +kernel
theorem dX8_lawTold_59 : decode cX8_lawTold 59 = .ok (.goto 4, 3) := by decide +kernel
theorem dX8_lawTold_62 : decode cX8_lawTold 62 = .ok (.iconst 0, 1) := by decide +kernel
theorem dX8_lawTold_63 : decode cX8_lawTold 63 = .ok (.ireturn, 1) := by decide +kernel
theorem dX8_lawTold_64 : decode cX8_lawTold 64 = .ok (.aload_n 0, 1) := by decide +kernel
theorem dX8_lawTold_65 : decode cX8_lawTold 65 = .ok (.getfield 19, 3) := by decide +kernel
theorem dX8_lawTold_68 : decode cX8_lawTold 68 = .ok (.getfield 102, 3) := by decide +kernel
theorem dX8_lawTold_71 : decode cX8_lawTold 71 = .ok (.ifCond .eq 7, 3) := by decide +kernel
theorem dX8_lawTold_74 : decode cX8_lawTold 74 = .ok (.iconst 1, 1) := by decide +kernel
theorem dX8_lawTold_75 : decode cX8_lawTold 75 = .ok (.goto 4, 3) := by decide +kernel
theorem dX8_lawTold_78 : decode cX8_lawTold 78 = .ok (.iconst 0, 1) := by decide +kernel
theorem dX8_lawTold_79 : decode cX8_lawTold 79 = .ok (.ireturn, 1) := by decide +kernel
theorem dX8_lawTold_80 : decode cX8_lawTold 80 = .ok (.aload_n 0, 1) := by decide +kernel
theorem dX8_lawTold_81 : decode cX8_lawTold 81 = .ok (.getfield 19, 3) := by decide +kernel
theorem dX8_lawTold_84 : decode cX8_lawTold 84 = .ok (.getfield 105, 3) := by decide +kernel
theorem dX8_lawTold_87 : decode cX8_lawTold 87 = .ok (.ireturn, 1) := by decide +kernel
theorem dX8_person_0 : decode cX8_person 0 = .ok (.iload_n 1, 1) := by decide +kernel
theorem dX8_person_1 : decode cX8_person 1 = .ok (.iconst 0, 1) := by decide +kernel
theorem dX8_person_2 : decode cX8_person 2 = .ok (.iconst 3, 1) := by decide +kernel
theorem dX8_person_3 : decode cX8_person 3 = .ok (.invokestatic 91, 3) := by decide +kernel
theorem dX8_person_6 : decode cX8_person 6 = .ok (.ifCond .ne 6, 3) := by decide +kernel
theorem dX8_person_9 : decode cX8_person 9 = .ok (.bipush (-102), 2) := by decide +kernel
theorem dX8_person_11 : decode cX8_person 11 = .ok (.ireturn, 1) := by decide +kernel
theorem dX8_person_12 : decode cX8_person 12 = .ok (.aload_n 0, 1) := by decide +kernel
theorem dX8_person_13 : decode cX8_person 13 = .ok (.getfield 26, 3) := by decide +kernel
theorem dX8_person_16 : decode cX8_person 16 = .ok (.getfield 108, 3) := by decide +kernel
theorem dX8_person_19 : decode cX8_person 19 = .ok (.bipush 8, 2) := by decide +kernel
theorem dX8_person_21 : decode cX8_person 21 = .ok (.if_icmp .lt 6, 3) := by decide +kernel
theorem dX8_person_24 : decode cX8_person 24 = .ok (.bipush (-104), 2) := by decide +kernel
theorem dX8_person_26 : decode cX8_person 26 = .ok (.ireturn, 1) := by decide +kernel
theorem dX8_person_27 : decode cX8_person 27 = .ok (.aload_n 0, 1) := by decide +kernel
theorem dX8_person_28 : decode cX8_person 28 = .ok (.getfield 26, 3) := by decide +kernel
theorem dX8_person_31 : decode cX8_person 31 = .ok (.iload_n 1, 1) := by decide +kernel
theorem dX8_person_32 : decode cX8_person 32 = .ok (.invokevirtual 111, 3) := by decide +kernel
theorem dX8_person_35 : decode cX8_person 35 = .ok (.ireturn, 1) := by decide +kernel
theorem dX8_know_0 : decode cX8_know 0 = .ok (.aload_n 0, 1) := by decide +kernel
theorem dX8_know_1 : decode cX8_know 1 = .ok (.iload_n 1, 1) := by decide +kernel
theorem dX8_know_2 : decode cX8_know 2 = .ok (.iload_n 2, 1) := by decide +kernel
theorem dX8_know_3 : decode cX8_know 3 = .ok (.invokevirtual 115, 3) := by decide +kernel
theorem dX8_know_6 : decode cX8_know 6 = .ok (.ifCond .ne 6, 3) := by decide +kernel
theorem dX8_know_9 : decode cX8_know 9 = .ok (.bipush (-101), 2) := by decide +kernel
theorem dX8_know_11 : decode cX8_know 11 = .ok (.ireturn, 1) := by decide +kernel
theorem dX8_know_12 : decode cX8_know 12 = .ok (.aload_n 0, 1) := by decide +kernel
theorem dX8_know_13 : decode cX8_know 13 = .ok (.getfield 26, 3) := by decide +kernel
theorem dX8_know_16 : decode cX8_know 16 = .ok (.iload_n 1, 1) := by decide +kernel
theorem dX8_know_17 : decode cX8_know 17 = .ok (.iload_n 2, 1) := by decide +kernel
theorem dX8_know_18 : decode cX8_know 18 = .ok (.invokevirtual 119, 3) := by decide +kernel
theorem dX8_know_21 : decode cX8_know 21 = .ok (.ifCond .eq 7, 3) := by decide +kernel
theorem dX8_know_24 : decode cX8_know 24 = .ok (.iconst 1, 1) := by decide +kernel
theorem dX8_know_25 : decode cX8_know 25 = .ok (.goto 4, 3) := by decide +kernel
theorem dX8_know_28 : decode cX8_know 28 = .ok (.iconst 0, 1) := by decide +kernel
theorem dX8_know_29 : decode cX8_know 29 = .ok (.istore 4, 2) := by decide +kernel
theorem dX8_know_31 : decode cX8_know 31 = .ok (.aload_n 0, 1) := by decide +kernel
theorem dX8_know_32 : decode cX8_know 32 = .ok (.getfield 26, 3) := by decide +kernel
theorem dX8_know_35 : decode cX8_know 35 = .ok (.iload_n 1, 1) := by decide +kernel
theorem dX8_know_36 : decode cX8_know 36 = .ok (.iload_n 2, 1) := by decide +kernel
theorem dX8_know_37 : decode cX8_know 37 = .ok (.iload_n 3, 1) := by decide +kernel
theorem dX8_know_38 : decode cX8_know 38 = .ok (.invokevirtual 122, 3) := by decide +kernel
theorem dX8_know_41 : decode cX8_know 41 = .ok (.iload 4, 2) := by decide +kernel
theorem dX8_know_43 : decode cX8_know 43 = .ok (.ireturn, 1) := by decide +kernel
theorem dX8_like_0 : decode cX8_like 0 = .ok (.aload_n 0, 1) := by decide +kernel
theorem dX8_like_1 : decode cX8_like 1 = .ok (.iload_n 1, 1) := by decide +kernel
theorem dX8_like_2 : decode cX8_like 2 = .ok (.iload_n 2, 1) := by decide +kernel
theorem dX8_like_3 : decode cX8_like 3 = .ok (.invokevirtual 115, 3) := by decide +kernel
theorem dX8_like_6 : decode cX8_like 6 = .ok (.ifCond .ne 6, 3) := by decide +kernel
theorem dX8_like_9 : decode cX8_like 9 = .ok (.bipush (-101), 2) := by decide +kernel
theorem dX8_like_11 : decode cX8_like 11 = .ok (.ireturn, 1) := by decide +kernel
theorem dX8_like_12 : decode cX8_like 12 = .ok (.iload_n 3, 1) := by decide +kernel
theorem dX8_like_13 : decode cX8_like 13 = .ok (.iconst 0, 1) := by decide +kernel
theorem dX8_like_14 : decode cX8_like 14 = .ok (.bipush 9, 2) := by decide +kernel
theorem dX8_like_16 : decode cX8_like 16 = .ok (.invokestatic 91, 3) := by decide +kernel
theorem dX8_like_19 : decode cX8_like 19 = .ok (.ifCond .ne 6, 3) := by decide +kernel
theorem dX8_like_22 : decode cX8_like 22 = .ok (.bipush (-102), 2) := by decide +kernel
theorem dX8_like_24 : decode cX8_like 24 = .ok (.ireturn, 1) := by decide +kernel
theorem dX8_like_25 : decode cX8_like 25 = .ok (.aload_n 0, 1) := by decide +kernel
theorem dX8_like_26 : decode cX8_like 26 = .ok (.getfield 26, 3) := by decide +kernel
theorem dX8_like_29 : decode cX8_like 29 = .ok (.getfield 126, 3) := by decide +kernel
theorem dX8_like_32 : decode cX8_like 32 = .ok (.iload_n 1, 1) := by decide +kernel
theorem dX8_like_33 : decode cX8_like 33 = .ok (.iload_n 2, 1) := by decide +kernel
theorem dX8_like_34 : decode cX8_like 34 = .ok (.invokestatic 130, 3) := by decide +kernel
theorem dX8_like_37 : decode cX8_like 37 = .ok (.iaload, 1) := by decide +kernel
theorem dX8_like_38 : decode cX8_like 38 = .ok (.istore 4, 2) := by decide +kernel
theorem dX8_like_40 : decode cX8_like 40 = .ok (.aload_n 0, 1) := by decide +kernel
theorem dX8_like_41 : decode cX8_like 41 = .ok (.getfield 26, 3) := by decide +kernel
theorem dX8_like_44 : decode cX8_like 44 = .ok (.getfield 126, 3) := by decide +kernel
theorem dX8_like_47 : decode cX8_like 47 = .ok (.iload_n 1, 1) := by decide +kernel
theorem dX8_like_48 : decode cX8_like 48 = .ok (.iload_n 2, 1) := by decide +kernel
theorem dX8_like_49 : decode cX8_like 49 = .ok (.invokestatic 130, 3) := by decide +kernel
theorem dX8_like_52 : decode cX8_like 52 = .ok (.iload_n 3, 1) := by decide +kernel
theorem dX8_like_53 : decode cX8_like 53 = .ok (.iastore, 1) := by decide +kernel
theorem dX8_like_54 : decode cX8_like 54 = .ok (.iload 4, 2) := by decide +kernel
theorem dX8_like_56 : decode cX8_like 56 = .ok (.ireturn, 1) := by decide +kernel
theorem dX8_about_0 : decode cX8_about 0 = .ok (.aload_n 0, 1) := by decide +kernel
theorem dX8_about_1 : decode cX8_about 1 = .ok (.iload_n 1, 1) := by decide +kernel
theorem dX8_about_2 : decode cX8_about 2 = .ok (.invokevirtual 134, 3) := by decide +kernel
theorem dX8_about_5 : decode cX8_about 5 = .ok (.ifCond .ne 6, 3) := by decide +kernel
theorem dX8_about_8 : decode cX8_about 8 = .ok (.bipush (-101), 2) := by decide +kernel
theorem dX8_about_10 : decode cX8_about 10 = .ok (.ireturn, 1) := by decide +kernel
theorem dX8_about_11 : decode cX8_about 11 = .ok (.iload_n 2, 1) := by decide +kernel
theorem dX8_about_12 : decode cX8_about 12 = .ok (.iconst 0, 1) := by decide +kernel
theorem dX8_about_13 : decode cX8_about 13 = .ok (.iconst 3, 1) := by decide +kernel
theorem dX8_about_14 : decode cX8_about 14 = .ok (.invokestatic 91, 3) := by decide +kernel
theorem dX8_about_17 : decode cX8_about 17 = .ok (.ifCond .ne 6, 3) := by decide +kernel
theorem dX8_about_20 : decode cX8_about 20 = .ok (.bipush (-102), 2) := by decide +kernel
theorem dX8_about_22 : decode cX8_about 22 = .ok (.ireturn, 1) := by decide +kernel
theorem dX8_about_23 : decode cX8_about 23 = .ok (.iload_n 2, 1) := by decide +kernel
theorem dX8_about_24 : decode cX8_about 24 = .ok (.tableswitch 57 0 2 #[28, 38, 47], 28) := by decide +kernel
theorem dX8_about_52 : decode cX8_about 52 = .ok (.aload_n 0, 1) := by decide +kernel
theorem dX8_about_53 : decode cX8_about 53 = .ok (.getfield 26, 3) := by decide +kernel
theorem dX8_about_56 : decode cX8_about 56 = .ok (.getfield 138, 3) := by decide +kernel
theorem dX8_about_59 : decode cX8_about 59 = .ok (.iload_n 1, 1) := by decide +kernel
theorem dX8_about_60 : decode cX8_about 60 = .ok (.iaload, 1) := by decide +kernel
theorem dX8_about_61 : decode cX8_about 61 = .ok (.ireturn, 1) := by decide +kernel
theorem dX8_about_62 : decode cX8_about 62 = .ok (.aload_n 0, 1) := by decide +kernel
theorem dX8_about_63 : decode cX8_about 63 = .ok (.getfield 26, 3) := by decide +kernel
theorem dX8_about_66 : decode cX8_about 66 = .ok (.iload_n 1, 1) := by decide +kernel
theorem dX8_about_67 : decode cX8_about 67 = .ok (.invokevirtual 141, 3) := by decide +kernel
theorem dX8_about_70 : decode cX8_about 70 = .ok (.ireturn, 1) := by decide +kernel
theorem dX8_about_71 : decode cX8_about 71 = .ok (.aload_n 0, 1) := by decide +kernel
theorem dX8_about_72 : decode cX8_about 72 = .ok (.getfield 26, 3) := by decide +kernel
theorem dX8_about_75 : decode cX8_about 75 = .ok (.getfield 144, 3) := by decide +kernel
theorem dX8_about_78 : decode cX8_about 78 = .ok (.iload_n 1, 1) := by decide +kernel
theorem dX8_about_79 : decode cX8_about 79 = .ok (.iaload, 1) := by decide +kernel
theorem dX8_about_80 : decode cX8_about 80 = .ok (.ireturn, 1) := by decide +kernel
theorem dX8_about_81 : decode cX8_about 81 = .ok (.aload_n 0, 1) := by decide +kernel
theorem dX8_about_82 : decode cX8_about 82 = .ok (.getfield 26, 3) := by decide +kernel
theorem dX8_about_85 : decode cX8_about 85 = .ok (.getfield 147, 3) := by decide +kernel
theorem dX8_about_88 : decode cX8_about 88 = .ok (.iload_n 1, 1) := by decide +kernel
theorem dX8_about_89 : decode cX8_about 89 = .ok (.iaload, 1) := by decide +kernel
theorem dX8_about_90 : decode cX8_about 90 = .ok (.ireturn, 1) := by decide +kernel
theorem dX8_owes_0 : decode cX8_owes 0 = .ok (.aload_n 0, 1) := by decide +kernel
theorem dX8_owes_1 : decode cX8_owes 1 = .ok (.iload_n 1, 1) := by decide +kernel
theorem dX8_owes_2 : decode cX8_owes 2 = .ok (.iload_n 2, 1) := by decide +kernel
theorem dX8_owes_3 : decode cX8_owes 3 = .ok (.invokevirtual 115, 3) := by decide +kernel
theorem dX8_owes_6 : decode cX8_owes 6 = .ok (.ifCond .ne 6, 3) := by decide +kernel
theorem dX8_owes_9 : decode cX8_owes 9 = .ok (.bipush (-101), 2) := by decide +kernel
theorem dX8_owes_11 : decode cX8_owes 11 = .ok (.ireturn, 1) := by decide +kernel
theorem dX8_owes_12 : decode cX8_owes 12 = .ok (.aload_n 0, 1) := by decide +kernel
theorem dX8_owes_13 : decode cX8_owes 13 = .ok (.getfield 26, 3) := by decide +kernel
theorem dX8_owes_16 : decode cX8_owes 16 = .ok (.getfield 150, 3) := by decide +kernel
theorem dX8_owes_19 : decode cX8_owes 19 = .ok (.iload_n 1, 1) := by decide +kernel
theorem dX8_owes_20 : decode cX8_owes 20 = .ok (.iload_n 2, 1) := by decide +kernel
theorem dX8_owes_21 : decode cX8_owes 21 = .ok (.invokestatic 130, 3) := by decide +kernel
theorem dX8_owes_24 : decode cX8_owes 24 = .ok (.iaload, 1) := by decide +kernel
theorem dX8_owes_25 : decode cX8_owes 25 = .ok (.ireturn, 1) := by decide +kernel
theorem dX8_rest_0 : decode cX8_rest 0 = .ok (.aload_n 0, 1) := by decide +kernel
theorem dX8_rest_1 : decode cX8_rest 1 = .ok (.iload_n 1, 1) := by decide +kernel
theorem dX8_rest_2 : decode cX8_rest 2 = .ok (.invokevirtual 134, 3) := by decide +kernel
theorem dX8_rest_5 : decode cX8_rest 5 = .ok (.ifCond .ne 6, 3) := by decide +kernel
theorem dX8_rest_8 : decode cX8_rest 8 = .ok (.ldc 153, 2) := by decide +kernel
theorem dX8_rest_10 : decode cX8_rest 10 = .ok (.ireturn, 1) := by decide +kernel
theorem dX8_rest_11 : decode cX8_rest 11 = .ok (.aload_n 0, 1) := by decide +kernel
theorem dX8_rest_12 : decode cX8_rest 12 = .ok (.getfield 26, 3) := by decide +kernel
theorem dX8_rest_15 : decode cX8_rest 15 = .ok (.iload_n 1, 1) := by decide +kernel
theorem dX8_rest_16 : decode cX8_rest 16 = .ok (.invokevirtual 154, 3) := by decide +kernel
theorem dX8_rest_19 : decode cX8_rest 19 = .ok (.ireturn, 1) := by decide +kernel
theorem dX8_gift_0 : decode cX8_gift 0 = .ok (.iload_n 1, 1) := by decide +kernel
theorem dX8_gift_1 : decode cX8_gift 1 = .ok (.iconst 0, 1) := by decide +kernel
theorem dX8_gift_2 : decode cX8_gift 2 = .ok (.iconst 4, 1) := by decide +kernel
theorem dX8_gift_3 : decode cX8_gift 3 = .ok (.invokestatic 91, 3) := by decide +kernel
theorem dX8_gift_6 : decode cX8_gift 6 = .ok (.ifCond .ne 6, 3) := by decide +kernel
theorem dX8_gift_9 : decode cX8_gift 9 = .ok (.bipush (-102), 2) := by decide +kernel
theorem dX8_gift_11 : decode cX8_gift 11 = .ok (.ireturn, 1) := by decide +kernel
theorem dX8_gift_12 : decode cX8_gift 12 = .ok (.aload_n 0, 1) := by decide +kernel
theorem dX8_gift_13 : decode cX8_gift 13 = .ok (.iload_n 2, 1) := by decide +kernel
theorem dX8_gift_14 : decode cX8_gift 14 = .ok (.invokevirtual 134, 3) := by decide +kernel
theorem dX8_gift_17 : decode cX8_gift 17 = .ok (.ifCond .ne 6, 3) := by decide +kernel
theorem dX8_gift_20 : decode cX8_gift 20 = .ok (.bipush (-101), 2) := by decide +kernel
theorem dX8_gift_22 : decode cX8_gift 22 = .ok (.ireturn, 1) := by decide +kernel
theorem dX8_gift_23 : decode cX8_gift 23 = .ok (.aload_n 0, 1) := by decide +kernel
theorem dX8_gift_24 : decode cX8_gift 24 = .ok (.getfield 26, 3) := by decide +kernel
theorem dX8_gift_27 : decode cX8_gift 27 = .ok (.getfield 157, 3) := by decide +kernel
theorem dX8_gift_30 : decode cX8_gift 30 = .ok (.bipush 8, 2) := by decide +kernel
theorem dX8_gift_32 : decode cX8_gift 32 = .ok (.if_icmp .lt 6, 3) := by decide +kernel
theorem dX8_gift_35 : decode cX8_gift 35 = .ok (.bipush (-104), 2) := by decide +kernel
theorem dX8_gift_37 : decode cX8_gift 37 = .ok (.ireturn, 1) := by decide +kernel
theorem dX8_gift_38 : decode cX8_gift 38 = .ok (.aload_n 0, 1) := by decide +kernel
theorem dX8_gift_39 : decode cX8_gift 39 = .ok (.getfield 26, 3) := by decide +kernel
theorem dX8_gift_42 : decode cX8_gift 42 = .ok (.iload_n 1, 1) := by decide +kernel
theorem dX8_gift_43 : decode cX8_gift 43 = .ok (.iload_n 2, 1) := by decide +kernel
theorem dX8_gift_44 : decode cX8_gift 44 = .ok (.invokevirtual 160, 3) := by decide +kernel
theorem dX8_gift_47 : decode cX8_gift 47 = .ok (.ireturn, 1) := by decide +kernel
theorem dX8_told_0 : decode cX8_told 0 = .ok (.aload_n 0, 1) := by decide +kernel
theorem dX8_told_1 : decode cX8_told 1 = .ok (.iload_n 1, 1) := by decide +kernel
theorem dX8_told_2 : decode cX8_told 2 = .ok (.invokevirtual 163, 3) := by decide +kernel
theorem dX8_told_5 : decode cX8_told 5 = .ok (.ifCond .ne 6, 3) := by decide +kernel
theorem dX8_told_8 : decode cX8_told 8 = .ok (.bipush (-101), 2) := by decide +kernel
theorem dX8_told_10 : decode cX8_told 10 = .ok (.ireturn, 1) := by decide +kernel
theorem dX8_told_11 : decode cX8_told 11 = .ok (.iload_n 2, 1) := by decide +kernel
theorem dX8_told_12 : decode cX8_told 12 = .ok (.iconst 0, 1) := by decide +kernel
theorem dX8_told_13 : decode cX8_told 13 = .ok (.bipush 8, 2) := by decide +kernel
theorem dX8_told_15 : decode cX8_told 15 = .ok (.invokestatic 91, 3) := by decide +kernel
theorem dX8_told_18 : decode cX8_told 18 = .ok (.ifCond .ne 6, 3) := by decide +kernel
theorem dX8_told_21 : decode cX8_told 21 = .ok (.bipush (-102), 2) := by decide +kernel
theorem dX8_told_23 : decode cX8_told 23 = .ok (.ireturn, 1) := by decide +kernel
theorem dX8_told_24 : decode cX8_told 24 = .ok (.aload_n 0, 1) := by decide +kernel
theorem dX8_told_25 : decode cX8_told 25 = .ok (.getfield 26, 3) := by decide +kernel
theorem dX8_told_28 : decode cX8_told 28 = .ok (.getfield 166, 3) := by decide +kernel
theorem dX8_told_31 : decode cX8_told 31 = .ok (.iload_n 1, 1) := by decide +kernel
theorem dX8_told_32 : decode cX8_told 32 = .ok (.aaload, 1) := by decide +kernel
theorem dX8_told_33 : decode cX8_told 33 = .ok (.astore_n 3, 1) := by decide +kernel
theorem dX8_told_34 : decode cX8_told 34 = .ok (.iload_n 2, 1) := by decide +kernel
theorem dX8_told_35 : decode cX8_told 35 = .ok (.tableswitch 85 0 7 #[45, 50, 55, 60, 65, 70, 75, 80], 45) := by decide +kernel
theorem dX8_told_80 : decode cX8_told 80 = .ok (.aload_n 3, 1) := by decide +kernel
theorem dX8_told_81 : decode cX8_told 81 = .ok (.getfield 170, 3) := by decide +kernel
theorem dX8_told_84 : decode cX8_told 84 = .ok (.ireturn, 1) := by decide +kernel
theorem dX8_told_85 : decode cX8_told 85 = .ok (.aload_n 3, 1) := by decide +kernel
theorem dX8_told_86 : decode cX8_told 86 = .ok (.getfield 175, 3) := by decide +kernel
theorem dX8_told_89 : decode cX8_told 89 = .ok (.ireturn, 1) := by decide +kernel
theorem dX8_told_90 : decode cX8_told 90 = .ok (.aload_n 3, 1) := by decide +kernel
theorem dX8_told_91 : decode cX8_told 91 = .ok (.getfield 178, 3) := by decide +kernel
theorem dX8_told_94 : decode cX8_told 94 = .ok (.ireturn, 1) := by decide +kernel
theorem dX8_told_95 : decode cX8_told 95 = .ok (.aload_n 3, 1) := by decide +kernel
theorem dX8_told_96 : decode cX8_told 96 = .ok (.getfield 181, 3) := by decide +kernel
theorem dX8_told_99 : decode cX8_told 99 = .ok (.ireturn, 1) := by decide +kernel
theorem dX8_told_100 : decode cX8_told 100 = .ok (.aload_n 3, 1) := by decide +kernel
theorem dX8_told_101 : decode cX8_told 101 = .ok (.getfield 184, 3) := by decide +kernel
theorem dX8_told_104 : decode cX8_told 104 = .ok (.ireturn, 1) := by decide +kernel
theorem dX8_told_105 : decode cX8_told 105 = .ok (.aload_n 3, 1) := by decide +kernel
theorem dX8_told_106 : decode cX8_told 106 = .ok (.getfield 187, 3) := by decide +kernel
theorem dX8_told_109 : decode cX8_told 109 = .ok (.ireturn, 1) := by decide +kernel
theorem dX8_told_110 : decode cX8_told 110 = .ok (.aload_n 3, 1) := by decide +kernel
theorem dX8_told_111 : decode cX8_told 111 = .ok (.invokevirtual 190, 3) := by decide +kernel
theorem dX8_told_114 : decode cX8_told 114 = .ok (.ireturn, 1) := by decide +kernel
theorem dX8_told_115 : decode cX8_told 115 = .ok (.aload_n 3, 1) := by decide +kernel
theorem dX8_told_116 : decode cX8_told 116 = .ok (.getfield 193, 3) := by decide +kernel
theorem dX8_told_119 : decode cX8_told 119 = .ok (.ireturn, 1) := by decide +kernel
theorem dX8_told_120 : decode cX8_told 120 = .ok (.aload_n 3, 1) := by decide +kernel
theorem dX8_told_121 : decode cX8_told 121 = .ok (.getfield 196, 3) := by decide +kernel
theorem dX8_told_124 : decode cX8_told 124 = .ok (.ireturn, 1) := by decide +kernel
theorem dX8_as_0 : decode cX8_as 0 = .ok (.aload_n 0, 1) := by decide +kernel
theorem dX8_as_1 : decode cX8_as 1 = .ok (.iload_n 1, 1) := by decide +kernel
theorem dX8_as_2 : decode cX8_as 2 = .ok (.invokevirtual 163, 3) := by decide +kernel
theorem dX8_as_5 : decode cX8_as 5 = .ok (.ifCond .ne 6, 3) := by decide +kernel
theorem dX8_as_8 : decode cX8_as 8 = .ok (.bipush (-101), 2) := by decide +kernel
theorem dX8_as_10 : decode cX8_as 10 = .ok (.ireturn, 1) := by decide +kernel
theorem dX8_as_11 : decode cX8_as 11 = .ok (.iload_n 2, 1) := by decide +kernel
theorem dX8_as_12 : decode cX8_as 12 = .ok (.iconst 0, 1) := by decide +kernel
theorem dX8_as_13 : decode cX8_as 13 = .ok (.iconst 4, 1) := by decide +kernel
theorem dX8_as_14 : decode cX8_as 14 = .ok (.invokestatic 91, 3) := by decide +kernel
theorem dX8_as_17 : decode cX8_as 17 = .ok (.ifCond .ne 6, 3) := by decide +kernel
theorem dX8_as_20 : decode cX8_as 20 = .ok (.bipush (-102), 2) := by decide +kernel
theorem dX8_as_22 : decode cX8_as 22 = .ok (.ireturn, 1) := by decide +kernel
theorem dX8_as_23 : decode cX8_as 23 = .ok (.aload_n 0, 1) := by decide +kernel
theorem dX8_as_24 : decode cX8_as 24 = .ok (.getfield 26, 3) := by decide +kernel
theorem dX8_as_27 : decode cX8_as 27 = .ok (.getfield 166, 3) := by decide +kernel
theorem dX8_as_30 : decode cX8_as 30 = .ok (.iload_n 1, 1) := by decide +kernel
theorem dX8_as_31 : decode cX8_as 31 = .ok (.aaload, 1) := by decide +kernel
theorem dX8_as_32 : decode cX8_as 32 = .ok (.iload_n 2, 1) := by decide +kernel
theorem dX8_as_33 : decode cX8_as 33 = .ok (.invokevirtual 199, 3) := by decide +kernel
theorem dX8_as_36 : decode cX8_as 36 = .ok (.ifCond .eq 7, 3) := by decide +kernel
theorem dX8_as_39 : decode cX8_as 39 = .ok (.iload_n 1, 1) := by decide +kernel
theorem dX8_as_40 : decode cX8_as 40 = .ok (.goto 4, 3) := by decide +kernel
theorem dX8_as_43 : decode cX8_as 43 = .ok (.iconst (-1), 1) := by decide +kernel
theorem dX8_as_44 : decode cX8_as 44 = .ok (.ireturn, 1) := by decide +kernel
theorem dX8_may_0 : decode cX8_may 0 = .ok (.aload_n 0, 1) := by decide +kernel
theorem dX8_may_1 : decode cX8_may 1 = .ok (.iload_n 1, 1) := by decide +kernel
theorem dX8_may_2 : decode cX8_may 2 = .ok (.invokevirtual 163, 3) := by decide +kernel
theorem dX8_may_5 : decode cX8_may 5 = .ok (.ifCond .ne 6, 3) := by decide +kernel
theorem dX8_may_8 : decode cX8_may 8 = .ok (.bipush (-101), 2) := by decide +kernel
theorem dX8_may_10 : decode cX8_may 10 = .ok (.ireturn, 1) := by decide +kernel
theorem dX8_may_11 : decode cX8_may 11 = .ok (.aload_n 0, 1) := by decide +kernel
theorem dX8_may_12 : decode cX8_may 12 = .ok (.getfield 26, 3) := by decide +kernel
theorem dX8_may_15 : decode cX8_may 15 = .ok (.getfield 166, 3) := by decide +kernel
theorem dX8_may_18 : decode cX8_may 18 = .ok (.iload_n 1, 1) := by decide +kernel
theorem dX8_may_19 : decode cX8_may 19 = .ok (.aaload, 1) := by decide +kernel
theorem dX8_may_20 : decode cX8_may 20 = .ok (.invokevirtual 202, 3) := by decide +kernel
theorem dX8_may_23 : decode cX8_may 23 = .ok (.ifCond .ne 6, 3) := by decide +kernel
theorem dX8_may_26 : decode cX8_may 26 = .ok (.bipush (-103), 2) := by decide +kernel
theorem dX8_may_28 : decode cX8_may 28 = .ok (.ireturn, 1) := by decide +kernel
theorem dX8_may_29 : decode cX8_may 29 = .ok (.aload_n 0, 1) := by decide +kernel
theorem dX8_may_30 : decode cX8_may 30 = .ok (.iload_n 1, 1) := by decide +kernel
theorem dX8_may_31 : decode cX8_may 31 = .ok (.invokevirtual 205, 3) := by decide +kernel
theorem dX8_may_34 : decode cX8_may 34 = .ok (.ireturn, 1) := by decide +kernel
theorem dX8_give_0 : decode cX8_give 0 = .ok (.aload_n 0, 1) := by decide +kernel
theorem dX8_give_1 : decode cX8_give 1 = .ok (.iload_n 1, 1) := by decide +kernel
theorem dX8_give_2 : decode cX8_give 2 = .ok (.invokevirtual 163, 3) := by decide +kernel
theorem dX8_give_5 : decode cX8_give 5 = .ok (.ifCond .eq 11, 3) := by decide +kernel
theorem dX8_give_8 : decode cX8_give 8 = .ok (.aload_n 0, 1) := by decide +kernel
theorem dX8_give_9 : decode cX8_give 9 = .ok (.iload_n 2, 1) := by decide +kernel
theorem dX8_give_10 : decode cX8_give 10 = .ok (.invokevirtual 134, 3) := by decide +kernel
theorem dX8_give_13 : decode cX8_give 13 = .ok (.ifCond .ne 6, 3) := by decide +kernel
theorem dX8_give_16 : decode cX8_give 16 = .ok (.bipush (-101), 2) := by decide +kernel
theorem dX8_give_18 : decode cX8_give 18 = .ok (.ireturn, 1) := by decide +kernel
theorem dX8_give_19 : decode cX8_give 19 = .ok (.aload_n 0, 1) := by decide +kernel
theorem dX8_give_20 : decode cX8_give 20 = .ok (.getfield 26, 3) := by decide +kernel
theorem dX8_give_23 : decode cX8_give 23 = .ok (.getfield 166, 3) := by decide +kernel
theorem dX8_give_26 : decode cX8_give 26 = .ok (.iload_n 1, 1) := by decide +kernel
theorem dX8_give_27 : decode cX8_give 27 = .ok (.aaload, 1) := by decide +kernel
theorem dX8_give_28 : decode cX8_give 28 = .ok (.invokevirtual 202, 3) := by decide +kernel
theorem dX8_give_31 : decode cX8_give 31 = .ok (.ifCond .ne 6, 3) := by decide +kernel
theorem dX8_give_34 : decode cX8_give 34 = .ok (.bipush (-103), 2) := by decide +kernel
theorem dX8_give_36 : decode cX8_give 36 = .ok (.ireturn, 1) := by decide +kernel
theorem dX8_give_37 : decode cX8_give 37 = .ok (.aload_n 0, 1) := by decide +kernel
theorem dX8_give_38 : decode cX8_give 38 = .ok (.iload_n 1, 1) := by decide +kernel
theorem dX8_give_39 : decode cX8_give 39 = .ok (.invokevirtual 205, 3) := by decide +kernel
theorem dX8_give_42 : decode cX8_give 42 = .ok (.iload_n 2, 1) := by decide +kernel
theorem dX8_give_43 : decode cX8_give 43 = .ok (.invokestatic 208, 3) := by decide +kernel
theorem dX8_give_46 : decode cX8_give 46 = .ok (.iand, 1) := by decide +kernel
theorem dX8_give_47 : decode cX8_give 47 = .ok (.ifCond .ne 6, 3) := by decide +kernel
theorem dX8_give_50 : decode cX8_give 50 = .ok (.bipush (-103), 2) := by decide +kernel
theorem dX8_give_52 : decode cX8_give 52 = .ok (.ireturn, 1) := by decide +kernel
theorem dX8_give_53 : decode cX8_give 53 = .ok (.aload_n 0, 1) := by decide +kernel
theorem dX8_give_54 : decode cX8_give 54 = .ok (.getfield 26, 3) := by decide +kernel
theorem dX8_give_57 : decode cX8_give 57 = .ok (.aload_n 0, 1) := by decide +kernel
theorem dX8_give_58 : decode cX8_give 58 = .ok (.getfield 26, 3) := by decide +kernel
theorem dX8_give_61 : decode cX8_give 61 = .ok (.getfield 166, 3) := by decide +kernel
theorem dX8_give_64 : decode cX8_give 64 = .ok (.iload_n 1, 1) := by decide +kernel
theorem dX8_give_65 : decode cX8_give 65 = .ok (.aaload, 1) := by decide +kernel
theorem dX8_give_66 : decode cX8_give 66 = .ok (.iload_n 2, 1) := by decide +kernel
theorem dX8_give_67 : decode cX8_give 67 = .ok (.aload_n 0, 1) := by decide +kernel
theorem dX8_give_68 : decode cX8_give 68 = .ok (.getfield 19, 3) := by decide +kernel
theorem dX8_give_71 : decode cX8_give 71 = .ok (.getfield 105, 3) := by decide +kernel
theorem dX8_give_74 : decode cX8_give 74 = .ok (.invokevirtual 211, 3) := by decide +kernel
theorem dX8_give_77 : decode cX8_give 77 = .ok (.aload_n 0, 1) := by decide +kernel
theorem dX8_give_78 : decode cX8_give 78 = .ok (.getfield 26, 3) := by decide +kernel
theorem dX8_give_81 : decode cX8_give 81 = .ok (.getfield 166, 3) := by decide +kernel
theorem dX8_give_84 : decode cX8_give 84 = .ok (.iload_n 1, 1) := by decide +kernel
theorem dX8_give_85 : decode cX8_give 85 = .ok (.aaload, 1) := by decide +kernel
theorem dX8_give_86 : decode cX8_give 86 = .ok (.getfield 193, 3) := by decide +kernel
theorem dX8_give_89 : decode cX8_give 89 = .ok (.ireturn, 1) := by decide +kernel
theorem dX8_years_0 : decode cX8_years 0 = .ok (.iload_n 1, 1) := by decide +kernel
theorem dX8_years_1 : decode cX8_years 1 = .ok (.iconst 1, 1) := by decide +kernel
theorem dX8_years_2 : decode cX8_years 2 = .ok (.bipush 30, 2) := by decide +kernel
theorem dX8_years_4 : decode cX8_years 4 = .ok (.invokestatic 91, 3) := by decide +kernel
theorem dX8_years_7 : decode cX8_years 7 = .ok (.ifCond .ne 6, 3) := by decide +kernel
theorem dX8_years_10 : decode cX8_years 10 = .ok (.bipush (-102), 2) := by decide +kernel
theorem dX8_years_12 : decode cX8_years 12 = .ok (.ireturn, 1) := by decide +kernel
theorem dX8_years_13 : decode cX8_years 13 = .ok (.iconst 0, 1) := by decide +kernel
theorem dX8_years_14 : decode cX8_years 14 = .ok (.istore_n 2, 1) := by decide +kernel
theorem dX8_years_15 : decode cX8_years 15 = .ok (.iconst 0, 1) := by decide +kernel
theorem dX8_years_16 : decode cX8_years 16 = .ok (.istore_n 3, 1) := by decide +kernel
theorem dX8_years_17 : decode cX8_years 17 = .ok (.iload_n 3, 1) := by decide +kernel
theorem dX8_years_18 : decode cX8_years 18 = .ok (.iload_n 1, 1) := by decide +kernel
theorem dX8_years_19 : decode cX8_years 19 = .ok (.if_icmp .ge 24, 3) := by decide +kernel
theorem dX8_years_22 : decode cX8_years 22 = .ok (.iload_n 2, 1) := by decide +kernel
theorem dX8_years_23 : decode cX8_years 23 = .ok (.aload_n 0, 1) := by decide +kernel
theorem dX8_years_24 : decode cX8_years 24 = .ok (.getfield 26, 3) := by decide +kernel
theorem dX8_years_27 : decode cX8_years 27 = .ok (.aload_n 0, 1) := by decide +kernel
theorem dX8_years_28 : decode cX8_years 28 = .ok (.getfield 19, 3) := by decide +kernel
theorem dX8_years_31 : decode cX8_years 31 = .ok (.aconst_null, 1) := by decide +kernel
theorem dX8_years_32 : decode cX8_years 32 = .ok (.invokevirtual 215, 3) := by decide +kernel
theorem dX8_years_35 : decode cX8_years 35 = .ok (.iadd, 1) := by decide +kernel
theorem dX8_years_36 : decode cX8_years 36 = .ok (.istore_n 2, 1) := by decide +kernel
theorem dX8_years_37 : decode cX8_years 37 = .ok (.iinc 3 1, 3) := by decide +kernel
theorem dX8_years_40 : decode cX8_years 40 = .ok (.goto (-23), 3) := by decide +kernel
theorem dX8_years_43 : decode cX8_years 43 = .ok (.iload_n 2, 1) := by decide +kernel
theorem dX8_years_44 : decode cX8_years 44 = .ok (.ireturn, 1) := by decide +kernel
theorem dX8_drawn_0 : decode cX8_drawn 0 = .ok (.iload_n 1, 1) := by decide +kernel
theorem dX8_drawn_1 : decode cX8_drawn 1 = .ok (.iconst 1, 1) := by decide +kernel
theorem dX8_drawn_2 : decode cX8_drawn 2 = .ok (.bipush 30, 2) := by decide +kernel
theorem dX8_drawn_4 : decode cX8_drawn 4 = .ok (.invokestatic 91, 3) := by decide +kernel
theorem dX8_drawn_7 : decode cX8_drawn 7 = .ok (.ifCond .ne 6, 3) := by decide +kernel
theorem dX8_drawn_10 : decode cX8_drawn 10 = .ok (.bipush (-102), 2) := by decide +kernel
theorem dX8_drawn_12 : decode cX8_drawn 12 = .ok (.ireturn, 1) := by decide +kernel
theorem dX8_drawn_13 : decode cX8_drawn 13 = .ok (.iload_n 2, 1) := by decide +kernel
theorem dX8_drawn_14 : decode cX8_drawn 14 = .ok (.ifCond .lt 12, 3) := by decide +kernel
theorem dX8_drawn_17 : decode cX8_drawn 17 = .ok (.iload_n 3, 1) := by decide +kernel
theorem dX8_drawn_18 : decode cX8_drawn 18 = .ok (.iconst 0, 1) := by decide +kernel
theorem dX8_drawn_19 : decode cX8_drawn 19 = .ok (.iconst 3, 1) := by decide +kernel
theorem dX8_drawn_20 : decode cX8_drawn 20 = .ok (.invokestatic 91, 3) := by decide +kernel
theorem dX8_drawn_23 : decode cX8_drawn 23 = .ok (.ifCond .ne 6, 3) := by decide +kernel
theorem dX8_drawn_26 : decode cX8_drawn 26 = .ok (.bipush (-102), 2) := by decide +kernel
theorem dX8_drawn_28 : decode cX8_drawn 28 = .ok (.ireturn, 1) := by decide +kernel
theorem dX8_drawn_29 : decode cX8_drawn 29 = .ok (.aload_n 0, 1) := by decide +kernel
theorem dX8_drawn_30 : decode cX8_drawn 30 = .ok (.getfield 33, 3) := by decide +kernel
theorem dX8_drawn_33 : decode cX8_drawn 33 = .ok (.aload_n 0, 1) := by decide +kernel
theorem dX8_drawn_34 : decode cX8_drawn 34 = .ok (.getfield 26, 3) := by decide +kernel
theorem dX8_drawn_37 : decode cX8_drawn 37 = .ok (.invokevirtual 265, 3) := by decide +kernel
theorem dX8_drawn_40 : decode cX8_drawn 40 = .ok (.aload_n 0, 1) := by decide +kernel
theorem dX8_drawn_41 : decode cX8_drawn 41 = .ok (.getfield 39, 3) := by decide +kernel
theorem dX8_drawn_44 : decode cX8_drawn 44 = .ok (.iload_n 2, 1) := by decide +kernel
theorem dX8_drawn_45 : decode cX8_drawn 45 = .ok (.i2l, 1) := by decide +kernel
theorem dX8_drawn_46 : decode cX8_drawn 46 = .ok (.putfield 268, 3) := by decide +kernel
theorem dX8_drawn_49 : decode cX8_drawn 49 = .ok (.iconst 0, 1) := by decide +kernel
theorem dX8_drawn_50 : decode cX8_drawn 50 = .ok (.istore 4, 2) := by decide +kernel
theorem dX8_drawn_52 : decode cX8_drawn 52 = .ok (.iconst 0, 1) := by decide +kernel
theorem dX8_drawn_53 : decode cX8_drawn 53 = .ok (.istore 5, 2) := by decide +kernel
theorem dX8_drawn_55 : decode cX8_drawn 55 = .ok (.iload 5, 2) := by decide +kernel
theorem dX8_drawn_57 : decode cX8_drawn 57 = .ok (.iload_n 1, 1) := by decide +kernel
theorem dX8_drawn_58 : decode cX8_drawn 58 = .ok (.if_icmp .ge 29, 3) := by decide +kernel
theorem dX8_drawn_61 : decode cX8_drawn 61 = .ok (.iload 4, 2) := by decide +kernel
theorem dX8_drawn_63 : decode cX8_drawn 63 = .ok (.aload_n 0, 1) := by decide +kernel
theorem dX8_drawn_64 : decode cX8_drawn 64 = .ok (.getfield 33, 3) := by decide +kernel
theorem dX8_drawn_67 : decode cX8_drawn 67 = .ok (.aload_n 0, 1) := by decide +kernel
theorem dX8_drawn_68 : decode cX8_drawn 68 = .ok (.getfield 19, 3) := by decide +kernel
theorem dX8_drawn_71 : decode cX8_drawn 71 = .ok (.aload_n 0, 1) := by decide +kernel
theorem dX8_drawn_72 : decode cX8_drawn 72 = .ok (.getfield 39, 3) := by decide +kernel
theorem dX8_drawn_75 : decode cX8_drawn 75 = .ok (.invokevirtual 215, 3) := by decide +kernel
theorem dX8_drawn_78 : decode cX8_drawn 78 = .ok (.iadd, 1) := by decide +kernel
theorem dX8_drawn_79 : decode cX8_drawn 79 = .ok (.istore 4, 2) := by decide +kernel
theorem dX8_drawn_81 : decode cX8_drawn 81 = .ok (.iinc 5 1, 3) := by decide +kernel
theorem dX8_drawn_84 : decode cX8_drawn 84 = .ok (.goto (-29), 3) := by decide +kernel
theorem dX8_drawn_87 : decode cX8_drawn 87 = .ok (.iload_n 3, 1) := by decide +kernel
theorem dX8_drawn_88 : decode cX8_drawn 88 = .ok (.tableswitch 55 0 2 #[28, 31, 39], 28) := by decide +kernel
theorem dX8_drawn_116 : decode cX8_drawn 116 = .ok (.iload 4, 2) := by decide +kernel
theorem dX8_drawn_118 : decode cX8_drawn 118 = .ok (.ireturn, 1) := by decide +kernel
theorem dX8_drawn_119 : decode cX8_drawn 119 = .ok (.aload_n 0, 1) := by decide +kernel
theorem dX8_drawn_120 : decode cX8_drawn 120 = .ok (.getfield 33, 3) := by decide +kernel
theorem dX8_drawn_123 : decode cX8_drawn 123 = .ok (.invokevirtual 272, 3) := by decide +kernel
theorem dX8_drawn_126 : decode cX8_drawn 126 = .ok (.ireturn, 1) := by decide +kernel
theorem dX8_drawn_127 : decode cX8_drawn 127 = .ok (.aload_n 0, 1) := by decide +kernel
theorem dX8_drawn_128 : decode cX8_drawn 128 = .ok (.getfield 33, 3) := by decide +kernel
theorem dX8_drawn_131 : decode cX8_drawn 131 = .ok (.invokevirtual 275, 3) := by decide +kernel
theorem dX8_drawn_134 : decode cX8_drawn 134 = .ok (.aload_n 0, 1) := by decide +kernel
theorem dX8_drawn_135 : decode cX8_drawn 135 = .ok (.getfield 26, 3) := by decide +kernel
theorem dX8_drawn_138 : decode cX8_drawn 138 = .ok (.invokevirtual 275, 3) := by decide +kernel
theorem dX8_drawn_141 : decode cX8_drawn 141 = .ok (.isub, 1) := by decide +kernel
theorem dX8_drawn_142 : decode cX8_drawn 142 = .ok (.ireturn, 1) := by decide +kernel
theorem dX8_drawn_143 : decode cX8_drawn 143 = .ok (.aload_n 0, 1) := by decide +kernel
theorem dX8_drawn_144 : decode cX8_drawn 144 = .ok (.getfield 39, 3) := by decide +kernel
theorem dX8_drawn_147 : decode cX8_drawn 147 = .ok (.getfield 268, 3) := by decide +kernel
theorem dX8_drawn_150 : decode cX8_drawn 150 = .ok (.l2i, 1) := by decide +kernel
theorem dX8_drawn_151 : decode cX8_drawn 151 = .ok (.ireturn, 1) := by decide +kernel
theorem dX8_count_0 : decode cX8_count 0 = .ok (.iload_n 1, 1) := by decide +kernel
theorem dX8_count_1 : decode cX8_count 1 = .ok (.iconst 0, 1) := by decide +kernel
theorem dX8_count_2 : decode cX8_count 2 = .ok (.bipush 6, 2) := by decide +kernel
theorem dX8_count_4 : decode cX8_count 4 = .ok (.invokestatic 91, 3) := by decide +kernel
theorem dX8_count_7 : decode cX8_count 7 = .ok (.ifCond .ne 6, 3) := by decide +kernel
theorem dX8_count_10 : decode cX8_count 10 = .ok (.bipush (-102), 2) := by decide +kernel
theorem dX8_count_12 : decode cX8_count 12 = .ok (.ireturn, 1) := by decide +kernel
theorem dX8_count_13 : decode cX8_count 13 = .ok (.iload_n 1, 1) := by decide +kernel
theorem dX8_count_14 : decode cX8_count 14 = .ok (.tableswitch 86 0 5 #[38, 46, 54, 62, 70, 78], 38) := by decide +kernel
theorem dX8_count_52 : decode cX8_count 52 = .ok (.aload_n 0, 1) := by decide +kernel
theorem dX8_count_53 : decode cX8_count 53 = .ok (.getfield 26, 3) := by decide +kernel
theorem dX8_count_56 : decode cX8_count 56 = .ok (.getfield 108, 3) := by decide +kernel
theorem dX8_count_59 : decode cX8_count 59 = .ok (.ireturn, 1) := by decide +kernel
theorem dX8_count_60 : decode cX8_count 60 = .ok (.aload_n 0, 1) := by decide +kernel
theorem dX8_count_61 : decode cX8_count 61 = .ok (.getfield 26, 3) := by decide +kernel
theorem dX8_count_64 : decode cX8_count 64 = .ok (.getfield 157, 3) := by decide +kernel
theorem dX8_count_67 : decode cX8_count 67 = .ok (.ireturn, 1) := by decide +kernel
theorem dX8_count_68 : decode cX8_count 68 = .ok (.aload_n 0, 1) := by decide +kernel
theorem dX8_count_69 : decode cX8_count 69 = .ok (.getfield 26, 3) := by decide +kernel
theorem dX8_count_72 : decode cX8_count 72 = .ok (.invokevirtual 272, 3) := by decide +kernel
theorem dX8_count_75 : decode cX8_count 75 = .ok (.ireturn, 1) := by decide +kernel
theorem dX8_count_76 : decode cX8_count 76 = .ok (.aload_n 0, 1) := by decide +kernel
theorem dX8_count_77 : decode cX8_count 77 = .ok (.getfield 26, 3) := by decide +kernel
theorem dX8_count_80 : decode cX8_count 80 = .ok (.getfield 299, 3) := by decide +kernel
theorem dX8_count_83 : decode cX8_count 83 = .ok (.ireturn, 1) := by decide +kernel
theorem dX8_count_84 : decode cX8_count 84 = .ok (.aload_n 0, 1) := by decide +kernel
theorem dX8_count_85 : decode cX8_count 85 = .ok (.getfield 26, 3) := by decide +kernel
theorem dX8_count_88 : decode cX8_count 88 = .ok (.invokevirtual 275, 3) := by decide +kernel
theorem dX8_count_91 : decode cX8_count 91 = .ok (.ireturn, 1) := by decide +kernel
theorem dX8_count_92 : decode cX8_count 92 = .ok (.aload_n 0, 1) := by decide +kernel
theorem dX8_count_93 : decode cX8_count 93 = .ok (.getfield 12, 3) := by decide +kernel
theorem dX8_count_96 : decode cX8_count 96 = .ok (.getfield 68, 3) := by decide +kernel
theorem dX8_count_99 : decode cX8_count 99 = .ok (.ireturn, 1) := by decide +kernel
theorem dX8_count_100 : decode cX8_count 100 = .ok (.aload_n 0, 1) := by decide +kernel
theorem dX8_count_101 : decode cX8_count 101 = .ok (.getfield 88, 3) := by decide +kernel
theorem dX8_count_104 : decode cX8_count 104 = .ok (.ireturn, 1) := by decide +kernel
theorem dX8_isPerson_0 : decode cX8_isPerson 0 = .ok (.iload_n 1, 1) := by decide +kernel
theorem dX8_isPerson_1 : decode cX8_isPerson 1 = .ok (.ifCond .lt 18, 3) := by decide +kernel
theorem dX8_isPerson_4 : decode cX8_isPerson 4 = .ok (.iload_n 1, 1) := by decide +kernel
theorem dX8_isPerson_5 : decode cX8_isPerson 5 = .ok (.aload_n 0, 1) := by decide +kernel
theorem dX8_isPerson_6 : decode cX8_isPerson 6 = .ok (.getfield 26, 3) := by decide +kernel
theorem dX8_isPerson_9 : decode cX8_isPerson 9 = .ok (.getfield 108, 3) := by decide +kernel
theorem dX8_isPerson_12 : decode cX8_isPerson 12 = .ok (.if_icmp .ge 7, 3) := by decide +kernel
theorem dX8_isPerson_15 : decode cX8_isPerson 15 = .ok (.iconst 1, 1) := by decide +kernel
theorem dX8_isPerson_16 : decode cX8_isPerson 16 = .ok (.goto 4, 3) := by decide +kernel
theorem dX8_isPerson_19 : decode cX8_isPerson 19 = .ok (.iconst 0, 1) := by decide +kernel
theorem dX8_isPerson_20 : decode cX8_isPerson 20 = .ok (.ireturn, 1) := by decide +kernel
theorem dX8_areTwo_0 : decode cX8_areTwo 0 = .ok (.aload_n 0, 1) := by decide +kernel
theorem dX8_areTwo_1 : decode cX8_areTwo 1 = .ok (.iload_n 1, 1) := by decide +kernel
theorem dX8_areTwo_2 : decode cX8_areTwo 2 = .ok (.invokevirtual 134, 3) := by decide +kernel
theorem dX8_areTwo_5 : decode cX8_areTwo 5 = .ok (.ifCond .eq 20, 3) := by decide +kernel
theorem dX8_areTwo_8 : decode cX8_areTwo 8 = .ok (.aload_n 0, 1) := by decide +kernel
theorem dX8_areTwo_9 : decode cX8_areTwo 9 = .ok (.iload_n 2, 1) := by decide +kernel
theorem dX8_areTwo_10 : decode cX8_areTwo 10 = .ok (.invokevirtual 134, 3) := by decide +kernel
theorem dX8_areTwo_13 : decode cX8_areTwo 13 = .ok (.ifCond .eq 12, 3) := by decide +kernel
theorem dX8_areTwo_16 : decode cX8_areTwo 16 = .ok (.iload_n 1, 1) := by decide +kernel
theorem dX8_areTwo_17 : decode cX8_areTwo 17 = .ok (.iload_n 2, 1) := by decide +kernel
theorem dX8_areTwo_18 : decode cX8_areTwo 18 = .ok (.if_icmp .eq 7, 3) := by decide +kernel
theorem dX8_areTwo_21 : decode cX8_areTwo 21 = .ok (.iconst 1, 1) := by decide +kernel
theorem dX8_areTwo_22 : decode cX8_areTwo 22 = .ok (.goto 4, 3) := by decide +kernel
theorem dX8_areTwo_25 : decode cX8_areTwo 25 = .ok (.iconst 0, 1) := by decide +kernel
theorem dX8_areTwo_26 : decode cX8_areTwo 26 = .ok (.ireturn, 1) := by decide +kernel
theorem dX8_isGift_0 : decode cX8_isGift 0 = .ok (.iload_n 1, 1) := by decide +kernel
theorem dX8_isGift_1 : decode cX8_isGift 1 = .ok (.ifCond .lt 18, 3) := by decide +kernel
theorem dX8_isGift_4 : decode cX8_isGift 4 = .ok (.iload_n 1, 1) := by decide +kernel
theorem dX8_isGift_5 : decode cX8_isGift 5 = .ok (.aload_n 0, 1) := by decide +kernel
theorem dX8_isGift_6 : decode cX8_isGift 6 = .ok (.getfield 26, 3) := by decide +kernel
theorem dX8_isGift_9 : decode cX8_isGift 9 = .ok (.getfield 157, 3) := by decide +kernel
theorem dX8_isGift_12 : decode cX8_isGift 12 = .ok (.if_icmp .ge 7, 3) := by decide +kernel
theorem dX8_isGift_15 : decode cX8_isGift 15 = .ok (.iconst 1, 1) := by decide +kernel
theorem dX8_isGift_16 : decode cX8_isGift 16 = .ok (.goto 4, 3) := by decide +kernel
theorem dX8_isGift_19 : decode cX8_isGift 19 = .ok (.iconst 0, 1) := by decide +kernel
theorem dX8_isGift_20 : decode cX8_isGift 20 = .ok (.ireturn, 1) := by decide +kernel
theorem dX8_whoMayHave_0 : decode cX8_whoMayHave 0 = .ok (.aload_n 0, 1) := by decide +kernel
theorem dX8_whoMayHave_1 : decode cX8_whoMayHave 1 = .ok (.getfield 26, 3) := by decide +kernel
theorem dX8_whoMayHave_4 : decode cX8_whoMayHave 4 = .ok (.getfield 166, 3) := by decide +kernel
theorem dX8_whoMayHave_7 : decode cX8_whoMayHave 7 = .ok (.iload_n 1, 1) := by decide +kernel
theorem dX8_whoMayHave_8 : decode cX8_whoMayHave 8 = .ok (.aaload, 1) := by decide +kernel
theorem dX8_whoMayHave_9 : decode cX8_whoMayHave 9 = .ok (.astore_n 2, 1) := by decide +kernel
theorem dX8_whoMayHave_10 : decode cX8_whoMayHave 10 = .ok (.aload_n 0, 1) := by decide +kernel
theorem dX8_whoMayHave_11 : decode cX8_whoMayHave 11 = .ok (.getfield 26, 3) := by decide +kernel
theorem dX8_whoMayHave_14 : decode cX8_whoMayHave 14 = .ok (.aload_n 2, 1) := by decide +kernel
theorem dX8_whoMayHave_15 : decode cX8_whoMayHave 15 = .ok (.getfield 181, 3) := by decide +kernel
theorem dX8_whoMayHave_18 : decode cX8_whoMayHave 18 = .ok (.aload_n 2, 1) := by decide +kernel
theorem dX8_whoMayHave_19 : decode cX8_whoMayHave 19 = .ok (.getfield 178, 3) := by decide +kernel
theorem dX8_whoMayHave_22 : decode cX8_whoMayHave 22 = .ok (.aload_n 0, 1) := by decide +kernel
theorem dX8_whoMayHave_23 : decode cX8_whoMayHave 23 = .ok (.getfield 19, 3) := by decide +kernel
theorem dX8_whoMayHave_26 : decode cX8_whoMayHave 26 = .ok (.getfield 98, 3) := by decide +kernel
theorem dX8_whoMayHave_29 : decode cX8_whoMayHave 29 = .ok (.invokevirtual 347, 3) := by decide +kernel
theorem dX8_whoMayHave_32 : decode cX8_whoMayHave 32 = .ok (.ireturn, 1) := by decide +kernel
theorem dX8_within_0 : decode cX8_within 0 = .ok (.iload_n 0, 1) := by decide +kernel
theorem dX8_within_1 : decode cX8_within 1 = .ok (.iload_n 1, 1) := by decide +kernel
theorem dX8_within_2 : decode cX8_within 2 = .ok (.if_icmp .lt 12, 3) := by decide +kernel
theorem dX8_within_5 : decode cX8_within 5 = .ok (.iload_n 0, 1) := by decide +kernel
theorem dX8_within_6 : decode cX8_within 6 = .ok (.iload_n 2, 1) := by decide +kernel
theorem dX8_within_7 : decode cX8_within 7 = .ok (.if_icmp .gt 7, 3) := by decide +kernel
theorem dX8_within_10 : decode cX8_within 10 = .ok (.iconst 1, 1) := by decide +kernel
theorem dX8_within_11 : decode cX8_within 11 = .ok (.goto 4, 3) := by decide +kernel
theorem dX8_within_14 : decode cX8_within 14 = .ok (.iconst 0, 1) := by decide +kernel
theorem dX8_within_15 : decode cX8_within 15 = .ok (.ireturn, 1) := by decide +kernel
theorem dX8_pair_0 : decode cX8_pair 0 = .ok (.iload_n 0, 1) := by decide +kernel
theorem dX8_pair_1 : decode cX8_pair 1 = .ok (.bipush 8, 2) := by decide +kernel
theorem dX8_pair_3 : decode cX8_pair 3 = .ok (.imul, 1) := by decide +kernel
theorem dX8_pair_4 : decode cX8_pair 4 = .ok (.iload_n 1, 1) := by decide +kernel
theorem dX8_pair_5 : decode cX8_pair 5 = .ok (.iadd, 1) := by decide +kernel
theorem dX8_pair_6 : decode cX8_pair 6 = .ok (.ireturn, 1) := by decide +kernel
theorem dX8_bit_0 : decode cX8_bit 0 = .ok (.iload_n 0, 1) := by decide +kernel
theorem dX8_bit_1 : decode cX8_bit 1 = .ok (.iconst (-1), 1) := by decide +kernel
theorem dX8_bit_2 : decode cX8_bit 2 = .ok (.if_icmp .ne 7, 3) := by decide +kernel
theorem dX8_bit_5 : decode cX8_bit 5 = .ok (.iconst 0, 1) := by decide +kernel
theorem dX8_bit_6 : decode cX8_bit 6 = .ok (.goto 6, 3) := by decide +kernel
theorem dX8_bit_9 : decode cX8_bit 9 = .ok (.iconst 1, 1) := by decide +kernel
theorem dX8_bit_10 : decode cX8_bit 10 = .ok (.iload_n 0, 1) := by decide +kernel
theorem dX8_bit_11 : decode cX8_bit 11 = .ok (.ishl, 1) := by decide +kernel
theorem dX8_bit_12 : decode cX8_bit 12 = .ok (.ireturn, 1) := by decide +kernel
theorem dJ6_bitCount_0f7a4_0 : decode cJ6_bitCount_0f7a4 0 = .ok (.iload_n 0, 1) := by decide +kernel
theorem dJ6_bitCount_0f7a4_1 : decode cJ6_bitCount_0f7a4 1 = .ok (.iload_n 0, 1) := by decide +kernel
theorem dJ6_bitCount_0f7a4_2 : decode cJ6_bitCount_0f7a4 2 = .ok (.iconst 1, 1) := by decide +kernel
theorem dJ6_bitCount_0f7a4_3 : decode cJ6_bitCount_0f7a4 3 = .ok (.iushr, 1) := by decide +kernel
theorem dJ6_bitCount_0f7a4_4 : decode cJ6_bitCount_0f7a4 4 = .ok (.ldc_w 265, 3) := by decide +kernel
theorem dJ6_bitCount_0f7a4_7 : decode cJ6_bitCount_0f7a4 7 = .ok (.iand, 1) := by decide +kernel
theorem dJ6_bitCount_0f7a4_8 : decode cJ6_bitCount_0f7a4 8 = .ok (.isub, 1) := by decide +kernel
theorem dJ6_bitCount_0f7a4_9 : decode cJ6_bitCount_0f7a4 9 = .ok (.istore_n 0, 1) := by decide +kernel
theorem dJ6_bitCount_0f7a4_10 : decode cJ6_bitCount_0f7a4 10 = .ok (.iload_n 0, 1) := by decide +kernel
theorem dJ6_bitCount_0f7a4_11 : decode cJ6_bitCount_0f7a4 11 = .ok (.ldc_w 266, 3) := by decide +kernel
theorem dJ6_bitCount_0f7a4_14 : decode cJ6_bitCount_0f7a4 14 = .ok (.iand, 1) := by decide +kernel
theorem dJ6_bitCount_0f7a4_15 : decode cJ6_bitCount_0f7a4 15 = .ok (.iload_n 0, 1) := by decide +kernel
theorem dJ6_bitCount_0f7a4_16 : decode cJ6_bitCount_0f7a4 16 = .ok (.iconst 2, 1) := by decide +kernel
theorem dJ6_bitCount_0f7a4_17 : decode cJ6_bitCount_0f7a4 17 = .ok (.iushr, 1) := by decide +kernel
theorem dJ6_bitCount_0f7a4_18 : decode cJ6_bitCount_0f7a4 18 = .ok (.ldc_w 266, 3) := by decide +kernel
theorem dJ6_bitCount_0f7a4_21 : decode cJ6_bitCount_0f7a4 21 = .ok (.iand, 1) := by decide +kernel
theorem dJ6_bitCount_0f7a4_22 : decode cJ6_bitCount_0f7a4 22 = .ok (.iadd, 1) := by decide +kernel
theorem dJ6_bitCount_0f7a4_23 : decode cJ6_bitCount_0f7a4 23 = .ok (.istore_n 0, 1) := by decide +kernel
theorem dJ6_bitCount_0f7a4_24 : decode cJ6_bitCount_0f7a4 24 = .ok (.iload_n 0, 1) := by decide +kernel
theorem dJ6_bitCount_0f7a4_25 : decode cJ6_bitCount_0f7a4 25 = .ok (.iload_n 0, 1) := by decide +kernel
theorem dJ6_bitCount_0f7a4_26 : decode cJ6_bitCount_0f7a4 26 = .ok (.iconst 4, 1) := by decide +kernel
theorem dJ6_bitCount_0f7a4_27 : decode cJ6_bitCount_0f7a4 27 = .ok (.iushr, 1) := by decide +kernel
theorem dJ6_bitCount_0f7a4_28 : decode cJ6_bitCount_0f7a4 28 = .ok (.iadd, 1) := by decide +kernel
theorem dJ6_bitCount_0f7a4_29 : decode cJ6_bitCount_0f7a4 29 = .ok (.ldc_w 267, 3) := by decide +kernel
theorem dJ6_bitCount_0f7a4_32 : decode cJ6_bitCount_0f7a4 32 = .ok (.iand, 1) := by decide +kernel
theorem dJ6_bitCount_0f7a4_33 : decode cJ6_bitCount_0f7a4 33 = .ok (.istore_n 0, 1) := by decide +kernel
theorem dJ6_bitCount_0f7a4_34 : decode cJ6_bitCount_0f7a4 34 = .ok (.iload_n 0, 1) := by decide +kernel
theorem dJ6_bitCount_0f7a4_35 : decode cJ6_bitCount_0f7a4 35 = .ok (.iload_n 0, 1) := by decide +kernel
theorem dJ6_bitCount_0f7a4_36 : decode cJ6_bitCount_0f7a4 36 = .ok (.bipush 8, 2) := by decide +kernel
theorem dJ6_bitCount_0f7a4_38 : decode cJ6_bitCount_0f7a4 38 = .ok (.iushr, 1) := by decide +kernel
theorem dJ6_bitCount_0f7a4_39 : decode cJ6_bitCount_0f7a4 39 = .ok (.iadd, 1) := by decide +kernel
theorem dJ6_bitCount_0f7a4_40 : decode cJ6_bitCount_0f7a4 40 = .ok (.istore_n 0, 1) := by decide +kernel
theorem dJ6_bitCount_0f7a4_41 : decode cJ6_bitCount_0f7a4 41 = .ok (.iload_n 0, 1) := by decide +kernel
theorem dJ6_bitCount_0f7a4_42 : decode cJ6_bitCount_0f7a4 42 = .ok (.iload_n 0, 1) := by decide +kernel
theorem dJ6_bitCount_0f7a4_43 : decode cJ6_bitCount_0f7a4 43 = .ok (.bipush 16, 2) := by decide +kernel
theorem dJ6_bitCount_0f7a4_45 : decode cJ6_bitCount_0f7a4 45 = .ok (.iushr, 1) := by decide +kernel
theorem dJ6_bitCount_0f7a4_46 : decode cJ6_bitCount_0f7a4 46 = .ok (.iadd, 1) := by decide +kernel
theorem dJ6_bitCount_0f7a4_47 : decode cJ6_bitCount_0f7a4 47 = .ok (.istore_n 0, 1) := by decide +kernel
theorem dJ6_bitCount_0f7a4_48 : decode cJ6_bitCount_0f7a4 48 = .ok (.iload_n 0, 1) := by decide +kernel
theorem dJ6_bitCount_0f7a4_49 : decode cJ6_bitCount_0f7a4 49 = .ok (.bipush 63, 2) := by decide +kernel
theorem dJ6_bitCount_0f7a4_51 : decode cJ6_bitCount_0f7a4 51 = .ok (.iand, 1) := by decide +kernel
theorem dJ6_bitCount_0f7a4_52 : decode cJ6_bitCount_0f7a4 52 = .ok (.ireturn, 1) := by decide +kernel
theorem dJ9_max_7cf53_0 : decode cJ9_max_7cf53 0 = .ok (.iload_n 0, 1) := by decide +kernel
theorem dJ9_max_7cf53_1 : decode cJ9_max_7cf53 1 = .ok (.iload_n 1, 1) := by decide +kernel
theorem dJ9_max_7cf53_2 : decode cJ9_max_7cf53 2 = .ok (.if_icmp .lt 7, 3) := by decide +kernel
theorem dJ9_max_7cf53_5 : decode cJ9_max_7cf53 5 = .ok (.iload_n 0, 1) := by decide +kernel
theorem dJ9_max_7cf53_6 : decode cJ9_max_7cf53 6 = .ok (.goto 4, 3) := by decide +kernel
theorem dJ9_max_7cf53_9 : decode cJ9_max_7cf53 9 = .ok (.iload_n 1, 1) := by decide +kernel
theorem dJ9_max_7cf53_10 : decode cJ9_max_7cf53 10 = .ok (.ireturn, 1) := by decide +kernel
theorem dJ9_min_7cf53_0 : decode cJ9_min_7cf53 0 = .ok (.iload_n 0, 1) := by decide +kernel
theorem dJ9_min_7cf53_1 : decode cJ9_min_7cf53 1 = .ok (.iload_n 1, 1) := by decide +kernel
theorem dJ9_min_7cf53_2 : decode cJ9_min_7cf53 2 = .ok (.if_icmp .gt 7, 3) := by decide +kernel
theorem dJ9_min_7cf53_5 : decode cJ9_min_7cf53 5 = .ok (.iload_n 0, 1) := by decide +kernel
theorem dJ9_min_7cf53_6 : decode cJ9_min_7cf53 6 = .ok (.goto 4, 3) := by decide +kernel
theorem dJ9_min_7cf53_9 : decode cJ9_min_7cf53 9 = .ok (.iload_n 1, 1) := by decide +kernel
theorem dJ9_min_7cf53_10 : decode cJ9_min_7cf53 10 = .ok (.ireturn, 1) := by decide +kernel
end
section
theorem dX0_init_0 : decode cX0_init 0 = .ok (.aload_n 0, 1) := by decide +kernel
theorem dX0_init_1 : decode cX0_init 1 = .ok (.invokespecial 3, 3) := by decide +kernel
theorem dX0_init_4 : decode cX0_init 4 = .ok (.aload_n 0, 1) := by decide +kernel
theorem dX0_init_5 : decode cX0_init 5 = .ok (.bipush 8, 2) := by decide +kernel
theorem dX0_init_7 : decode cX0_init 7 = .ok (.newarray .int, 2) := by decide +kernel
theorem dX0_init_9 : decode cX0_init 9 = .ok (.putfield 9, 3) := by decide +kernel
theorem dX0_init_12 : decode cX0_init 12 = .ok (.return_, 1) := by decide +kernel
theorem dX1_init_0 : decode cX1_init 0 = .ok (.aload_n 0, 1) := by decide +kernel
theorem dX1_init_1 : decode cX1_init 1 = .ok (.invokespecial 3, 3) := by decide +kernel
theorem dX1_init_4 : decode cX1_init 4 = .ok (.aload_n 0, 1) := by decide +kernel
theorem dX1_init_5 : decode cX1_init 5 = .ok (.sipush 256, 3) := by decide +kernel
theorem dX1_init_8 : decode cX1_init 8 = .ok (.newarray .int, 2) := by decide +kernel
theorem dX1_init_10 : decode cX1_init 10 = .ok (.putfield 11, 3) := by decide +kernel
theorem dX1_init_13 : decode cX1_init 13 = .ok (.aload_n 0, 1) := by decide +kernel
theorem dX1_init_14 : decode cX1_init 14 = .ok (.bipush 8, 2) := by decide +kernel
theorem dX1_init_16 : decode cX1_init 16 = .ok (.newarray .int, 2) := by decide +kernel
theorem dX1_init_18 : decode cX1_init 18 = .ok (.putfield 15, 3) := by decide +kernel
theorem dX1_init_21 : decode cX1_init 21 = .ok (.return_, 1) := by decide +kernel
theorem dX2_init_0 : decode cX2_init 0 = .ok (.aload_n 0, 1) := by decide +kernel
theorem dX2_init_1 : decode cX2_init 1 = .ok (.invokespecial 3, 3) := by decide +kernel
theorem dX2_init_4 : decode cX2_init 4 = .ok (.return_, 1) := by decide +kernel
theorem dX2_oneOf_0 : decode cX2_oneOf 0 = .ok (.iload_n 1, 1) := by decide +kernel
theorem dX2_oneOf_1 : decode cX2_oneOf 1 = .ok (.invokestatic 9, 3) := by decide +kernel
theorem dX2_oneOf_4 : decode cX2_oneOf 4 = .ok (.istore_n 2, 1) := by decide +kernel
theorem dX2_oneOf_5 : decode cX2_oneOf 5 = .ok (.iload_n 2, 1) := by decide +kernel
theorem dX2_oneOf_6 : decode cX2_oneOf 6 = .ok (.ifCond .ne 5, 3) := by decide +kernel
theorem dX2_oneOf_9 : decode cX2_oneOf 9 = .ok (.iconst (-1), 1) := by decide +kernel
theorem dX2_oneOf_10 : decode cX2_oneOf 10 = .ok (.ireturn, 1) := by decide +kernel
theorem dX2_oneOf_11 : decode cX2_oneOf 11 = .ok (.aload_n 0, 1) := by decide +kernel
theorem dX2_oneOf_12 : decode cX2_oneOf 12 = .ok (.ldc2_w 15, 3) := by decide +kernel
theorem dX2_oneOf_15 : decode cX2_oneOf 15 = .ok (.aload_n 0, 1) := by decide +kernel
theorem dX2_oneOf_16 : decode cX2_oneOf 16 = .ok (.getfield 17, 3) := by decide +kernel
theorem dX2_oneOf_19 : decode cX2_oneOf 19 = .ok (.lmul, 1) := by decide +kernel
theorem dX2_oneOf_20 : decode cX2_oneOf 20 = .ok (.ldc2_w 23, 3) := by decide +kernel
theorem dX2_oneOf_23 : decode cX2_oneOf 23 = .ok (.ladd, 1) := by decide +kernel
theorem dX2_oneOf_24 : decode cX2_oneOf 24 = .ok (.ldc2_w 25, 3) := by decide +kernel
theorem dX2_oneOf_27 : decode cX2_oneOf 27 = .ok (.land, 1) := by decide +kernel
theorem dX2_oneOf_28 : decode cX2_oneOf 28 = .ok (.putfield 17, 3) := by decide +kernel
theorem dX2_oneOf_31 : decode cX2_oneOf 31 = .ok (.aload_n 0, 1) := by decide +kernel
theorem dX2_oneOf_32 : decode cX2_oneOf 32 = .ok (.getfield 17, 3) := by decide +kernel
theorem dX2_oneOf_35 : decode cX2_oneOf 35 = .ok (.ldc2_w 27, 3) := by decide +kernel
theorem dX2_oneOf_38 : decode cX2_oneOf 38 = .ok (.ldiv, 1) := by decide +kernel
theorem dX2_oneOf_39 : decode cX2_oneOf 39 = .ok (.iload_n 2, 1) := by decide +kernel
theorem dX2_oneOf_40 : decode cX2_oneOf 40 = .ok (.i2l, 1) := by decide +kernel
theorem dX2_oneOf_41 : decode cX2_oneOf 41 = .ok (.lrem, 1) := by decide +kernel
theorem dX2_oneOf_42 : decode cX2_oneOf 42 = .ok (.l2i, 1) := by decide +kernel
theorem dX2_oneOf_43 : decode cX2_oneOf 43 = .ok (.istore_n 3, 1) := by decide +kernel
theorem dX2_oneOf_44 : decode cX2_oneOf 44 = .ok (.iconst 0, 1) := by decide +kernel
theorem dX2_oneOf_45 : decode cX2_oneOf 45 = .ok (.istore 4, 2) := by decide +kernel
theorem dX2_oneOf_47 : decode cX2_oneOf 47 = .ok (.iload 4, 2) := by decide +kernel
theorem dX2_oneOf_49 : decode cX2_oneOf 49 = .ok (.bipush 8, 2) := by decide +kernel
theorem dX2_oneOf_51 : decode cX2_oneOf 51 = .ok (.if_icmp .ge 32, 3) := by decide +kernel
theorem dX2_oneOf_54 : decode cX2_oneOf 54 = .ok (.iload_n 1, 1) := by decide +kernel
theorem dX2_oneOf_55 : decode cX2_oneOf 55 = .ok (.iload 4, 2) := by decide +kernel
theorem dX2_oneOf_57 : decode cX2_oneOf 57 = .ok (.invokestatic 29, 3) := by decide +kernel
theorem dX2_oneOf_60 : decode cX2_oneOf 60 = .ok (.iand, 1) := by decide +kernel
theorem dX2_oneOf_61 : decode cX2_oneOf 61 = .ok (.ifCond .ne 6, 3) := by decide +kernel
theorem dX2_oneOf_64 : decode cX2_oneOf 64 = .ok (.goto 13, 3) := by decide +kernel
theorem dX2_oneOf_67 : decode cX2_oneOf 67 = .ok (.iload_n 3, 1) := by decide +kernel
theorem dX2_oneOf_68 : decode cX2_oneOf 68 = .ok (.ifCond .ne 6, 3) := by decide +kernel
theorem dX2_oneOf_71 : decode cX2_oneOf 71 = .ok (.iload 4, 2) := by decide +kernel
theorem dX2_oneOf_73 : decode cX2_oneOf 73 = .ok (.ireturn, 1) := by decide +kernel
theorem dX2_oneOf_74 : decode cX2_oneOf 74 = .ok (.iinc 3 (-1), 3) := by decide +kernel
theorem dX2_oneOf_77 : decode cX2_oneOf 77 = .ok (.iinc 4 1, 3) := by decide +kernel
theorem dX2_oneOf_80 : decode cX2_oneOf 80 = .ok (.goto (-33), 3) := by decide +kernel
theorem dX2_oneOf_83 : decode cX2_oneOf 83 = .ok (.iconst (-1), 1) := by decide +kernel
theorem dX2_oneOf_84 : decode cX2_oneOf 84 = .ok (.ireturn, 1) := by decide +kernel
theorem dX3_init_0 : decode cX3_init 0 = .ok (.aload_n 0, 1) := by decide +kernel
theorem dX3_init_1 : decode cX3_init 1 = .ok (.invokespecial 3, 3) := by decide +kernel
theorem dX3_init_4 : decode cX3_init 4 = .ok (.return_, 1) := by decide +kernel
theorem dX3_begin_0 : decode cX3_begin 0 = .ok (.aload_n 0, 1) := by decide +kernel
theorem dX3_begin_1 : decode cX3_begin 1 = .ok (.iload_n 1, 1) := by decide +kernel
theorem dX3_begin_2 : decode cX3_begin 2 = .ok (.putfield 9, 3) := by decide +kernel
theorem dX3_begin_5 : decode cX3_begin 5 = .ok (.aload_n 0, 1) := by decide +kernel
theorem dX3_begin_6 : decode cX3_begin 6 = .ok (.iload_n 2, 1) := by decide +kernel
theorem dX3_begin_7 : decode cX3_begin 7 = .ok (.putfield 15, 3) := by decide +kernel
theorem dX3_begin_10 : decode cX3_begin 10 = .ok (.aload_n 0, 1) := by decide +kernel
theorem dX3_begin_11 : decode cX3_begin 11 = .ok (.iload_n 2, 1) := by decide +kernel
theorem dX3_begin_12 : decode cX3_begin 12 = .ok (.putfield 18, 3) := by decide +kernel
theorem dX3_begin_15 : decode cX3_begin 15 = .ok (.aload_n 0, 1) := by decide +kernel
theorem dX3_begin_16 : decode cX3_begin 16 = .ok (.iconst (-1), 1) := by decide +kernel
theorem dX3_begin_17 : decode cX3_begin 17 = .ok (.putfield 21, 3) := by decide +kernel
theorem dX3_begin_20 : decode cX3_begin 20 = .ok (.aload_n 0, 1) := by decide +kernel
theorem dX3_begin_21 : decode cX3_begin 21 = .ok (.iconst 0, 1) := by decide +kernel
theorem dX3_begin_22 : decode cX3_begin 22 = .ok (.putfield 24, 3) := by decide +kernel
theorem dX3_begin_25 : decode cX3_begin 25 = .ok (.aload_n 0, 1) := by decide +kernel
theorem dX3_begin_26 : decode cX3_begin 26 = .ok (.iconst 0, 1) := by decide +kernel
theorem dX3_begin_27 : decode cX3_begin 27 = .ok (.putfield 27, 3) := by decide +kernel
theorem dX3_begin_30 : decode cX3_begin 30 = .ok (.aload_n 0, 1) := by decide +kernel
theorem dX3_begin_31 : decode cX3_begin 31 = .ok (.iconst 0, 1) := by decide +kernel
theorem dX3_begin_32 : decode cX3_begin 32 = .ok (.putfield 30, 3) := by decide +kernel
theorem dX3_begin_35 : decode cX3_begin 35 = .ok (.aload_n 0, 1) := by decide +kernel
theorem dX3_begin_36 : decode cX3_begin 36 = .ok (.iconst 0, 1) := by decide +kernel
theorem dX3_begin_37 : decode cX3_begin 37 = .ok (.putfield 33, 3) := by decide +kernel
theorem dX3_begin_40 : decode cX3_begin 40 = .ok (.return_, 1) := by decide +kernel
theorem dX3_copyFrom_0 : decode cX3_copyFrom 0 = .ok (.aload_n 0, 1) := by decide +kernel
theorem dX3_copyFrom_1 : decode cX3_copyFrom 1 = .ok (.aload_n 1, 1) := by decide +kernel
theorem dX3_copyFrom_2 : decode cX3_copyFrom 2 = .ok (.getfield 9, 3) := by decide +kernel
theorem dX3_copyFrom_5 : decode cX3_copyFrom 5 = .ok (.putfield 9, 3) := by decide +kernel
theorem dX3_copyFrom_8 : decode cX3_copyFrom 8 = .ok (.aload_n 0, 1) := by decide +kernel
theorem dX3_copyFrom_9 : decode cX3_copyFrom 9 = .ok (.aload_n 1, 1) := by decide +kernel
theorem dX3_copyFrom_10 : decode cX3_copyFrom 10 = .ok (.getfield 15, 3) := by decide +kernel
theorem dX3_copyFrom_13 : decode cX3_copyFrom 13 = .ok (.putfield 15, 3) := by decide +kernel
theorem dX3_copyFrom_16 : decode cX3_copyFrom 16 = .ok (.aload_n 0, 1) := by decide +kernel
theorem dX3_copyFrom_17 : decode cX3_copyFrom 17 = .ok (.aload_n 1, 1) := by decide +kernel
theorem dX3_copyFrom_18 : decode cX3_copyFrom 18 = .ok (.getfield 18, 3) := by decide +kernel
theorem dX3_copyFrom_21 : decode cX3_copyFrom 21 = .ok (.putfield 18, 3) := by decide +kernel
theorem dX3_copyFrom_24 : decode cX3_copyFrom 24 = .ok (.aload_n 0, 1) := by decide +kernel
theorem dX3_copyFrom_25 : decode cX3_copyFrom 25 = .ok (.aload_n 1, 1) := by decide +kernel
theorem dX3_copyFrom_26 : decode cX3_copyFrom 26 = .ok (.getfield 21, 3) := by decide +kernel
theorem dX3_copyFrom_29 : decode cX3_copyFrom 29 = .ok (.putfield 21, 3) := by decide +kernel
theorem dX3_copyFrom_32 : decode cX3_copyFrom 32 = .ok (.aload_n 0, 1) := by decide +kernel
theorem dX3_copyFrom_33 : decode cX3_copyFrom 33 = .ok (.aload_n 1, 1) := by decide +kernel
theorem dX3_copyFrom_34 : decode cX3_copyFrom 34 = .ok (.getfield 24, 3) := by decide +kernel
theorem dX3_copyFrom_37 : decode cX3_copyFrom 37 = .ok (.putfield 24, 3) := by decide +kernel
theorem dX3_copyFrom_40 : decode cX3_copyFrom 40 = .ok (.aload_n 0, 1) := by decide +kernel
theorem dX3_copyFrom_41 : decode cX3_copyFrom 41 = .ok (.aload_n 1, 1) := by decide +kernel
theorem dX3_copyFrom_42 : decode cX3_copyFrom 42 = .ok (.getfield 27, 3) := by decide +kernel
theorem dX3_copyFrom_45 : decode cX3_copyFrom 45 = .ok (.putfield 27, 3) := by decide +kernel
theorem dX3_copyFrom_48 : decode cX3_copyFrom 48 = .ok (.aload_n 0, 1) := by decide +kernel
theorem dX3_copyFrom_49 : decode cX3_copyFrom 49 = .ok (.aload_n 1, 1) := by decide +kernel
theorem dX3_copyFrom_50 : decode cX3_copyFrom 50 = .ok (.getfield 30, 3) := by decide +kernel
theorem dX3_copyFrom_53 : decode cX3_copyFrom 53 = .ok (.putfield 30, 3) := by decide +kernel
theorem dX3_copyFrom_56 : decode cX3_copyFrom 56 = .ok (.aload_n 0, 1) := by decide +kernel
theorem dX3_copyFrom_57 : decode cX3_copyFrom 57 = .ok (.aload_n 1, 1) := by decide +kernel
theorem dX3_copyFrom_58 : decode cX3_copyFrom 58 = .ok (.getfield 33, 3) := by decide +kernel
theorem dX3_copyFrom_61 : decode cX3_copyFrom 61 = .ok (.putfield 33, 3) := by decide +kernel
theorem dX3_copyFrom_64 : decode cX3_copyFrom 64 = .ok (.return_, 1) := by decide +kernel
theorem dX3_lives_0 : decode cX3_lives 0 = .ok (.aload_n 0, 1) := by decide +kernel
theorem dX3_lives_1 : decode cX3_lives 1 = .ok (.getfield 30, 3) := by decide +kernel
theorem dX3_lives_4 : decode cX3_lives 4 = .ok (.ifCond .ne 7, 3) := by decide +kernel
theorem dX3_lives_7 : decode cX3_lives 7 = .ok (.iconst 1, 1) := by decide +kernel
theorem dX3_lives_8 : decode cX3_lives 8 = .ok (.goto 4, 3) := by decide +kernel
theorem dX3_lives_11 : decode cX3_lives 11 = .ok (.iconst 0, 1) := by decide +kernel
theorem dX3_lives_12 : decode cX3_lives 12 = .ok (.ireturn, 1) := by decide +kernel
theorem dX3_isOf_0 : decode cX3_isOf 0 = .ok (.iload_n 1, 1) := by decide +kernel
theorem dX3_isOf_1 : decode cX3_isOf 1 = .ok (.ifCond .eq 24, 3) := by decide +kernel
theorem dX3_isOf_4 : decode cX3_isOf 4 = .ok (.iload_n 1, 1) := by decide +kernel
theorem dX3_isOf_5 : decode cX3_isOf 5 = .ok (.aload_n 0, 1) := by decide +kernel
theorem dX3_isOf_6 : decode cX3_isOf 6 = .ok (.getfield 9, 3) := by decide +kernel
theorem dX3_isOf_9 : decode cX3_isOf 9 = .ok (.if_icmp .eq 16, 3) := by decide +kernel
theorem dX3_isOf_12 : decode cX3_isOf 12 = .ok (.iload_n 1, 1) := by decide +kernel
theorem dX3_isOf_13 : decode cX3_isOf 13 = .ok (.iconst 1, 1) := by decide +kernel
theorem dX3_isOf_14 : decode cX3_isOf 14 = .ok (.if_icmp .ne 15, 3) := by decide +kernel
theorem dX3_isOf_17 : decode cX3_isOf 17 = .ok (.aload_n 0, 1) := by decide +kernel
theorem dX3_isOf_18 : decode cX3_isOf 18 = .ok (.getfield 9, 3) := by decide +kernel
theorem dX3_isOf_21 : decode cX3_isOf 21 = .ok (.iconst 4, 1) := by decide +kernel
theorem dX3_isOf_22 : decode cX3_isOf 22 = .ok (.if_icmp .ne 7, 3) := by decide +kernel
theorem dX3_isOf_25 : decode cX3_isOf 25 = .ok (.iconst 1, 1) := by decide +kernel
theorem dX3_isOf_26 : decode cX3_isOf 26 = .ok (.goto 4, 3) := by decide +kernel
theorem dX3_isOf_29 : decode cX3_isOf 29 = .ok (.iconst 0, 1) := by decide +kernel
theorem dX3_isOf_30 : decode cX3_isOf 30 = .ok (.ireturn, 1) := by decide +kernel
theorem dX3_worth_0 : decode cX3_worth 0 = .ok (.iconst 1, 1) := by decide +kernel
theorem dX3_worth_1 : decode cX3_worth 1 = .ok (.bipush 10, 2) := by decide +kernel
theorem dX3_worth_3 : decode cX3_worth 3 = .ok (.aload_n 0, 1) := by decide +kernel
theorem dX3_worth_4 : decode cX3_worth 4 = .ok (.getfield 24, 3) := by decide +kernel
theorem dX3_worth_7 : decode cX3_worth 7 = .ok (.isub, 1) := by decide +kernel
theorem dX3_worth_8 : decode cX3_worth 8 = .ok (.invokestatic 36, 3) := by decide +kernel
theorem dX3_worth_11 : decode cX3_worth 11 = .ok (.istore_n 1, 1) := by decide +kernel
theorem dX3_worth_12 : decode cX3_worth 12 = .ok (.aload_n 0, 1) := by decide +kernel
theorem dX3_worth_13 : decode cX3_worth 13 = .ok (.getfield 9, 3) := by decide +kernel
theorem dX3_worth_16 : decode cX3_worth 16 = .ok (.iconst 2, 1) := by decide +kernel
theorem dX3_worth_17 : decode cX3_worth 17 = .ok (.if_icmp .ne 17, 3) := by decide +kernel
theorem dX3_worth_20 : decode cX3_worth 20 = .ok (.iload_n 1, 1) := by decide +kernel
theorem dX3_worth_21 : decode cX3_worth 21 = .ok (.aload_n 0, 1) := by decide +kernel
theorem dX3_worth_22 : decode cX3_worth 22 = .ok (.getfield 33, 3) := by decide +kernel
theorem dX3_worth_25 : decode cX3_worth 25 = .ok (.bipush 9, 2) := by decide +kernel
theorem dX3_worth_27 : decode cX3_worth 27 = .ok (.invokestatic 42, 3) := by decide +kernel
theorem dX3_worth_30 : decode cX3_worth 30 = .ok (.iadd, 1) := by decide +kernel
theorem dX3_worth_31 : decode cX3_worth 31 = .ok (.goto 4, 3) := by decide +kernel
theorem dX3_worth_34 : decode cX3_worth 34 = .ok (.iload_n 1, 1) := by decide +kernel
theorem dX3_worth_35 : decode cX3_worth 35 = .ok (.ireturn, 1) := by decide +kernel
theorem dX3_mustGo_0 : decode cX3_mustGo 0 = .ok (.aload_n 0, 1) := by decide +kernel
theorem dX3_mustGo_1 : decode cX3_mustGo 1 = .ok (.invokevirtual 45, 3) := by decide +kernel
theorem dX3_mustGo_4 : decode cX3_mustGo 4 = .ok (.ifCond .eq 29, 3) := by decide +kernel
theorem dX3_mustGo_7 : decode cX3_mustGo 7 = .ok (.aload_n 0, 1) := by decide +kernel
theorem dX3_mustGo_8 : decode cX3_mustGo 8 = .ok (.getfield 27, 3) := by decide +kernel
theorem dX3_mustGo_11 : decode cX3_mustGo 11 = .ok (.aload_n 0, 1) := by decide +kernel
theorem dX3_mustGo_12 : decode cX3_mustGo 12 = .ok (.getfield 9, 3) := by decide +kernel
theorem dX3_mustGo_15 : decode cX3_mustGo 15 = .ok (.iconst 3, 1) := by decide +kernel
theorem dX3_mustGo_16 : decode cX3_mustGo 16 = .ok (.if_icmp .ne 9, 3) := by decide +kernel
theorem dX3_mustGo_19 : decode cX3_mustGo 19 = .ok (.iload_n 1, 1) := by decide +kernel
theorem dX3_mustGo_20 : decode cX3_mustGo 20 = .ok (.iconst 1, 1) := by decide +kernel
theorem dX3_mustGo_21 : decode cX3_mustGo 21 = .ok (.iadd, 1) := by decide +kernel
theorem dX3_mustGo_22 : decode cX3_mustGo 22 = .ok (.goto 4, 3) := by decide +kernel
theorem dX3_mustGo_25 : decode cX3_mustGo 25 = .ok (.iload_n 1, 1) := by decide +kernel
theorem dX3_mustGo_26 : decode cX3_mustGo 26 = .ok (.if_icmp .lt 7, 3) := by decide +kernel
theorem dX3_mustGo_29 : decode cX3_mustGo 29 = .ok (.iconst 1, 1) := by decide +kernel
theorem dX3_mustGo_30 : decode cX3_mustGo 30 = .ok (.goto 4, 3) := by decide +kernel
theorem dX3_mustGo_33 : decode cX3_mustGo 33 = .ok (.iconst 0, 1) := by decide +kernel
theorem dX3_mustGo_34 : decode cX3_mustGo 34 = .ok (.ireturn, 1) := by decide +kernel
theorem dX3_moveTo_0 : decode cX3_moveTo 0 = .ok (.aload_n 0, 1) := by decide +kernel
theorem dX3_moveTo_1 : decode cX3_moveTo 1 = .ok (.aload_n 0, 1) := by decide +kernel
theorem dX3_moveTo_2 : decode cX3_moveTo 2 = .ok (.getfield 18, 3) := by decide +kernel
theorem dX3_moveTo_5 : decode cX3_moveTo 5 = .ok (.putfield 21, 3) := by decide +kernel
theorem dX3_moveTo_8 : decode cX3_moveTo 8 = .ok (.aload_n 0, 1) := by decide +kernel
theorem dX3_moveTo_9 : decode cX3_moveTo 9 = .ok (.iload_n 1, 1) := by decide +kernel
theorem dX3_moveTo_10 : decode cX3_moveTo 10 = .ok (.putfield 18, 3) := by decide +kernel
theorem dX3_moveTo_13 : decode cX3_moveTo 13 = .ok (.aload_n 0, 1) := by decide +kernel
theorem dX3_moveTo_14 : decode cX3_moveTo 14 = .ok (.iconst 0, 1) := by decide +kernel
theorem dX3_moveTo_15 : decode cX3_moveTo 15 = .ok (.putfield 27, 3) := by decide +kernel
theorem dX3_moveTo_18 : decode cX3_moveTo 18 = .ok (.aload_n 0, 1) := by decide +kernel
theorem dX3_moveTo_19 : decode cX3_moveTo 19 = .ok (.dup, 1) := by decide +kernel
theorem dX3_moveTo_20 : decode cX3_moveTo 20 = .ok (.getfield 33, 3) := by decide +kernel
theorem dX3_moveTo_23 : decode cX3_moveTo 23 = .ok (.iconst 1, 1) := by decide +kernel
theorem dX3_moveTo_24 : decode cX3_moveTo 24 = .ok (.iadd, 1) := by decide +kernel
theorem dX3_moveTo_25 : decode cX3_moveTo 25 = .ok (.putfield 33, 3) := by decide +kernel
theorem dX3_moveTo_28 : decode cX3_moveTo 28 = .ok (.aload_n 0, 1) := by decide +kernel
theorem dX3_moveTo_29 : decode cX3_moveTo 29 = .ok (.getfield 9, 3) := by decide +kernel
theorem dX3_moveTo_32 : decode cX3_moveTo 32 = .ok (.iconst 4, 1) := by decide +kernel
theorem dX3_moveTo_33 : decode cX3_moveTo 33 = .ok (.if_icmp .ne 16, 3) := by decide +kernel
theorem dX3_moveTo_36 : decode cX3_moveTo 36 = .ok (.aload_n 0, 1) := by decide +kernel
theorem dX3_moveTo_37 : decode cX3_moveTo 37 = .ok (.dup, 1) := by decide +kernel
theorem dX3_moveTo_38 : decode cX3_moveTo 38 = .ok (.getfield 24, 3) := by decide +kernel
theorem dX3_moveTo_41 : decode cX3_moveTo 41 = .ok (.iconst 2, 1) := by decide +kernel
theorem dX3_moveTo_42 : decode cX3_moveTo 42 = .ok (.iadd, 1) := by decide +kernel
theorem dX3_moveTo_43 : decode cX3_moveTo 43 = .ok (.putfield 24, 3) := by decide +kernel
theorem dX3_moveTo_46 : decode cX3_moveTo 46 = .ok (.goto 21, 3) := by decide +kernel
theorem dX3_moveTo_49 : decode cX3_moveTo 49 = .ok (.aload_n 0, 1) := by decide +kernel
theorem dX3_moveTo_50 : decode cX3_moveTo 50 = .ok (.getfield 9, 3) := by decide +kernel
theorem dX3_moveTo_53 : decode cX3_moveTo 53 = .ok (.iconst 2, 1) := by decide +kernel
theorem dX3_moveTo_54 : decode cX3_moveTo 54 = .ok (.if_icmp .eq 13, 3) := by decide +kernel
theorem dX3_moveTo_57 : decode cX3_moveTo 57 = .ok (.aload_n 0, 1) := by decide +kernel
theorem dX3_moveTo_58 : decode cX3_moveTo 58 = .ok (.dup, 1) := by decide +kernel
theorem dX3_moveTo_59 : decode cX3_moveTo 59 = .ok (.getfield 24, 3) := by decide +kernel
theorem dX3_moveTo_62 : decode cX3_moveTo 62 = .ok (.iconst 1, 1) := by decide +kernel
theorem dX3_moveTo_63 : decode cX3_moveTo 63 = .ok (.iadd, 1) := by decide +kernel
theorem dX3_moveTo_64 : decode cX3_moveTo 64 = .ok (.putfield 24, 3) := by decide +kernel
theorem dX3_moveTo_67 : decode cX3_moveTo 67 = .ok (.aload_n 0, 1) := by decide +kernel
theorem dX3_moveTo_68 : decode cX3_moveTo 68 = .ok (.iconst 1, 1) := by decide +kernel
theorem dX3_moveTo_69 : decode cX3_moveTo 69 = .ok (.invokevirtual 49, 3) := by decide +kernel
theorem dX3_moveTo_72 : decode cX3_moveTo 72 = .ok (.ifCond .eq 19, 3) := by decide +kernel
theorem dX3_moveTo_75 : decode cX3_moveTo 75 = .ok (.aload_n 0, 1) := by decide +kernel
theorem dX3_moveTo_76 : decode cX3_moveTo 76 = .ok (.getfield 24, 3) := by decide +kernel
theorem dX3_moveTo_79 : decode cX3_moveTo 79 = .ok (.iload_n 2, 1) := by decide +kernel
theorem dX3_moveTo_80 : decode cX3_moveTo 80 = .ok (.if_icmp .lt 11, 3) := by decide +kernel
theorem dX3_moveTo_83 : decode cX3_moveTo 83 = .ok (.aload_n 0, 1) := by decide +kernel
theorem dX3_moveTo_84 : decode cX3_moveTo 84 = .ok (.iconst 2, 1) := by decide +kernel
theorem dX3_moveTo_85 : decode cX3_moveTo 85 = .ok (.putfield 30, 3) := by decide +kernel
theorem dX3_moveTo_88 : decode cX3_moveTo 88 = .ok (.goto 19, 3) := by decide +kernel
theorem dX3_moveTo_91 : decode cX3_moveTo 91 = .ok (.aload_n 0, 1) := by decide +kernel
theorem dX3_moveTo_92 : decode cX3_moveTo 92 = .ok (.getfield 18, 3) := by decide +kernel
theorem dX3_moveTo_95 : decode cX3_moveTo 95 = .ok (.aload_n 0, 1) := by decide +kernel
theorem dX3_moveTo_96 : decode cX3_moveTo 96 = .ok (.getfield 15, 3) := by decide +kernel
theorem dX3_moveTo_99 : decode cX3_moveTo 99 = .ok (.if_icmp .ne 8, 3) := by decide +kernel
theorem dX3_moveTo_102 : decode cX3_moveTo 102 = .ok (.aload_n 0, 1) := by decide +kernel
theorem dX3_moveTo_103 : decode cX3_moveTo 103 = .ok (.iconst 1, 1) := by decide +kernel
theorem dX3_moveTo_104 : decode cX3_moveTo 104 = .ok (.putfield 30, 3) := by decide +kernel
theorem dX3_moveTo_107 : decode cX3_moveTo 107 = .ok (.return_, 1) := by decide +kernel
theorem dX4_init_0 : decode cX4_init 0 = .ok (.aload_n 0, 1) := by decide +kernel
theorem dX4_init_1 : decode cX4_init 1 = .ok (.invokespecial 3, 3) := by decide +kernel
theorem dX4_init_4 : decode cX4_init 4 = .ok (.aload_n 0, 1) := by decide +kernel
theorem dX4_init_5 : decode cX4_init 5 = .ok (.iconst 1, 1) := by decide +kernel
theorem dX4_init_6 : decode cX4_init 6 = .ok (.putfield 11, 3) := by decide +kernel
theorem dX4_init_9 : decode cX4_init 9 = .ok (.aload_n 0, 1) := by decide +kernel
theorem dX4_init_10 : decode cX4_init 10 = .ok (.iconst 3, 1) := by decide +kernel
theorem dX4_init_11 : decode cX4_init 11 = .ok (.putfield 15, 3) := by decide +kernel
theorem dX4_init_14 : decode cX4_init 14 = .ok (.return_, 1) := by decide +kernel
theorem dX4_readFrom_0 : decode cX4_readFrom 0 = .ok (.aload_n 0, 1) := by decide +kernel
theorem dX4_readFrom_1 : decode cX4_readFrom 1 = .ok (.iconst 1, 1) := by decide +kernel
theorem dX4_readFrom_2 : decode cX4_readFrom 2 = .ok (.putfield 11, 3) := by decide +kernel
theorem dX4_readFrom_5 : decode cX4_readFrom 5 = .ok (.aload_n 0, 1) := by decide +kernel
theorem dX4_readFrom_6 : decode cX4_readFrom 6 = .ok (.iconst 0, 1) := by decide +kernel
theorem dX4_readFrom_7 : decode cX4_readFrom 7 = .ok (.putfield 18, 3) := by decide +kernel
theorem dX4_readFrom_10 : decode cX4_readFrom 10 = .ok (.aload_n 0, 1) := by decide +kernel
theorem dX4_readFrom_11 : decode cX4_readFrom 11 = .ok (.iconst 0, 1) := by decide +kernel
theorem dX4_readFrom_12 : decode cX4_readFrom 12 = .ok (.putfield 22, 3) := by decide +kernel
theorem dX4_readFrom_15 : decode cX4_readFrom 15 = .ok (.aload_n 0, 1) := by decide +kernel
theorem dX4_readFrom_16 : decode cX4_readFrom 16 = .ok (.iconst 3, 1) := by decide +kernel
theorem dX4_readFrom_17 : decode cX4_readFrom 17 = .ok (.putfield 15, 3) := by decide +kernel
theorem dX4_readFrom_20 : decode cX4_readFrom 20 = .ok (.iconst 0, 1) := by decide +kernel
theorem dX4_readFrom_21 : decode cX4_readFrom 21 = .ok (.istore_n 2, 1) := by decide +kernel
theorem dX4_readFrom_22 : decode cX4_readFrom 22 = .ok (.iconst 0, 1) := by decide +kernel
theorem dX4_readFrom_23 : decode cX4_readFrom 23 = .ok (.istore_n 3, 1) := by decide +kernel
theorem dX4_readFrom_24 : decode cX4_readFrom 24 = .ok (.iload_n 3, 1) := by decide +kernel
theorem dX4_readFrom_25 : decode cX4_readFrom 25 = .ok (.aload_n 1, 1) := by decide +kernel
theorem dX4_readFrom_26 : decode cX4_readFrom 26 = .ok (.getfield 25, 3) := by decide +kernel
theorem dX4_readFrom_29 : decode cX4_readFrom 29 = .ok (.if_icmp .ge 89, 3) := by decide +kernel
theorem dX4_readFrom_32 : decode cX4_readFrom 32 = .ok (.iload_n 3, 1) := by decide +kernel
theorem dX4_readFrom_33 : decode cX4_readFrom 33 = .ok (.bipush 16, 2) := by decide +kernel
theorem dX4_readFrom_35 : decode cX4_readFrom 35 = .ok (.if_icmp .ge 83, 3) := by decide +kernel
theorem dX4_readFrom_38 : decode cX4_readFrom 38 = .ok (.aload_n 1, 1) := by decide +kernel
theorem dX4_readFrom_39 : decode cX4_readFrom 39 = .ok (.getfield 30, 3) := by decide +kernel
theorem dX4_readFrom_42 : decode cX4_readFrom 42 = .ok (.iload_n 3, 1) := by decide +kernel
theorem dX4_readFrom_43 : decode cX4_readFrom 43 = .ok (.iaload, 1) := by decide +kernel
theorem dX4_readFrom_44 : decode cX4_readFrom 44 = .ok (.istore 4, 2) := by decide +kernel
theorem dX4_readFrom_46 : decode cX4_readFrom 46 = .ok (.iload_n 2, 1) := by decide +kernel
theorem dX4_readFrom_47 : decode cX4_readFrom 47 = .ok (.bipush 107, 2) := by decide +kernel
theorem dX4_readFrom_49 : decode cX4_readFrom 49 = .ok (.if_icmp .ne 15, 3) := by decide +kernel
theorem dX4_readFrom_52 : decode cX4_readFrom 52 = .ok (.aload_n 0, 1) := by decide +kernel
theorem dX4_readFrom_53 : decode cX4_readFrom 53 = .ok (.iload 4, 2) := by decide +kernel
theorem dX4_readFrom_55 : decode cX4_readFrom 55 = .ok (.bipush 48, 2) := by decide +kernel
theorem dX4_readFrom_57 : decode cX4_readFrom 57 = .ok (.isub, 1) := by decide +kernel
theorem dX4_readFrom_58 : decode cX4_readFrom 58 = .ok (.putfield 11, 3) := by decide +kernel
theorem dX4_readFrom_61 : decode cX4_readFrom 61 = .ok (.goto 48, 3) := by decide +kernel
theorem dX4_readFrom_64 : decode cX4_readFrom 64 = .ok (.iload_n 2, 1) := by decide +kernel
theorem dX4_readFrom_65 : decode cX4_readFrom 65 = .ok (.bipush 119, 2) := by decide +kernel
theorem dX4_readFrom_67 : decode cX4_readFrom 67 = .ok (.if_icmp .ne 15, 3) := by decide +kernel
theorem dX4_readFrom_70 : decode cX4_readFrom 70 = .ok (.aload_n 0, 1) := by decide +kernel
theorem dX4_readFrom_71 : decode cX4_readFrom 71 = .ok (.iload 4, 2) := by decide +kernel
theorem dX4_readFrom_73 : decode cX4_readFrom 73 = .ok (.bipush 48, 2) := by decide +kernel
theorem dX4_readFrom_75 : decode cX4_readFrom 75 = .ok (.isub, 1) := by decide +kernel
theorem dX4_readFrom_76 : decode cX4_readFrom 76 = .ok (.putfield 15, 3) := by decide +kernel
theorem dX4_readFrom_79 : decode cX4_readFrom 79 = .ok (.goto 30, 3) := by decide +kernel
theorem dX4_readFrom_82 : decode cX4_readFrom 82 = .ok (.iload 4, 2) := by decide +kernel
theorem dX4_readFrom_84 : decode cX4_readFrom 84 = .ok (.bipush 98, 2) := by decide +kernel
theorem dX4_readFrom_86 : decode cX4_readFrom 86 = .ok (.if_icmp .ne 11, 3) := by decide +kernel
theorem dX4_readFrom_89 : decode cX4_readFrom 89 = .ok (.aload_n 0, 1) := by decide +kernel
theorem dX4_readFrom_90 : decode cX4_readFrom 90 = .ok (.iconst 1, 1) := by decide +kernel
theorem dX4_readFrom_91 : decode cX4_readFrom 91 = .ok (.putfield 18, 3) := by decide +kernel
theorem dX4_readFrom_94 : decode cX4_readFrom 94 = .ok (.goto 15, 3) := by decide +kernel
theorem dX4_readFrom_97 : decode cX4_readFrom 97 = .ok (.iload 4, 2) := by decide +kernel
theorem dX4_readFrom_99 : decode cX4_readFrom 99 = .ok (.bipush 111, 2) := by decide +kernel
theorem dX4_readFrom_101 : decode cX4_readFrom 101 = .ok (.if_icmp .ne 8, 3) := by decide +kernel
theorem dX4_readFrom_104 : decode cX4_readFrom 104 = .ok (.aload_n 0, 1) := by decide +kernel
theorem dX4_readFrom_105 : decode cX4_readFrom 105 = .ok (.iconst 1, 1) := by decide +kernel
theorem dX4_readFrom_106 : decode cX4_readFrom 106 = .ok (.putfield 22, 3) := by decide +kernel
theorem dX4_readFrom_109 : decode cX4_readFrom 109 = .ok (.iload 4, 2) := by decide +kernel
theorem dX4_readFrom_111 : decode cX4_readFrom 111 = .ok (.istore_n 2, 1) := by decide +kernel
theorem dX4_readFrom_112 : decode cX4_readFrom 112 = .ok (.iinc 3 1, 3) := by decide +kernel
theorem dX4_readFrom_115 : decode cX4_readFrom 115 = .ok (.goto (-91), 3) := by decide +kernel
theorem dX4_readFrom_118 : decode cX4_readFrom 118 = .ok (.return_, 1) := by decide +kernel
theorem dX5_init_0 : decode cX5_init 0 = .ok (.aload_n 0, 1) := by decide +kernel
theorem dX5_init_1 : decode cX5_init 1 = .ok (.invokespecial 3, 3) := by decide +kernel
theorem dX5_init_4 : decode cX5_init 4 = .ok (.aload_n 0, 1) := by decide +kernel
theorem dX5_init_5 : decode cX5_init 5 = .ok (.bipush 16, 2) := by decide +kernel
theorem dX5_init_7 : decode cX5_init 7 = .ok (.newarray .int, 2) := by decide +kernel
theorem dX5_init_9 : decode cX5_init 9 = .ok (.putfield 9, 3) := by decide +kernel
theorem dX5_init_12 : decode cX5_init 12 = .ok (.return_, 1) := by decide +kernel
theorem dX5_lettersIn_0 : decode cX5_lettersIn 0 = .ok (.iconst 0, 1) := by decide +kernel
theorem dX5_lettersIn_1 : decode cX5_lettersIn 1 = .ok (.istore_n 2, 1) := by decide +kernel
theorem dX5_lettersIn_2 : decode cX5_lettersIn 2 = .ok (.iconst 0, 1) := by decide +kernel
theorem dX5_lettersIn_3 : decode cX5_lettersIn 3 = .ok (.istore_n 3, 1) := by decide +kernel
theorem dX5_lettersIn_4 : decode cX5_lettersIn 4 = .ok (.iconst 0, 1) := by decide +kernel
theorem dX5_lettersIn_5 : decode cX5_lettersIn 5 = .ok (.istore 4, 2) := by decide +kernel
theorem dX5_lettersIn_7 : decode cX5_lettersIn 7 = .ok (.iload 4, 2) := by decide +kernel
theorem dX5_lettersIn_9 : decode cX5_lettersIn 9 = .ok (.bipush 8, 2) := by decide +kernel
theorem dX5_lettersIn_11 : decode cX5_lettersIn 11 = .ok (.if_icmp .ge 48, 3) := by decide +kernel
theorem dX5_lettersIn_14 : decode cX5_lettersIn 14 = .ok (.lload_n 0, 1) := by decide +kernel
theorem dX5_lettersIn_15 : decode cX5_lettersIn 15 = .ok (.iload 4, 2) := by decide +kernel
theorem dX5_lettersIn_17 : decode cX5_lettersIn 17 = .ok (.invokestatic 15, 3) := by decide +kernel
theorem dX5_lettersIn_20 : decode cX5_lettersIn 20 = .ok (.istore 5, 2) := by decide +kernel
theorem dX5_lettersIn_22 : decode cX5_lettersIn 22 = .ok (.iload 5, 2) := by decide +kernel
theorem dX5_lettersIn_24 : decode cX5_lettersIn 24 = .ok (.bipush 126, 2) := by decide +kernel
theorem dX5_lettersIn_26 : decode cX5_lettersIn 26 = .ok (.if_icmp .gt 12, 3) := by decide +kernel
theorem dX5_lettersIn_29 : decode cX5_lettersIn 29 = .ok (.iload_n 3, 1) := by decide +kernel
theorem dX5_lettersIn_30 : decode cX5_lettersIn 30 = .ok (.ifCond .eq 10, 3) := by decide +kernel
theorem dX5_lettersIn_33 : decode cX5_lettersIn 33 = .ok (.iload 5, 2) := by decide +kernel
theorem dX5_lettersIn_35 : decode cX5_lettersIn 35 = .ok (.ifCond .eq 5, 3) := by decide +kernel
theorem dX5_lettersIn_38 : decode cX5_lettersIn 38 = .ok (.iconst (-1), 1) := by decide +kernel
theorem dX5_lettersIn_39 : decode cX5_lettersIn 39 = .ok (.ireturn, 1) := by decide +kernel
theorem dX5_lettersIn_40 : decode cX5_lettersIn 40 = .ok (.iload 5, 2) := by decide +kernel
theorem dX5_lettersIn_42 : decode cX5_lettersIn 42 = .ok (.ifCond .ne 8, 3) := by decide +kernel
theorem dX5_lettersIn_45 : decode cX5_lettersIn 45 = .ok (.iconst 1, 1) := by decide +kernel
theorem dX5_lettersIn_46 : decode cX5_lettersIn 46 = .ok (.istore_n 3, 1) := by decide +kernel
theorem dX5_lettersIn_47 : decode cX5_lettersIn 47 = .ok (.goto 6, 3) := by decide +kernel
theorem dX5_lettersIn_50 : decode cX5_lettersIn 50 = .ok (.iinc 2 1, 3) := by decide +kernel
theorem dX5_lettersIn_53 : decode cX5_lettersIn 53 = .ok (.iinc 4 1, 3) := by decide +kernel
theorem dX5_lettersIn_56 : decode cX5_lettersIn 56 = .ok (.goto (-49), 3) := by decide +kernel
theorem dX5_lettersIn_59 : decode cX5_lettersIn 59 = .ok (.iload_n 2, 1) := by decide +kernel
theorem dX5_lettersIn_60 : decode cX5_lettersIn 60 = .ok (.ireturn, 1) := by decide +kernel
theorem dX5_byteOf_0 : decode cX5_byteOf 0 = .ok (.lload_n 0, 1) := by decide +kernel
theorem dX5_byteOf_1 : decode cX5_byteOf 1 = .ok (.bipush 8, 2) := by decide +kernel
theorem dX5_byteOf_3 : decode cX5_byteOf 3 = .ok (.iload_n 2, 1) := by decide +kernel
theorem dX5_byteOf_4 : decode cX5_byteOf 4 = .ok (.imul, 1) := by decide +kernel
theorem dX5_byteOf_5 : decode cX5_byteOf 5 = .ok (.lushr, 1) := by decide +kernel
theorem dX5_byteOf_6 : decode cX5_byteOf 6 = .ok (.ldc2_w 19, 3) := by decide +kernel
theorem dX5_byteOf_9 : decode cX5_byteOf 9 = .ok (.land, 1) := by decide +kernel
theorem dX5_byteOf_10 : decode cX5_byteOf 10 = .ok (.l2i, 1) := by decide +kernel
theorem dX5_byteOf_11 : decode cX5_byteOf 11 = .ok (.ireturn, 1) := by decide +kernel
theorem dX5_append_0 : decode cX5_append 0 = .ok (.iconst 0, 1) := by decide +kernel
theorem dX5_append_1 : decode cX5_append 1 = .ok (.istore 4, 2) := by decide +kernel
theorem dX5_append_3 : decode cX5_append 3 = .ok (.iload 4, 2) := by decide +kernel
theorem dX5_append_5 : decode cX5_append 5 = .ok (.iload_n 3, 1) := by decide +kernel
theorem dX5_append_6 : decode cX5_append 6 = .ok (.if_icmp .ge 43, 3) := by decide +kernel
theorem dX5_append_9 : decode cX5_append 9 = .ok (.aload_n 0, 1) := by decide +kernel
theorem dX5_append_10 : decode cX5_append 10 = .ok (.getfield 21, 3) := by decide +kernel
theorem dX5_append_13 : decode cX5_append 13 = .ok (.bipush 16, 2) := by decide +kernel
theorem dX5_append_15 : decode cX5_append 15 = .ok (.if_icmp .ge 34, 3) := by decide +kernel
theorem dX5_append_18 : decode cX5_append 18 = .ok (.aload_n 0, 1) := by decide +kernel
theorem dX5_append_19 : decode cX5_append 19 = .ok (.getfield 9, 3) := by decide +kernel
theorem dX5_append_22 : decode cX5_append 22 = .ok (.aload_n 0, 1) := by decide +kernel
theorem dX5_append_23 : decode cX5_append 23 = .ok (.getfield 21, 3) := by decide +kernel
theorem dX5_append_26 : decode cX5_append 26 = .ok (.lload_n 1, 1) := by decide +kernel
theorem dX5_append_27 : decode cX5_append 27 = .ok (.iload 4, 2) := by decide +kernel
theorem dX5_append_29 : decode cX5_append 29 = .ok (.invokestatic 15, 3) := by decide +kernel
theorem dX5_append_32 : decode cX5_append 32 = .ok (.iastore, 1) := by decide +kernel
theorem dX5_append_33 : decode cX5_append 33 = .ok (.aload_n 0, 1) := by decide +kernel
theorem dX5_append_34 : decode cX5_append 34 = .ok (.dup, 1) := by decide +kernel
theorem dX5_append_35 : decode cX5_append 35 = .ok (.getfield 21, 3) := by decide +kernel
theorem dX5_append_38 : decode cX5_append 38 = .ok (.iconst 1, 1) := by decide +kernel
theorem dX5_append_39 : decode cX5_append 39 = .ok (.iadd, 1) := by decide +kernel
theorem dX5_append_40 : decode cX5_append 40 = .ok (.putfield 21, 3) := by decide +kernel
theorem dX5_append_43 : decode cX5_append 43 = .ok (.iinc 4 1, 3) := by decide +kernel
theorem dX5_append_46 : decode cX5_append 46 = .ok (.goto (-43), 3) := by decide +kernel
theorem dX5_append_49 : decode cX5_append 49 = .ok (.return_, 1) := by decide +kernel
theorem dX5_firstFault_0 : decode cX5_firstFault 0 = .ok (.iconst 0, 1) := by decide +kernel
theorem dX5_firstFault_1 : decode cX5_firstFault 1 = .ok (.istore_n 1, 1) := by decide +kernel
theorem dX5_firstFault_2 : decode cX5_firstFault 2 = .ok (.iconst 0, 1) := by decide +kernel
theorem dX5_firstFault_3 : decode cX5_firstFault 3 = .ok (.istore_n 2, 1) := by decide +kernel
theorem dX5_firstFault_4 : decode cX5_firstFault 4 = .ok (.iload_n 2, 1) := by decide +kernel
theorem dX5_firstFault_5 : decode cX5_firstFault 5 = .ok (.aload_n 0, 1) := by decide +kernel
theorem dX5_firstFault_6 : decode cX5_firstFault 6 = .ok (.getfield 21, 3) := by decide +kernel
theorem dX5_firstFault_9 : decode cX5_firstFault 9 = .ok (.if_icmp .ge 33, 3) := by decide +kernel
theorem dX5_firstFault_12 : decode cX5_firstFault 12 = .ok (.iload_n 2, 1) := by decide +kernel
theorem dX5_firstFault_13 : decode cX5_firstFault 13 = .ok (.bipush 16, 2) := by decide +kernel
theorem dX5_firstFault_15 : decode cX5_firstFault 15 = .ok (.if_icmp .ge 27, 3) := by decide +kernel
theorem dX5_firstFault_18 : decode cX5_firstFault 18 = .ok (.iload_n 1, 1) := by decide +kernel
theorem dX5_firstFault_19 : decode cX5_firstFault 19 = .ok (.aload_n 0, 1) := by decide +kernel
theorem dX5_firstFault_20 : decode cX5_firstFault 20 = .ok (.getfield 9, 3) := by decide +kernel
theorem dX5_firstFault_23 : decode cX5_firstFault 23 = .ok (.iload_n 2, 1) := by decide +kernel
theorem dX5_firstFault_24 : decode cX5_firstFault 24 = .ok (.iaload, 1) := by decide +kernel
theorem dX5_firstFault_25 : decode cX5_firstFault 25 = .ok (.invokestatic 25, 3) := by decide +kernel
theorem dX5_firstFault_28 : decode cX5_firstFault 28 = .ok (.istore_n 1, 1) := by decide +kernel
theorem dX5_firstFault_29 : decode cX5_firstFault 29 = .ok (.iload_n 1, 1) := by decide +kernel
theorem dX5_firstFault_30 : decode cX5_firstFault 30 = .ok (.iconst (-1), 1) := by decide +kernel
theorem dX5_firstFault_31 : decode cX5_firstFault 31 = .ok (.if_icmp .ne 5, 3) := by decide +kernel
theorem dX5_firstFault_34 : decode cX5_firstFault 34 = .ok (.iload_n 2, 1) := by decide +kernel
theorem dX5_firstFault_35 : decode cX5_firstFault 35 = .ok (.ireturn, 1) := by decide +kernel
theorem dX5_firstFault_36 : decode cX5_firstFault 36 = .ok (.iinc 2 1, 3) := by decide +kernel
theorem dX5_firstFault_39 : decode cX5_firstFault 39 = .ok (.goto (-35), 3) := by decide +kernel
theorem dX5_firstFault_42 : decode cX5_firstFault 42 = .ok (.aload_n 0, 1) := by decide +kernel
theorem dX5_firstFault_43 : decode cX5_firstFault 43 = .ok (.getfield 21, 3) := by decide +kernel
theorem dX5_firstFault_46 : decode cX5_firstFault 46 = .ok (.ireturn, 1) := by decide +kernel
theorem dX5_isLaw_0 : decode cX5_isLaw 0 = .ok (.iconst 0, 1) := by decide +kernel
theorem dX5_isLaw_1 : decode cX5_isLaw 1 = .ok (.istore_n 1, 1) := by decide +kernel
theorem dX5_isLaw_2 : decode cX5_isLaw 2 = .ok (.iconst 0, 1) := by decide +kernel
theorem dX5_isLaw_3 : decode cX5_isLaw 3 = .ok (.istore_n 2, 1) := by decide +kernel
theorem dX5_isLaw_4 : decode cX5_isLaw 4 = .ok (.iload_n 2, 1) := by decide +kernel
theorem dX5_isLaw_5 : decode cX5_isLaw 5 = .ok (.aload_n 0, 1) := by decide +kernel
theorem dX5_isLaw_6 : decode cX5_isLaw 6 = .ok (.getfield 21, 3) := by decide +kernel
theorem dX5_isLaw_9 : decode cX5_isLaw 9 = .ok (.if_icmp .ge 31, 3) := by decide +kernel
theorem dX5_isLaw_12 : decode cX5_isLaw 12 = .ok (.iload_n 2, 1) := by decide +kernel
theorem dX5_isLaw_13 : decode cX5_isLaw 13 = .ok (.bipush 16, 2) := by decide +kernel
theorem dX5_isLaw_15 : decode cX5_isLaw 15 = .ok (.if_icmp .ge 25, 3) := by decide +kernel
theorem dX5_isLaw_18 : decode cX5_isLaw 18 = .ok (.iload_n 1, 1) := by decide +kernel
theorem dX5_isLaw_19 : decode cX5_isLaw 19 = .ok (.iconst (-1), 1) := by decide +kernel
theorem dX5_isLaw_20 : decode cX5_isLaw 20 = .ok (.if_icmp .eq 20, 3) := by decide +kernel
theorem dX5_isLaw_23 : decode cX5_isLaw 23 = .ok (.iload_n 1, 1) := by decide +kernel
theorem dX5_isLaw_24 : decode cX5_isLaw 24 = .ok (.aload_n 0, 1) := by decide +kernel
theorem dX5_isLaw_25 : decode cX5_isLaw 25 = .ok (.getfield 9, 3) := by decide +kernel
theorem dX5_isLaw_28 : decode cX5_isLaw 28 = .ok (.iload_n 2, 1) := by decide +kernel
theorem dX5_isLaw_29 : decode cX5_isLaw 29 = .ok (.iaload, 1) := by decide +kernel
theorem dX5_isLaw_30 : decode cX5_isLaw 30 = .ok (.invokestatic 25, 3) := by decide +kernel
theorem dX5_isLaw_33 : decode cX5_isLaw 33 = .ok (.istore_n 1, 1) := by decide +kernel
theorem dX5_isLaw_34 : decode cX5_isLaw 34 = .ok (.iinc 2 1, 3) := by decide +kernel
theorem dX5_isLaw_37 : decode cX5_isLaw 37 = .ok (.goto (-33), 3) := by decide +kernel
theorem dX5_isLaw_40 : decode cX5_isLaw 40 = .ok (.iload_n 1, 1) := by decide +kernel
theorem dX5_isLaw_41 : decode cX5_isLaw 41 = .ok (.iconst (-1), 1) := by decide +kernel
theorem dX5_isLaw_42 : decode cX5_isLaw 42 = .ok (.if_icmp .eq 17, 3) := by decide +kernel
theorem dX5_isLaw_45 : decode cX5_isLaw 45 = .ok (.iload_n 1, 1) := by decide +kernel
theorem dX5_isLaw_46 : decode cX5_isLaw 46 = .ok (.iconst 1, 1) := by decide +kernel
theorem dX5_isLaw_47 : decode cX5_isLaw 47 = .ok (.if_icmp .eq 12, 3) := by decide +kernel
theorem dX5_isLaw_50 : decode cX5_isLaw 50 = .ok (.iload_n 1, 1) := by decide +kernel
theorem dX5_isLaw_51 : decode cX5_isLaw 51 = .ok (.iconst 5, 1) := by decide +kernel
theorem dX5_isLaw_52 : decode cX5_isLaw 52 = .ok (.if_icmp .eq 7, 3) := by decide +kernel
theorem dX5_isLaw_55 : decode cX5_isLaw 55 = .ok (.iconst 1, 1) := by decide +kernel
theorem dX5_isLaw_56 : decode cX5_isLaw 56 = .ok (.goto 4, 3) := by decide +kernel
theorem dX5_isLaw_59 : decode cX5_isLaw 59 = .ok (.iconst 0, 1) := by decide +kernel
theorem dX5_isLaw_60 : decode cX5_isLaw 60 = .ok (.ireturn, 1) := by decide +kernel
theorem dX5_behind_0 : decode cX5_behind 0 = .ok (.iload_n 0, 1) := by decide +kernel
theorem dX5_behind_1 : decode cX5_behind 1 = .ok (.iconst 1, 1) := by decide +kernel
theorem dX5_behind_2 : decode cX5_behind 2 = .ok (.if_icmp .ne 20, 3) := by decide +kernel
theorem dX5_behind_5 : decode cX5_behind 5 = .ok (.iload_n 1, 1) := by decide +kernel
theorem dX5_behind_6 : decode cX5_behind 6 = .ok (.bipush 49, 2) := by decide +kernel
theorem dX5_behind_8 : decode cX5_behind 8 = .ok (.bipush 51, 2) := by decide +kernel
theorem dX5_behind_10 : decode cX5_behind 10 = .ok (.invokestatic 29, 3) := by decide +kernel
theorem dX5_behind_13 : decode cX5_behind 13 = .ok (.ifCond .eq 7, 3) := by decide +kernel
theorem dX5_behind_16 : decode cX5_behind 16 = .ok (.iconst 2, 1) := by decide +kernel
theorem dX5_behind_17 : decode cX5_behind 17 = .ok (.goto 4, 3) := by decide +kernel
theorem dX5_behind_20 : decode cX5_behind 20 = .ok (.iconst (-1), 1) := by decide +kernel
theorem dX5_behind_21 : decode cX5_behind 21 = .ok (.ireturn, 1) := by decide +kernel
theorem dX5_behind_22 : decode cX5_behind 22 = .ok (.iload_n 0, 1) := by decide +kernel
theorem dX5_behind_23 : decode cX5_behind 23 = .ok (.iconst 5, 1) := by decide +kernel
theorem dX5_behind_24 : decode cX5_behind 24 = .ok (.if_icmp .ne 21, 3) := by decide +kernel
theorem dX5_behind_27 : decode cX5_behind 27 = .ok (.iload_n 1, 1) := by decide +kernel
theorem dX5_behind_28 : decode cX5_behind 28 = .ok (.bipush 49, 2) := by decide +kernel
theorem dX5_behind_30 : decode cX5_behind 30 = .ok (.bipush 57, 2) := by decide +kernel
theorem dX5_behind_32 : decode cX5_behind 32 = .ok (.invokestatic 29, 3) := by decide +kernel
theorem dX5_behind_35 : decode cX5_behind 35 = .ok (.ifCond .eq 8, 3) := by decide +kernel
theorem dX5_behind_38 : decode cX5_behind 38 = .ok (.bipush 6, 2) := by decide +kernel
theorem dX5_behind_40 : decode cX5_behind 40 = .ok (.goto 4, 3) := by decide +kernel
theorem dX5_behind_43 : decode cX5_behind 43 = .ok (.iconst (-1), 1) := by decide +kernel
theorem dX5_behind_44 : decode cX5_behind 44 = .ok (.ireturn, 1) := by decide +kernel
theorem dX5_behind_45 : decode cX5_behind 45 = .ok (.iload_n 1, 1) := by decide +kernel
theorem dX5_behind_46 : decode cX5_behind 46 = .ok (.bipush 107, 2) := by decide +kernel
theorem dX5_behind_48 : decode cX5_behind 48 = .ok (.if_icmp .ne 9, 3) := by decide +kernel
theorem dX5_behind_51 : decode cX5_behind 51 = .ok (.iload_n 0, 1) := by decide +kernel
theorem dX5_behind_52 : decode cX5_behind 52 = .ok (.ifCond .ne 5, 3) := by decide +kernel
theorem dX5_behind_55 : decode cX5_behind 55 = .ok (.iconst 1, 1) := by decide +kernel
theorem dX5_behind_56 : decode cX5_behind 56 = .ok (.ireturn, 1) := by decide +kernel
theorem dX5_behind_57 : decode cX5_behind 57 = .ok (.iload_n 1, 1) := by decide +kernel
theorem dX5_behind_58 : decode cX5_behind 58 = .ok (.bipush 98, 2) := by decide +kernel
theorem dX5_behind_60 : decode cX5_behind 60 = .ok (.if_icmp .ne 10, 3) := by decide +kernel
theorem dX5_behind_63 : decode cX5_behind 63 = .ok (.iload_n 0, 1) := by decide +kernel
theorem dX5_behind_64 : decode cX5_behind 64 = .ok (.iconst 3, 1) := by decide +kernel
theorem dX5_behind_65 : decode cX5_behind 65 = .ok (.if_icmp .ge 5, 3) := by decide +kernel
theorem dX5_behind_68 : decode cX5_behind 68 = .ok (.iconst 3, 1) := by decide +kernel
theorem dX5_behind_69 : decode cX5_behind 69 = .ok (.ireturn, 1) := by decide +kernel
theorem dX5_behind_70 : decode cX5_behind 70 = .ok (.iload_n 1, 1) := by decide +kernel
theorem dX5_behind_71 : decode cX5_behind 71 = .ok (.bipush 111, 2) := by decide +kernel
theorem dX5_behind_73 : decode cX5_behind 73 = .ok (.if_icmp .ne 10, 3) := by decide +kernel
theorem dX5_behind_76 : decode cX5_behind 76 = .ok (.iload_n 0, 1) := by decide +kernel
theorem dX5_behind_77 : decode cX5_behind 77 = .ok (.iconst 4, 1) := by decide +kernel
theorem dX5_behind_78 : decode cX5_behind 78 = .ok (.if_icmp .ge 5, 3) := by decide +kernel
theorem dX5_behind_81 : decode cX5_behind 81 = .ok (.iconst 4, 1) := by decide +kernel
theorem dX5_behind_82 : decode cX5_behind 82 = .ok (.ireturn, 1) := by decide +kernel
theorem dX5_behind_83 : decode cX5_behind 83 = .ok (.iload_n 1, 1) := by decide +kernel
theorem dX5_behind_84 : decode cX5_behind 84 = .ok (.bipush 119, 2) := by decide +kernel
theorem dX5_behind_86 : decode cX5_behind 86 = .ok (.if_icmp .ne 10, 3) := by decide +kernel
theorem dX5_behind_89 : decode cX5_behind 89 = .ok (.iload_n 0, 1) := by decide +kernel
theorem dX5_behind_90 : decode cX5_behind 90 = .ok (.iconst 5, 1) := by decide +kernel
theorem dX5_behind_91 : decode cX5_behind 91 = .ok (.if_icmp .ge 5, 3) := by decide +kernel
theorem dX5_behind_94 : decode cX5_behind 94 = .ok (.iconst 5, 1) := by decide +kernel
theorem dX5_behind_95 : decode cX5_behind 95 = .ok (.ireturn, 1) := by decide +kernel
theorem dX5_behind_96 : decode cX5_behind 96 = .ok (.iconst (-1), 1) := by decide +kernel
theorem dX5_behind_97 : decode cX5_behind 97 = .ok (.ireturn, 1) := by decide +kernel
theorem dX6_init_0 : decode cX6_init 0 = .ok (.aload_n 0, 1) := by decide +kernel
theorem dX6_init_1 : decode cX6_init 1 = .ok (.invokespecial 3, 3) := by decide +kernel
theorem dX6_init_4 : decode cX6_init 4 = .ok (.aload_n 0, 1) := by decide +kernel
theorem dX6_init_5 : decode cX6_init 5 = .ok (.bipush 72, 2) := by decide +kernel
theorem dX6_init_7 : decode cX6_init 7 = .ok (.newarray .long, 2) := by decide +kernel
theorem dX6_init_9 : decode cX6_init 9 = .ok (.putfield 11, 3) := by decide +kernel
theorem dX6_init_12 : decode cX6_init 12 = .ok (.aload_n 0, 1) := by decide +kernel
theorem dX6_init_13 : decode cX6_init 13 = .ok (.bipush 72, 2) := by decide +kernel
theorem dX6_init_15 : decode cX6_init 15 = .ok (.newarray .long, 2) := by decide +kernel
theorem dX6_init_17 : decode cX6_init 17 = .ok (.putfield 15, 3) := by decide +kernel
theorem dX6_init_20 : decode cX6_init 20 = .ok (.return_, 1) := by decide +kernel
theorem dX7_init_0 : decode cX7_init 0 = .ok (.aload_n 0, 1) := by decide +kernel
theorem dX7_init_1 : decode cX7_init 1 = .ok (.invokespecial 3, 3) := by decide +kernel
theorem dX7_init_4 : decode cX7_init 4 = .ok (.aload_n 0, 1) := by decide +kernel
theorem dX7_init_5 : decode cX7_init 5 = .ok (.bipush 8, 2) := by decide +kernel
theorem dX7_init_7 : decode cX7_init 7 = .ok (.newarray .int, 2) := by decide +kernel
theorem dX7_init_9 : decode cX7_init 9 = .ok (.putfield 9, 3) := by decide +kernel
theorem dX7_init_12 : decode cX7_init 12 = .ok (.aload_n 0, 1) := by decide +kernel
theorem dX7_init_13 : decode cX7_init 13 = .ok (.bipush 8, 2) := by decide +kernel
theorem dX7_init_15 : decode cX7_init 15 = .ok (.newarray .int, 2) := by decide +kernel
theorem dX7_init_17 : decode cX7_init 17 = .ok (.putfield 15, 3) := by decide +kernel
theorem dX7_init_20 : decode cX7_init 20 = .ok (.aload_n 0, 1) := by decide +kernel
theorem dX7_init_21 : decode cX7_init 21 = .ok (.bipush 8, 2) := by decide +kernel
theorem dX7_init_23 : decode cX7_init 23 = .ok (.newarray .int, 2) := by decide +kernel
theorem dX7_init_25 : decode cX7_init 25 = .ok (.putfield 18, 3) := by decide +kernel
theorem dX7_init_28 : decode cX7_init 28 = .ok (.aload_n 0, 1) := by decide +kernel
theorem dX7_init_29 : decode cX7_init 29 = .ok (.bipush 64, 2) := by decide +kernel
theorem dX7_init_31 : decode cX7_init 31 = .ok (.newarray .int, 2) := by decide +kernel
theorem dX7_init_33 : decode cX7_init 33 = .ok (.putfield 21, 3) := by decide +kernel
theorem dX7_init_36 : decode cX7_init 36 = .ok (.aload_n 0, 1) := by decide +kernel
theorem dX7_init_37 : decode cX7_init 37 = .ok (.bipush 64, 2) := by decide +kernel
theorem dX7_init_39 : decode cX7_init 39 = .ok (.newarray .int, 2) := by decide +kernel
theorem dX7_init_41 : decode cX7_init 41 = .ok (.putfield 24, 3) := by decide +kernel
theorem dX7_init_44 : decode cX7_init 44 = .ok (.aload_n 0, 1) := by decide +kernel
theorem dX7_init_45 : decode cX7_init 45 = .ok (.bipush 8, 2) := by decide +kernel
theorem dX7_init_47 : decode cX7_init 47 = .ok (.anewarray 27, 3) := by decide +kernel
theorem dX7_init_50 : decode cX7_init 50 = .ok (.putfield 29, 3) := by decide +kernel
theorem dX7_init_53 : decode cX7_init 53 = .ok (.iconst 0, 1) := by decide +kernel
theorem dX7_init_54 : decode cX7_init 54 = .ok (.istore_n 1, 1) := by decide +kernel
theorem dX7_init_55 : decode cX7_init 55 = .ok (.iload_n 1, 1) := by decide +kernel
theorem dX7_init_56 : decode cX7_init 56 = .ok (.bipush 8, 2) := by decide +kernel
theorem dX7_init_58 : decode cX7_init 58 = .ok (.if_icmp .ge 22, 3) := by decide +kernel
theorem dX7_init_61 : decode cX7_init 61 = .ok (.aload_n 0, 1) := by decide +kernel
theorem dX7_init_62 : decode cX7_init 62 = .ok (.getfield 29, 3) := by decide +kernel
theorem dX7_init_65 : decode cX7_init 65 = .ok (.iload_n 1, 1) := by decide +kernel
theorem dX7_init_66 : decode cX7_init 66 = .ok (.new 27, 3) := by decide +kernel
theorem dX7_init_69 : decode cX7_init 69 = .ok (.dup, 1) := by decide +kernel
theorem dX7_init_70 : decode cX7_init 70 = .ok (.invokespecial 33, 3) := by decide +kernel
theorem dX7_init_73 : decode cX7_init 73 = .ok (.aastore, 1) := by decide +kernel
theorem dX7_init_74 : decode cX7_init 74 = .ok (.iinc 1 1, 3) := by decide +kernel
theorem dX7_init_77 : decode cX7_init 77 = .ok (.goto (-22), 3) := by decide +kernel
theorem dX7_init_80 : decode cX7_init 80 = .ok (.return_, 1) := by decide +kernel
theorem dX7_copyFrom_0 : decode cX7_copyFrom 0 = .ok (.aload_n 0, 1) := by decide +kernel
theorem dX7_copyFrom_1 : decode cX7_copyFrom 1 = .ok (.aload_n 1, 1) := by decide +kernel
theorem dX7_copyFrom_2 : decode cX7_copyFrom 2 = .ok (.getfield 34, 3) := by decide +kernel
theorem dX7_copyFrom_5 : decode cX7_copyFrom 5 = .ok (.putfield 34, 3) := by decide +kernel
theorem dX7_copyFrom_8 : decode cX7_copyFrom 8 = .ok (.aload_n 1, 1) := by decide +kernel
theorem dX7_copyFrom_9 : decode cX7_copyFrom 9 = .ok (.getfield 9, 3) := by decide +kernel
theorem dX7_copyFrom_12 : decode cX7_copyFrom 12 = .ok (.iconst 0, 1) := by decide +kernel
theorem dX7_copyFrom_13 : decode cX7_copyFrom 13 = .ok (.aload_n 0, 1) := by decide +kernel
theorem dX7_copyFrom_14 : decode cX7_copyFrom 14 = .ok (.getfield 9, 3) := by decide +kernel
theorem dX7_copyFrom_17 : decode cX7_copyFrom 17 = .ok (.iconst 0, 1) := by decide +kernel
theorem dX7_copyFrom_18 : decode cX7_copyFrom 18 = .ok (.bipush 8, 2) := by decide +kernel
theorem dX7_copyFrom_20 : decode cX7_copyFrom 20 = .ok (.invokestatic 38, 3) := by decide +kernel
theorem dX7_copyFrom_23 : decode cX7_copyFrom 23 = .ok (.aload_n 1, 1) := by decide +kernel
theorem dX7_copyFrom_24 : decode cX7_copyFrom 24 = .ok (.getfield 15, 3) := by decide +kernel
theorem dX7_copyFrom_27 : decode cX7_copyFrom 27 = .ok (.iconst 0, 1) := by decide +kernel
theorem dX7_copyFrom_28 : decode cX7_copyFrom 28 = .ok (.aload_n 0, 1) := by decide +kernel
theorem dX7_copyFrom_29 : decode cX7_copyFrom 29 = .ok (.getfield 15, 3) := by decide +kernel
theorem dX7_copyFrom_32 : decode cX7_copyFrom 32 = .ok (.iconst 0, 1) := by decide +kernel
theorem dX7_copyFrom_33 : decode cX7_copyFrom 33 = .ok (.bipush 8, 2) := by decide +kernel
theorem dX7_copyFrom_35 : decode cX7_copyFrom 35 = .ok (.invokestatic 38, 3) := by decide +kernel
theorem dX7_copyFrom_38 : decode cX7_copyFrom 38 = .ok (.aload_n 1, 1) := by decide +kernel
theorem dX7_copyFrom_39 : decode cX7_copyFrom 39 = .ok (.getfield 18, 3) := by decide +kernel
theorem dX7_copyFrom_42 : decode cX7_copyFrom 42 = .ok (.iconst 0, 1) := by decide +kernel
theorem dX7_copyFrom_43 : decode cX7_copyFrom 43 = .ok (.aload_n 0, 1) := by decide +kernel
theorem dX7_copyFrom_44 : decode cX7_copyFrom 44 = .ok (.getfield 18, 3) := by decide +kernel
theorem dX7_copyFrom_47 : decode cX7_copyFrom 47 = .ok (.iconst 0, 1) := by decide +kernel
theorem dX7_copyFrom_48 : decode cX7_copyFrom 48 = .ok (.bipush 8, 2) := by decide +kernel
theorem dX7_copyFrom_50 : decode cX7_copyFrom 50 = .ok (.invokestatic 38, 3) := by decide +kernel
theorem dX7_copyFrom_53 : decode cX7_copyFrom 53 = .ok (.aload_n 1, 1) := by decide +kernel
theorem dX7_copyFrom_54 : decode cX7_copyFrom 54 = .ok (.getfield 21, 3) := by decide +kernel
theorem dX7_copyFrom_57 : decode cX7_copyFrom 57 = .ok (.iconst 0, 1) := by decide +kernel
theorem dX7_copyFrom_58 : decode cX7_copyFrom 58 = .ok (.aload_n 0, 1) := by decide +kernel
theorem dX7_copyFrom_59 : decode cX7_copyFrom 59 = .ok (.getfield 21, 3) := by decide +kernel
theorem dX7_copyFrom_62 : decode cX7_copyFrom 62 = .ok (.iconst 0, 1) := by decide +kernel
theorem dX7_copyFrom_63 : decode cX7_copyFrom 63 = .ok (.bipush 64, 2) := by decide +kernel
theorem dX7_copyFrom_65 : decode cX7_copyFrom 65 = .ok (.invokestatic 38, 3) := by decide +kernel
theorem dX7_copyFrom_68 : decode cX7_copyFrom 68 = .ok (.aload_n 1, 1) := by decide +kernel
theorem dX7_copyFrom_69 : decode cX7_copyFrom 69 = .ok (.getfield 24, 3) := by decide +kernel
theorem dX7_copyFrom_72 : decode cX7_copyFrom 72 = .ok (.iconst 0, 1) := by decide +kernel
theorem dX7_copyFrom_73 : decode cX7_copyFrom 73 = .ok (.aload_n 0, 1) := by decide +kernel
theorem dX7_copyFrom_74 : decode cX7_copyFrom 74 = .ok (.getfield 24, 3) := by decide +kernel
theorem dX7_copyFrom_77 : decode cX7_copyFrom 77 = .ok (.iconst 0, 1) := by decide +kernel
theorem dX7_copyFrom_78 : decode cX7_copyFrom 78 = .ok (.bipush 64, 2) := by decide +kernel
theorem dX7_copyFrom_80 : decode cX7_copyFrom 80 = .ok (.invokestatic 38, 3) := by decide +kernel
theorem dX7_copyFrom_83 : decode cX7_copyFrom 83 = .ok (.aload_n 0, 1) := by decide +kernel
theorem dX7_copyFrom_84 : decode cX7_copyFrom 84 = .ok (.aload_n 1, 1) := by decide +kernel
theorem dX7_copyFrom_85 : decode cX7_copyFrom 85 = .ok (.getfield 44, 3) := by decide +kernel
theorem dX7_copyFrom_88 : decode cX7_copyFrom 88 = .ok (.putfield 44, 3) := by decide +kernel
theorem dX7_copyFrom_91 : decode cX7_copyFrom 91 = .ok (.iconst 0, 1) := by decide +kernel
theorem dX7_copyFrom_92 : decode cX7_copyFrom 92 = .ok (.istore_n 2, 1) := by decide +kernel
theorem dX7_copyFrom_93 : decode cX7_copyFrom 93 = .ok (.iload_n 2, 1) := by decide +kernel
theorem dX7_copyFrom_94 : decode cX7_copyFrom 94 = .ok (.bipush 8, 2) := by decide +kernel
theorem dX7_copyFrom_96 : decode cX7_copyFrom 96 = .ok (.if_icmp .ge 24, 3) := by decide +kernel
theorem dX7_copyFrom_99 : decode cX7_copyFrom 99 = .ok (.aload_n 0, 1) := by decide +kernel
theorem dX7_copyFrom_100 : decode cX7_copyFrom 100 = .ok (.getfield 29, 3) := by decide +kernel
theorem dX7_copyFrom_103 : decode cX7_copyFrom 103 = .ok (.iload_n 2, 1) := by decide +kernel
theorem dX7_copyFrom_104 : decode cX7_copyFrom 104 = .ok (.aaload, 1) := by decide +kernel
theorem dX7_copyFrom_105 : decode cX7_copyFrom 105 = .ok (.aload_n 1, 1) := by decide +kernel
theorem dX7_copyFrom_106 : decode cX7_copyFrom 106 = .ok (.getfield 29, 3) := by decide +kernel
theorem dX7_copyFrom_109 : decode cX7_copyFrom 109 = .ok (.iload_n 2, 1) := by decide +kernel
theorem dX7_copyFrom_110 : decode cX7_copyFrom 110 = .ok (.aaload, 1) := by decide +kernel
theorem dX7_copyFrom_111 : decode cX7_copyFrom 111 = .ok (.invokevirtual 47, 3) := by decide +kernel
theorem dX7_copyFrom_114 : decode cX7_copyFrom 114 = .ok (.iinc 2 1, 3) := by decide +kernel
theorem dX7_copyFrom_117 : decode cX7_copyFrom 117 = .ok (.goto (-24), 3) := by decide +kernel
theorem dX7_copyFrom_120 : decode cX7_copyFrom 120 = .ok (.aload_n 0, 1) := by decide +kernel
theorem dX7_copyFrom_121 : decode cX7_copyFrom 121 = .ok (.aload_n 1, 1) := by decide +kernel
theorem dX7_copyFrom_122 : decode cX7_copyFrom 122 = .ok (.getfield 51, 3) := by decide +kernel
theorem dX7_copyFrom_125 : decode cX7_copyFrom 125 = .ok (.putfield 51, 3) := by decide +kernel
theorem dX7_copyFrom_128 : decode cX7_copyFrom 128 = .ok (.return_, 1) := by decide +kernel
theorem dX7_addPerson_0 : decode cX7_addPerson 0 = .ok (.aload_n 0, 1) := by decide +kernel
theorem dX7_addPerson_1 : decode cX7_addPerson 1 = .ok (.getfield 9, 3) := by decide +kernel
theorem dX7_addPerson_4 : decode cX7_addPerson 4 = .ok (.aload_n 0, 1) := by decide +kernel
theorem dX7_addPerson_5 : decode cX7_addPerson 5 = .ok (.getfield 34, 3) := by decide +kernel
theorem dX7_addPerson_8 : decode cX7_addPerson 8 = .ok (.iload_n 1, 1) := by decide +kernel
theorem dX7_addPerson_9 : decode cX7_addPerson 9 = .ok (.iastore, 1) := by decide +kernel
theorem dX7_addPerson_10 : decode cX7_addPerson 10 = .ok (.aload_n 0, 1) := by decide +kernel
theorem dX7_addPerson_11 : decode cX7_addPerson 11 = .ok (.dup, 1) := by decide +kernel
theorem dX7_addPerson_12 : decode cX7_addPerson 12 = .ok (.getfield 34, 3) := by decide +kernel
theorem dX7_addPerson_15 : decode cX7_addPerson 15 = .ok (.iconst 1, 1) := by decide +kernel
theorem dX7_addPerson_16 : decode cX7_addPerson 16 = .ok (.iadd, 1) := by decide +kernel
theorem dX7_addPerson_17 : decode cX7_addPerson 17 = .ok (.putfield 34, 3) := by decide +kernel
theorem dX7_addPerson_20 : decode cX7_addPerson 20 = .ok (.aload_n 0, 1) := by decide +kernel
theorem dX7_addPerson_21 : decode cX7_addPerson 21 = .ok (.getfield 34, 3) := by decide +kernel
theorem dX7_addPerson_24 : decode cX7_addPerson 24 = .ok (.iconst 1, 1) := by decide +kernel
theorem dX7_addPerson_25 : decode cX7_addPerson 25 = .ok (.isub, 1) := by decide +kernel
theorem dX7_addPerson_26 : decode cX7_addPerson 26 = .ok (.ireturn, 1) := by decide +kernel
theorem dX7_addGift_0 : decode cX7_addGift 0 = .ok (.aload_n 0, 1) := by decide +kernel
theorem dX7_addGift_1 : decode cX7_addGift 1 = .ok (.getfield 29, 3) := by decide +kernel
theorem dX7_addGift_4 : decode cX7_addGift 4 = .ok (.aload_n 0, 1) := by decide +kernel
theorem dX7_addGift_5 : decode cX7_addGift 5 = .ok (.getfield 44, 3) := by decide +kernel
theorem dX7_addGift_8 : decode cX7_addGift 8 = .ok (.aaload, 1) := by decide +kernel
theorem dX7_addGift_9 : decode cX7_addGift 9 = .ok (.iload_n 1, 1) := by decide +kernel
theorem dX7_addGift_10 : decode cX7_addGift 10 = .ok (.iload_n 2, 1) := by decide +kernel
theorem dX7_addGift_11 : decode cX7_addGift 11 = .ok (.invokevirtual 54, 3) := by decide +kernel
theorem dX7_addGift_14 : decode cX7_addGift 14 = .ok (.aload_n 0, 1) := by decide +kernel
theorem dX7_addGift_15 : decode cX7_addGift 15 = .ok (.dup, 1) := by decide +kernel
theorem dX7_addGift_16 : decode cX7_addGift 16 = .ok (.getfield 44, 3) := by decide +kernel
theorem dX7_addGift_19 : decode cX7_addGift 19 = .ok (.iconst 1, 1) := by decide +kernel
theorem dX7_addGift_20 : decode cX7_addGift 20 = .ok (.iadd, 1) := by decide +kernel
theorem dX7_addGift_21 : decode cX7_addGift 21 = .ok (.putfield 44, 3) := by decide +kernel
theorem dX7_addGift_24 : decode cX7_addGift 24 = .ok (.aload_n 0, 1) := by decide +kernel
theorem dX7_addGift_25 : decode cX7_addGift 25 = .ok (.getfield 44, 3) := by decide +kernel
theorem dX7_addGift_28 : decode cX7_addGift 28 = .ok (.iconst 1, 1) := by decide +kernel
theorem dX7_addGift_29 : decode cX7_addGift 29 = .ok (.isub, 1) := by decide +kernel
theorem dX7_addGift_30 : decode cX7_addGift 30 = .ok (.ireturn, 1) := by decide +kernel
theorem dX7_knows_0 : decode cX7_knows 0 = .ok (.aload_n 0, 1) := by decide +kernel
theorem dX7_knows_1 : decode cX7_knows 1 = .ok (.getfield 15, 3) := by decide +kernel
theorem dX7_knows_4 : decode cX7_knows 4 = .ok (.iload_n 1, 1) := by decide +kernel
theorem dX7_knows_5 : decode cX7_knows 5 = .ok (.iaload, 1) := by decide +kernel
theorem dX7_knows_6 : decode cX7_knows 6 = .ok (.iload_n 2, 1) := by decide +kernel
theorem dX7_knows_7 : decode cX7_knows 7 = .ok (.invokestatic 58, 3) := by decide +kernel
theorem dX7_knows_10 : decode cX7_knows 10 = .ok (.iand, 1) := by decide +kernel
theorem dX7_knows_11 : decode cX7_knows 11 = .ok (.ifCond .eq 7, 3) := by decide +kernel
theorem dX7_knows_14 : decode cX7_knows 14 = .ok (.iconst 1, 1) := by decide +kernel
theorem dX7_knows_15 : decode cX7_knows 15 = .ok (.goto 4, 3) := by decide +kernel
theorem dX7_knows_18 : decode cX7_knows 18 = .ok (.iconst 0, 1) := by decide +kernel
theorem dX7_knows_19 : decode cX7_knows 19 = .ok (.ireturn, 1) := by decide +kernel
theorem dX7_setKnown_0 : decode cX7_setKnown 0 = .ok (.aload_n 0, 1) := by decide +kernel
theorem dX7_setKnown_1 : decode cX7_setKnown 1 = .ok (.getfield 15, 3) := by decide +kernel
theorem dX7_setKnown_4 : decode cX7_setKnown 4 = .ok (.iload_n 1, 1) := by decide +kernel
theorem dX7_setKnown_5 : decode cX7_setKnown 5 = .ok (.iload_n 3, 1) := by decide +kernel
theorem dX7_setKnown_6 : decode cX7_setKnown 6 = .ok (.ifCond .eq 17, 3) := by decide +kernel
theorem dX7_setKnown_9 : decode cX7_setKnown 9 = .ok (.aload_n 0, 1) := by decide +kernel
theorem dX7_setKnown_10 : decode cX7_setKnown 10 = .ok (.getfield 15, 3) := by decide +kernel
theorem dX7_setKnown_13 : decode cX7_setKnown 13 = .ok (.iload_n 1, 1) := by decide +kernel
theorem dX7_setKnown_14 : decode cX7_setKnown 14 = .ok (.iaload, 1) := by decide +kernel
theorem dX7_setKnown_15 : decode cX7_setKnown 15 = .ok (.iload_n 2, 1) := by decide +kernel
theorem dX7_setKnown_16 : decode cX7_setKnown 16 = .ok (.invokestatic 58, 3) := by decide +kernel
theorem dX7_setKnown_19 : decode cX7_setKnown 19 = .ok (.ior, 1) := by decide +kernel
theorem dX7_setKnown_20 : decode cX7_setKnown 20 = .ok (.goto 16, 3) := by decide +kernel
theorem dX7_setKnown_23 : decode cX7_setKnown 23 = .ok (.aload_n 0, 1) := by decide +kernel
theorem dX7_setKnown_24 : decode cX7_setKnown 24 = .ok (.getfield 15, 3) := by decide +kernel
theorem dX7_setKnown_27 : decode cX7_setKnown 27 = .ok (.iload_n 1, 1) := by decide +kernel
theorem dX7_setKnown_28 : decode cX7_setKnown 28 = .ok (.iaload, 1) := by decide +kernel
theorem dX7_setKnown_29 : decode cX7_setKnown 29 = .ok (.iload_n 2, 1) := by decide +kernel
theorem dX7_setKnown_30 : decode cX7_setKnown 30 = .ok (.invokestatic 58, 3) := by decide +kernel
theorem dX7_setKnown_33 : decode cX7_setKnown 33 = .ok (.iconst (-1), 1) := by decide +kernel
theorem dX7_setKnown_34 : decode cX7_setKnown 34 = .ok (.ixor, 1) := by decide +kernel
theorem dX7_setKnown_35 : decode cX7_setKnown 35 = .ok (.iand, 1) := by decide +kernel
theorem dX7_setKnown_36 : decode cX7_setKnown 36 = .ok (.iastore, 1) := by decide +kernel
theorem dX7_setKnown_37 : decode cX7_setKnown 37 = .ok (.aload_n 0, 1) := by decide +kernel
theorem dX7_setKnown_38 : decode cX7_setKnown 38 = .ok (.getfield 15, 3) := by decide +kernel
theorem dX7_setKnown_41 : decode cX7_setKnown 41 = .ok (.iload_n 2, 1) := by decide +kernel
theorem dX7_setKnown_42 : decode cX7_setKnown 42 = .ok (.iload_n 3, 1) := by decide +kernel
theorem dX7_setKnown_43 : decode cX7_setKnown 43 = .ok (.ifCond .eq 17, 3) := by decide +kernel
theorem dX7_setKnown_46 : decode cX7_setKnown 46 = .ok (.aload_n 0, 1) := by decide +kernel
theorem dX7_setKnown_47 : decode cX7_setKnown 47 = .ok (.getfield 15, 3) := by decide +kernel
theorem dX7_setKnown_50 : decode cX7_setKnown 50 = .ok (.iload_n 2, 1) := by decide +kernel
theorem dX7_setKnown_51 : decode cX7_setKnown 51 = .ok (.iaload, 1) := by decide +kernel
theorem dX7_setKnown_52 : decode cX7_setKnown 52 = .ok (.iload_n 1, 1) := by decide +kernel
theorem dX7_setKnown_53 : decode cX7_setKnown 53 = .ok (.invokestatic 58, 3) := by decide +kernel
theorem dX7_setKnown_56 : decode cX7_setKnown 56 = .ok (.ior, 1) := by decide +kernel
theorem dX7_setKnown_57 : decode cX7_setKnown 57 = .ok (.goto 16, 3) := by decide +kernel
theorem dX7_setKnown_60 : decode cX7_setKnown 60 = .ok (.aload_n 0, 1) := by decide +kernel
theorem dX7_setKnown_61 : decode cX7_setKnown 61 = .ok (.getfield 15, 3) := by decide +kernel
theorem dX7_setKnown_64 : decode cX7_setKnown 64 = .ok (.iload_n 2, 1) := by decide +kernel
theorem dX7_setKnown_65 : decode cX7_setKnown 65 = .ok (.iaload, 1) := by decide +kernel
theorem dX7_setKnown_66 : decode cX7_setKnown 66 = .ok (.iload_n 1, 1) := by decide +kernel
theorem dX7_setKnown_67 : decode cX7_setKnown 67 = .ok (.invokestatic 58, 3) := by decide +kernel
theorem dX7_setKnown_70 : decode cX7_setKnown 70 = .ok (.iconst (-1), 1) := by decide +kernel
theorem dX7_setKnown_71 : decode cX7_setKnown 71 = .ok (.ixor, 1) := by decide +kernel
theorem dX7_setKnown_72 : decode cX7_setKnown 72 = .ok (.iand, 1) := by decide +kernel
theorem dX7_setKnown_73 : decode cX7_setKnown 73 = .ok (.iastore, 1) := by decide +kernel
theorem dX7_setKnown_74 : decode cX7_setKnown 74 = .ok (.return_, 1) := by decide +kernel
theorem dX7_heldBy_0 : decode cX7_heldBy 0 = .ok (.iconst 0, 1) := by decide +kernel
theorem dX7_heldBy_1 : decode cX7_heldBy 1 = .ok (.istore_n 2, 1) := by decide +kernel
theorem dX7_heldBy_2 : decode cX7_heldBy 2 = .ok (.iconst 0, 1) := by decide +kernel
theorem dX7_heldBy_3 : decode cX7_heldBy 3 = .ok (.istore_n 3, 1) := by decide +kernel
theorem dX7_heldBy_4 : decode cX7_heldBy 4 = .ok (.iload_n 3, 1) := by decide +kernel
theorem dX7_heldBy_5 : decode cX7_heldBy 5 = .ok (.aload_n 0, 1) := by decide +kernel
theorem dX7_heldBy_6 : decode cX7_heldBy 6 = .ok (.getfield 44, 3) := by decide +kernel
theorem dX7_heldBy_9 : decode cX7_heldBy 9 = .ok (.if_icmp .ge 37, 3) := by decide +kernel
theorem dX7_heldBy_12 : decode cX7_heldBy 12 = .ok (.aload_n 0, 1) := by decide +kernel
theorem dX7_heldBy_13 : decode cX7_heldBy 13 = .ok (.getfield 29, 3) := by decide +kernel
theorem dX7_heldBy_16 : decode cX7_heldBy 16 = .ok (.iload_n 3, 1) := by decide +kernel
theorem dX7_heldBy_17 : decode cX7_heldBy 17 = .ok (.aaload, 1) := by decide +kernel
theorem dX7_heldBy_18 : decode cX7_heldBy 18 = .ok (.invokevirtual 62, 3) := by decide +kernel
theorem dX7_heldBy_21 : decode cX7_heldBy 21 = .ok (.ifCond .eq 19, 3) := by decide +kernel
theorem dX7_heldBy_24 : decode cX7_heldBy 24 = .ok (.aload_n 0, 1) := by decide +kernel
theorem dX7_heldBy_25 : decode cX7_heldBy 25 = .ok (.getfield 29, 3) := by decide +kernel
theorem dX7_heldBy_28 : decode cX7_heldBy 28 = .ok (.iload_n 3, 1) := by decide +kernel
theorem dX7_heldBy_29 : decode cX7_heldBy 29 = .ok (.aaload, 1) := by decide +kernel
theorem dX7_heldBy_30 : decode cX7_heldBy 30 = .ok (.getfield 66, 3) := by decide +kernel
theorem dX7_heldBy_33 : decode cX7_heldBy 33 = .ok (.iload_n 1, 1) := by decide +kernel
theorem dX7_heldBy_34 : decode cX7_heldBy 34 = .ok (.if_icmp .ne 6, 3) := by decide +kernel
theorem dX7_heldBy_37 : decode cX7_heldBy 37 = .ok (.iinc 2 1, 3) := by decide +kernel
theorem dX7_heldBy_40 : decode cX7_heldBy 40 = .ok (.iinc 3 1, 3) := by decide +kernel
theorem dX7_heldBy_43 : decode cX7_heldBy 43 = .ok (.goto (-39), 3) := by decide +kernel
theorem dX7_heldBy_46 : decode cX7_heldBy 46 = .ok (.iload_n 2, 1) := by decide +kernel
theorem dX7_heldBy_47 : decode cX7_heldBy 47 = .ok (.ireturn, 1) := by decide +kernel
theorem dX7_living_0 : decode cX7_living 0 = .ok (.iconst 0, 1) := by decide +kernel
theorem dX7_living_1 : decode cX7_living 1 = .ok (.istore_n 1, 1) := by decide +kernel
theorem dX7_living_2 : decode cX7_living 2 = .ok (.iconst 0, 1) := by decide +kernel
theorem dX7_living_3 : decode cX7_living 3 = .ok (.istore_n 2, 1) := by decide +kernel
theorem dX7_living_4 : decode cX7_living 4 = .ok (.iload_n 2, 1) := by decide +kernel
theorem dX7_living_5 : decode cX7_living 5 = .ok (.aload_n 0, 1) := by decide +kernel
theorem dX7_living_6 : decode cX7_living 6 = .ok (.getfield 44, 3) := by decide +kernel
theorem dX7_living_9 : decode cX7_living 9 = .ok (.if_icmp .ge 24, 3) := by decide +kernel
theorem dX7_living_12 : decode cX7_living 12 = .ok (.aload_n 0, 1) := by decide +kernel
theorem dX7_living_13 : decode cX7_living 13 = .ok (.getfield 29, 3) := by decide +kernel
theorem dX7_living_16 : decode cX7_living 16 = .ok (.iload_n 2, 1) := by decide +kernel
theorem dX7_living_17 : decode cX7_living 17 = .ok (.aaload, 1) := by decide +kernel
theorem dX7_living_18 : decode cX7_living 18 = .ok (.invokevirtual 62, 3) := by decide +kernel
theorem dX7_living_21 : decode cX7_living 21 = .ok (.ifCond .eq 6, 3) := by decide +kernel
theorem dX7_living_24 : decode cX7_living 24 = .ok (.iinc 1 1, 3) := by decide +kernel
theorem dX7_living_27 : decode cX7_living 27 = .ok (.iinc 2 1, 3) := by decide +kernel
theorem dX7_living_30 : decode cX7_living 30 = .ok (.goto (-26), 3) := by decide +kernel
theorem dX7_living_33 : decode cX7_living 33 = .ok (.iload_n 1, 1) := by decide +kernel
theorem dX7_living_34 : decode cX7_living 34 = .ok (.ireturn, 1) := by decide +kernel
theorem dX7_allFeasts_0 : decode cX7_allFeasts 0 = .ok (.iconst 0, 1) := by decide +kernel
theorem dX7_allFeasts_1 : decode cX7_allFeasts 1 = .ok (.istore_n 1, 1) := by decide +kernel
theorem dX7_allFeasts_2 : decode cX7_allFeasts 2 = .ok (.iconst 0, 1) := by decide +kernel
theorem dX7_allFeasts_3 : decode cX7_allFeasts 3 = .ok (.istore_n 2, 1) := by decide +kernel
theorem dX7_allFeasts_4 : decode cX7_allFeasts 4 = .ok (.iload_n 2, 1) := by decide +kernel
theorem dX7_allFeasts_5 : decode cX7_allFeasts 5 = .ok (.aload_n 0, 1) := by decide +kernel
theorem dX7_allFeasts_6 : decode cX7_allFeasts 6 = .ok (.getfield 34, 3) := by decide +kernel
theorem dX7_allFeasts_9 : decode cX7_allFeasts 9 = .ok (.if_icmp .ge 18, 3) := by decide +kernel
theorem dX7_allFeasts_12 : decode cX7_allFeasts 12 = .ok (.iload_n 1, 1) := by decide +kernel
theorem dX7_allFeasts_13 : decode cX7_allFeasts 13 = .ok (.aload_n 0, 1) := by decide +kernel
theorem dX7_allFeasts_14 : decode cX7_allFeasts 14 = .ok (.getfield 18, 3) := by decide +kernel
theorem dX7_allFeasts_17 : decode cX7_allFeasts 17 = .ok (.iload_n 2, 1) := by decide +kernel
theorem dX7_allFeasts_18 : decode cX7_allFeasts 18 = .ok (.iaload, 1) := by decide +kernel
theorem dX7_allFeasts_19 : decode cX7_allFeasts 19 = .ok (.iadd, 1) := by decide +kernel
theorem dX7_allFeasts_20 : decode cX7_allFeasts 20 = .ok (.istore_n 1, 1) := by decide +kernel
theorem dX7_allFeasts_21 : decode cX7_allFeasts 21 = .ok (.iinc 2 1, 3) := by decide +kernel
theorem dX7_allFeasts_24 : decode cX7_allFeasts 24 = .ok (.goto (-20), 3) := by decide +kernel
theorem dX7_allFeasts_27 : decode cX7_allFeasts 27 = .ok (.iload_n 1, 1) := by decide +kernel
theorem dX7_allFeasts_28 : decode cX7_allFeasts 28 = .ok (.ireturn, 1) := by decide +kernel
theorem dX7_balance_0 : decode cX7_balance 0 = .ok (.iconst 0, 1) := by decide +kernel
theorem dX7_balance_1 : decode cX7_balance 1 = .ok (.istore_n 2, 1) := by decide +kernel
theorem dX7_balance_2 : decode cX7_balance 2 = .ok (.iconst 0, 1) := by decide +kernel
theorem dX7_balance_3 : decode cX7_balance 3 = .ok (.istore_n 3, 1) := by decide +kernel
theorem dX7_balance_4 : decode cX7_balance 4 = .ok (.iload_n 3, 1) := by decide +kernel
theorem dX7_balance_5 : decode cX7_balance 5 = .ok (.aload_n 0, 1) := by decide +kernel
theorem dX7_balance_6 : decode cX7_balance 6 = .ok (.getfield 34, 3) := by decide +kernel
theorem dX7_balance_9 : decode cX7_balance 9 = .ok (.if_icmp .ge 33, 3) := by decide +kernel
theorem dX7_balance_12 : decode cX7_balance 12 = .ok (.iload_n 2, 1) := by decide +kernel
theorem dX7_balance_13 : decode cX7_balance 13 = .ok (.aload_n 0, 1) := by decide +kernel
theorem dX7_balance_14 : decode cX7_balance 14 = .ok (.getfield 24, 3) := by decide +kernel
theorem dX7_balance_17 : decode cX7_balance 17 = .ok (.iload_n 3, 1) := by decide +kernel
theorem dX7_balance_18 : decode cX7_balance 18 = .ok (.iload_n 1, 1) := by decide +kernel
theorem dX7_balance_19 : decode cX7_balance 19 = .ok (.invokestatic 69, 3) := by decide +kernel
theorem dX7_balance_22 : decode cX7_balance 22 = .ok (.iaload, 1) := by decide +kernel
theorem dX7_balance_23 : decode cX7_balance 23 = .ok (.aload_n 0, 1) := by decide +kernel
theorem dX7_balance_24 : decode cX7_balance 24 = .ok (.getfield 24, 3) := by decide +kernel
theorem dX7_balance_27 : decode cX7_balance 27 = .ok (.iload_n 1, 1) := by decide +kernel
theorem dX7_balance_28 : decode cX7_balance 28 = .ok (.iload_n 3, 1) := by decide +kernel
theorem dX7_balance_29 : decode cX7_balance 29 = .ok (.invokestatic 69, 3) := by decide +kernel
theorem dX7_balance_32 : decode cX7_balance 32 = .ok (.iaload, 1) := by decide +kernel
theorem dX7_balance_33 : decode cX7_balance 33 = .ok (.isub, 1) := by decide +kernel
theorem dX7_balance_34 : decode cX7_balance 34 = .ok (.iadd, 1) := by decide +kernel
theorem dX7_balance_35 : decode cX7_balance 35 = .ok (.istore_n 2, 1) := by decide +kernel
theorem dX7_balance_36 : decode cX7_balance 36 = .ok (.iinc 3 1, 3) := by decide +kernel
theorem dX7_balance_39 : decode cX7_balance 39 = .ok (.goto (-35), 3) := by decide +kernel
theorem dX7_balance_42 : decode cX7_balance 42 = .ok (.iload_n 2, 1) := by decide +kernel
theorem dX7_balance_43 : decode cX7_balance 43 = .ok (.ireturn, 1) := by decide +kernel
theorem dX7_mayHave_0 : decode cX7_mayHave 0 = .ok (.aload_n 0, 1) := by decide +kernel
theorem dX7_mayHave_1 : decode cX7_mayHave 1 = .ok (.getfield 15, 3) := by decide +kernel
theorem dX7_mayHave_4 : decode cX7_mayHave 4 = .ok (.iload_n 2, 1) := by decide +kernel
theorem dX7_mayHave_5 : decode cX7_mayHave 5 = .ok (.iaload, 1) := by decide +kernel
theorem dX7_mayHave_6 : decode cX7_mayHave 6 = .ok (.iload_n 1, 1) := by decide +kernel
theorem dX7_mayHave_7 : decode cX7_mayHave 7 = .ok (.invokestatic 58, 3) := by decide +kernel
theorem dX7_mayHave_10 : decode cX7_mayHave 10 = .ok (.iconst (-1), 1) := by decide +kernel
theorem dX7_mayHave_11 : decode cX7_mayHave 11 = .ok (.ixor, 1) := by decide +kernel
theorem dX7_mayHave_12 : decode cX7_mayHave 12 = .ok (.iand, 1) := by decide +kernel
theorem dX7_mayHave_13 : decode cX7_mayHave 13 = .ok (.istore 4, 2) := by decide +kernel
theorem dX7_mayHave_15 : decode cX7_mayHave 15 = .ok (.iload 4, 2) := by decide +kernel
theorem dX7_mayHave_17 : decode cX7_mayHave 17 = .ok (.ifCond .ne 7, 3) := by decide +kernel
theorem dX7_mayHave_20 : decode cX7_mayHave 20 = .ok (.iload_n 3, 1) := by decide +kernel
theorem dX7_mayHave_21 : decode cX7_mayHave 21 = .ok (.ifCond .ne 6, 3) := by decide +kernel
theorem dX7_mayHave_24 : decode cX7_mayHave 24 = .ok (.iload 4, 2) := by decide +kernel
theorem dX7_mayHave_26 : decode cX7_mayHave 26 = .ok (.ireturn, 1) := by decide +kernel
theorem dX7_mayHave_27 : decode cX7_mayHave 27 = .ok (.aload_n 0, 1) := by decide +kernel
theorem dX7_mayHave_28 : decode cX7_mayHave 28 = .ok (.getfield 15, 3) := by decide +kernel
theorem dX7_mayHave_31 : decode cX7_mayHave 31 = .ok (.iload_n 2, 1) := by decide +kernel
theorem dX7_mayHave_32 : decode cX7_mayHave 32 = .ok (.iaload, 1) := by decide +kernel
theorem dX7_mayHave_33 : decode cX7_mayHave 33 = .ok (.iload_n 1, 1) := by decide +kernel
theorem dX7_mayHave_34 : decode cX7_mayHave 34 = .ok (.invokestatic 58, 3) := by decide +kernel
theorem dX7_mayHave_37 : decode cX7_mayHave 37 = .ok (.iand, 1) := by decide +kernel
theorem dX7_mayHave_38 : decode cX7_mayHave 38 = .ok (.ireturn, 1) := by decide +kernel
theorem dX7_handOn_0 : decode cX7_handOn 0 = .ok (.aload_n 0, 1) := by decide +kernel
theorem dX7_handOn_1 : decode cX7_handOn 1 = .ok (.getfield 24, 3) := by decide +kernel
theorem dX7_handOn_4 : decode cX7_handOn 4 = .ok (.iload_n 2, 1) := by decide +kernel
theorem dX7_handOn_5 : decode cX7_handOn 5 = .ok (.aload_n 1, 1) := by decide +kernel
theorem dX7_handOn_6 : decode cX7_handOn 6 = .ok (.getfield 66, 3) := by decide +kernel
theorem dX7_handOn_9 : decode cX7_handOn 9 = .ok (.invokestatic 69, 3) := by decide +kernel
theorem dX7_handOn_12 : decode cX7_handOn 12 = .ok (.dup2, 1) := by decide +kernel
theorem dX7_handOn_13 : decode cX7_handOn 13 = .ok (.iaload, 1) := by decide +kernel
theorem dX7_handOn_14 : decode cX7_handOn 14 = .ok (.aload_n 1, 1) := by decide +kernel
theorem dX7_handOn_15 : decode cX7_handOn 15 = .ok (.invokevirtual 73, 3) := by decide +kernel
theorem dX7_handOn_18 : decode cX7_handOn 18 = .ok (.iadd, 1) := by decide +kernel
theorem dX7_handOn_19 : decode cX7_handOn 19 = .ok (.iastore, 1) := by decide +kernel
theorem dX7_handOn_20 : decode cX7_handOn 20 = .ok (.aload_n 1, 1) := by decide +kernel
theorem dX7_handOn_21 : decode cX7_handOn 21 = .ok (.iload_n 2, 1) := by decide +kernel
theorem dX7_handOn_22 : decode cX7_handOn 22 = .ok (.iload_n 3, 1) := by decide +kernel
theorem dX7_handOn_23 : decode cX7_handOn 23 = .ok (.invokevirtual 77, 3) := by decide +kernel
theorem dX7_handOn_26 : decode cX7_handOn 26 = .ok (.aload_n 1, 1) := by decide +kernel
theorem dX7_handOn_27 : decode cX7_handOn 27 = .ok (.getfield 80, 3) := by decide +kernel
theorem dX7_handOn_30 : decode cX7_handOn 30 = .ok (.iconst 1, 1) := by decide +kernel
theorem dX7_handOn_31 : decode cX7_handOn 31 = .ok (.if_icmp .ne 13, 3) := by decide +kernel
theorem dX7_handOn_34 : decode cX7_handOn 34 = .ok (.aload_n 0, 1) := by decide +kernel
theorem dX7_handOn_35 : decode cX7_handOn 35 = .ok (.getfield 18, 3) := by decide +kernel
theorem dX7_handOn_38 : decode cX7_handOn 38 = .ok (.iload_n 2, 1) := by decide +kernel
theorem dX7_handOn_39 : decode cX7_handOn 39 = .ok (.dup2, 1) := by decide +kernel
theorem dX7_handOn_40 : decode cX7_handOn 40 = .ok (.iaload, 1) := by decide +kernel
theorem dX7_handOn_41 : decode cX7_handOn 41 = .ok (.iconst 1, 1) := by decide +kernel
theorem dX7_handOn_42 : decode cX7_handOn 42 = .ok (.iadd, 1) := by decide +kernel
theorem dX7_handOn_43 : decode cX7_handOn 43 = .ok (.iastore, 1) := by decide +kernel
theorem dX7_handOn_44 : decode cX7_handOn 44 = .ok (.return_, 1) := by decide +kernel
theorem dX7_passYear_0 : decode cX7_passYear 0 = .ok (.aload_n 0, 1) := by decide +kernel
theorem dX7_passYear_1 : decode cX7_passYear 1 = .ok (.dup, 1) := by decide +kernel
theorem dX7_passYear_2 : decode cX7_passYear 2 = .ok (.getfield 51, 3) := by decide +kernel
theorem dX7_passYear_5 : decode cX7_passYear 5 = .ok (.iconst 1, 1) := by decide +kernel
theorem dX7_passYear_6 : decode cX7_passYear 6 = .ok (.iadd, 1) := by decide +kernel
theorem dX7_passYear_7 : decode cX7_passYear 7 = .ok (.putfield 51, 3) := by decide +kernel
theorem dX7_passYear_10 : decode cX7_passYear 10 = .ok (.iconst 0, 1) := by decide +kernel
theorem dX7_passYear_11 : decode cX7_passYear 11 = .ok (.istore_n 3, 1) := by decide +kernel
theorem dX7_passYear_12 : decode cX7_passYear 12 = .ok (.iload_n 3, 1) := by decide +kernel
theorem dX7_passYear_13 : decode cX7_passYear 13 = .ok (.aload_n 0, 1) := by decide +kernel
theorem dX7_passYear_14 : decode cX7_passYear 14 = .ok (.getfield 44, 3) := by decide +kernel
theorem dX7_passYear_17 : decode cX7_passYear 17 = .ok (.if_icmp .ge 36, 3) := by decide +kernel
theorem dX7_passYear_20 : decode cX7_passYear 20 = .ok (.aload_n 0, 1) := by decide +kernel
theorem dX7_passYear_21 : decode cX7_passYear 21 = .ok (.getfield 29, 3) := by decide +kernel
theorem dX7_passYear_24 : decode cX7_passYear 24 = .ok (.iload_n 3, 1) := by decide +kernel
theorem dX7_passYear_25 : decode cX7_passYear 25 = .ok (.aaload, 1) := by decide +kernel
theorem dX7_passYear_26 : decode cX7_passYear 26 = .ok (.invokevirtual 62, 3) := by decide +kernel
theorem dX7_passYear_29 : decode cX7_passYear 29 = .ok (.ifCond .eq 18, 3) := by decide +kernel
theorem dX7_passYear_32 : decode cX7_passYear 32 = .ok (.aload_n 0, 1) := by decide +kernel
theorem dX7_passYear_33 : decode cX7_passYear 33 = .ok (.getfield 29, 3) := by decide +kernel
theorem dX7_passYear_36 : decode cX7_passYear 36 = .ok (.iload_n 3, 1) := by decide +kernel
theorem dX7_passYear_37 : decode cX7_passYear 37 = .ok (.aaload, 1) := by decide +kernel
theorem dX7_passYear_38 : decode cX7_passYear 38 = .ok (.dup, 1) := by decide +kernel
theorem dX7_passYear_39 : decode cX7_passYear 39 = .ok (.getfield 83, 3) := by decide +kernel
theorem dX7_passYear_42 : decode cX7_passYear 42 = .ok (.iconst 1, 1) := by decide +kernel
theorem dX7_passYear_43 : decode cX7_passYear 43 = .ok (.iadd, 1) := by decide +kernel
theorem dX7_passYear_44 : decode cX7_passYear 44 = .ok (.putfield 83, 3) := by decide +kernel
theorem dX7_passYear_47 : decode cX7_passYear 47 = .ok (.iinc 3 1, 3) := by decide +kernel
theorem dX7_passYear_50 : decode cX7_passYear 50 = .ok (.goto (-38), 3) := by decide +kernel
theorem dX7_passYear_53 : decode cX7_passYear 53 = .ok (.iconst 0, 1) := by decide +kernel
theorem dX7_passYear_54 : decode cX7_passYear 54 = .ok (.istore_n 3, 1) := by decide +kernel
theorem dX7_passYear_55 : decode cX7_passYear 55 = .ok (.iconst 0, 1) := by decide +kernel
theorem dX7_passYear_56 : decode cX7_passYear 56 = .ok (.istore 4, 2) := by decide +kernel
theorem dX7_passYear_58 : decode cX7_passYear 58 = .ok (.iconst 0, 1) := by decide +kernel
theorem dX7_passYear_59 : decode cX7_passYear 59 = .ok (.istore 5, 2) := by decide +kernel
theorem dX7_passYear_61 : decode cX7_passYear 61 = .ok (.iload 5, 2) := by decide +kernel
theorem dX7_passYear_63 : decode cX7_passYear 63 = .ok (.aload_n 0, 1) := by decide +kernel
theorem dX7_passYear_64 : decode cX7_passYear 64 = .ok (.getfield 44, 3) := by decide +kernel
theorem dX7_passYear_67 : decode cX7_passYear 67 = .ok (.if_icmp .ge 154, 3) := by decide +kernel
theorem dX7_passYear_70 : decode cX7_passYear 70 = .ok (.aload_n 0, 1) := by decide +kernel
theorem dX7_passYear_71 : decode cX7_passYear 71 = .ok (.getfield 29, 3) := by decide +kernel
theorem dX7_passYear_74 : decode cX7_passYear 74 = .ok (.iload 5, 2) := by decide +kernel
theorem dX7_passYear_76 : decode cX7_passYear 76 = .ok (.aaload, 1) := by decide +kernel
theorem dX7_passYear_77 : decode cX7_passYear 77 = .ok (.getfield 66, 3) := by decide +kernel
theorem dX7_passYear_80 : decode cX7_passYear 80 = .ok (.istore 6, 2) := by decide +kernel
theorem dX7_passYear_82 : decode cX7_passYear 82 = .ok (.aload_n 0, 1) := by decide +kernel
theorem dX7_passYear_83 : decode cX7_passYear 83 = .ok (.getfield 29, 3) := by decide +kernel
theorem dX7_passYear_86 : decode cX7_passYear 86 = .ok (.iload 5, 2) := by decide +kernel
theorem dX7_passYear_88 : decode cX7_passYear 88 = .ok (.aaload, 1) := by decide +kernel
theorem dX7_passYear_89 : decode cX7_passYear 89 = .ok (.aload_n 1, 1) := by decide +kernel
theorem dX7_passYear_90 : decode cX7_passYear 90 = .ok (.getfield 86, 3) := by decide +kernel
theorem dX7_passYear_93 : decode cX7_passYear 93 = .ok (.invokevirtual 91, 3) := by decide +kernel
theorem dX7_passYear_96 : decode cX7_passYear 96 = .ok (.ifCond .ne 6, 3) := by decide +kernel
theorem dX7_passYear_99 : decode cX7_passYear 99 = .ok (.goto 116, 3) := by decide +kernel
theorem dX7_passYear_102 : decode cX7_passYear 102 = .ok (.aload_n 1, 1) := by decide +kernel
theorem dX7_passYear_103 : decode cX7_passYear 103 = .ok (.getfield 95, 3) := by decide +kernel
theorem dX7_passYear_106 : decode cX7_passYear 106 = .ok (.ifCond .eq 17, 3) := by decide +kernel
theorem dX7_passYear_109 : decode cX7_passYear 109 = .ok (.iload 4, 2) := by decide +kernel
theorem dX7_passYear_111 : decode cX7_passYear 111 = .ok (.iload 6, 2) := by decide +kernel
theorem dX7_passYear_113 : decode cX7_passYear 113 = .ok (.invokestatic 58, 3) := by decide +kernel
theorem dX7_passYear_116 : decode cX7_passYear 116 = .ok (.iand, 1) := by decide +kernel
theorem dX7_passYear_117 : decode cX7_passYear 117 = .ok (.ifCond .eq 6, 3) := by decide +kernel
theorem dX7_passYear_120 : decode cX7_passYear 120 = .ok (.goto 95, 3) := by decide +kernel
theorem dX7_passYear_123 : decode cX7_passYear 123 = .ok (.aload_n 0, 1) := by decide +kernel
theorem dX7_passYear_124 : decode cX7_passYear 124 = .ok (.aload_n 0, 1) := by decide +kernel
theorem dX7_passYear_125 : decode cX7_passYear 125 = .ok (.getfield 29, 3) := by decide +kernel
theorem dX7_passYear_128 : decode cX7_passYear 128 = .ok (.iload 5, 2) := by decide +kernel
theorem dX7_passYear_130 : decode cX7_passYear 130 = .ok (.aaload, 1) := by decide +kernel
theorem dX7_passYear_131 : decode cX7_passYear 131 = .ok (.getfield 99, 3) := by decide +kernel
theorem dX7_passYear_134 : decode cX7_passYear 134 = .ok (.iload 6, 2) := by decide +kernel
theorem dX7_passYear_136 : decode cX7_passYear 136 = .ok (.aload_n 1, 1) := by decide +kernel
theorem dX7_passYear_137 : decode cX7_passYear 137 = .ok (.getfield 102, 3) := by decide +kernel
theorem dX7_passYear_140 : decode cX7_passYear 140 = .ok (.invokevirtual 105, 3) := by decide +kernel
theorem dX7_passYear_143 : decode cX7_passYear 143 = .ok (.istore 7, 2) := by decide +kernel
theorem dX7_passYear_145 : decode cX7_passYear 145 = .ok (.iload 7, 2) := by decide +kernel
theorem dX7_passYear_147 : decode cX7_passYear 147 = .ok (.ifCond .ne 6, 3) := by decide +kernel
theorem dX7_passYear_150 : decode cX7_passYear 150 = .ok (.goto 65, 3) := by decide +kernel
theorem dX7_passYear_153 : decode cX7_passYear 153 = .ok (.aload_n 2, 1) := by decide +kernel
theorem dX7_passYear_154 : decode cX7_passYear 154 = .ok (.ifnonnull 14, 3) := by decide +kernel
theorem dX7_passYear_157 : decode cX7_passYear 157 = .ok (.aload_n 0, 1) := by decide +kernel
theorem dX7_passYear_158 : decode cX7_passYear 158 = .ok (.iload 6, 2) := by decide +kernel
theorem dX7_passYear_160 : decode cX7_passYear 160 = .ok (.iload 7, 2) := by decide +kernel
theorem dX7_passYear_162 : decode cX7_passYear 162 = .ok (.invokevirtual 109, 3) := by decide +kernel
theorem dX7_passYear_165 : decode cX7_passYear 165 = .ok (.goto 9, 3) := by decide +kernel
theorem dX7_passYear_168 : decode cX7_passYear 168 = .ok (.aload_n 2, 1) := by decide +kernel
theorem dX7_passYear_169 : decode cX7_passYear 169 = .ok (.iload 7, 2) := by decide +kernel
theorem dX7_passYear_171 : decode cX7_passYear 171 = .ok (.invokevirtual 112, 3) := by decide +kernel
theorem dX7_passYear_174 : decode cX7_passYear 174 = .ok (.istore 8, 2) := by decide +kernel
theorem dX7_passYear_176 : decode cX7_passYear 176 = .ok (.iload 8, 2) := by decide +kernel
theorem dX7_passYear_178 : decode cX7_passYear 178 = .ok (.iconst (-1), 1) := by decide +kernel
theorem dX7_passYear_179 : decode cX7_passYear 179 = .ok (.if_icmp .ne 6, 3) := by decide +kernel
theorem dX7_passYear_182 : decode cX7_passYear 182 = .ok (.goto 33, 3) := by decide +kernel
theorem dX7_passYear_185 : decode cX7_passYear 185 = .ok (.aload_n 0, 1) := by decide +kernel
theorem dX7_passYear_186 : decode cX7_passYear 186 = .ok (.aload_n 0, 1) := by decide +kernel
theorem dX7_passYear_187 : decode cX7_passYear 187 = .ok (.getfield 29, 3) := by decide +kernel
theorem dX7_passYear_190 : decode cX7_passYear 190 = .ok (.iload 5, 2) := by decide +kernel
theorem dX7_passYear_192 : decode cX7_passYear 192 = .ok (.aaload, 1) := by decide +kernel
theorem dX7_passYear_193 : decode cX7_passYear 193 = .ok (.iload 8, 2) := by decide +kernel
theorem dX7_passYear_195 : decode cX7_passYear 195 = .ok (.aload_n 1, 1) := by decide +kernel
theorem dX7_passYear_196 : decode cX7_passYear 196 = .ok (.getfield 117, 3) := by decide +kernel
theorem dX7_passYear_199 : decode cX7_passYear 199 = .ok (.invokevirtual 120, 3) := by decide +kernel
theorem dX7_passYear_202 : decode cX7_passYear 202 = .ok (.iload 4, 2) := by decide +kernel
theorem dX7_passYear_204 : decode cX7_passYear 204 = .ok (.iload 6, 2) := by decide +kernel
theorem dX7_passYear_206 : decode cX7_passYear 206 = .ok (.invokestatic 58, 3) := by decide +kernel
theorem dX7_passYear_209 : decode cX7_passYear 209 = .ok (.ior, 1) := by decide +kernel
theorem dX7_passYear_210 : decode cX7_passYear 210 = .ok (.istore 4, 2) := by decide +kernel
theorem dX7_passYear_212 : decode cX7_passYear 212 = .ok (.iinc 3 1, 3) := by decide +kernel
theorem dX7_passYear_215 : decode cX7_passYear 215 = .ok (.iinc 5 1, 3) := by decide +kernel
theorem dX7_passYear_218 : decode cX7_passYear 218 = .ok (.goto (-157), 3) := by decide +kernel
theorem dX7_passYear_221 : decode cX7_passYear 221 = .ok (.iload_n 3, 1) := by decide +kernel
theorem dX7_passYear_222 : decode cX7_passYear 222 = .ok (.ireturn, 1) := by decide +kernel
theorem dX7_chosenBy_0 : decode cX7_chosenBy 0 = .ok (.iconst (-1), 1) := by decide +kernel
theorem dX7_chosenBy_1 : decode cX7_chosenBy 1 = .ok (.istore_n 3, 1) := by decide +kernel
theorem dX7_chosenBy_2 : decode cX7_chosenBy 2 = .ok (.iconst 0, 1) := by decide +kernel
theorem dX7_chosenBy_3 : decode cX7_chosenBy 3 = .ok (.istore 4, 2) := by decide +kernel
theorem dX7_chosenBy_5 : decode cX7_chosenBy 5 = .ok (.iconst 0, 1) := by decide +kernel
theorem dX7_chosenBy_6 : decode cX7_chosenBy 6 = .ok (.istore 5, 2) := by decide +kernel
theorem dX7_chosenBy_8 : decode cX7_chosenBy 8 = .ok (.iload 5, 2) := by decide +kernel
theorem dX7_chosenBy_10 : decode cX7_chosenBy 10 = .ok (.aload_n 0, 1) := by decide +kernel
theorem dX7_chosenBy_11 : decode cX7_chosenBy 11 = .ok (.getfield 34, 3) := by decide +kernel
theorem dX7_chosenBy_14 : decode cX7_chosenBy 14 = .ok (.if_icmp .ge 50, 3) := by decide +kernel
theorem dX7_chosenBy_17 : decode cX7_chosenBy 17 = .ok (.iload_n 2, 1) := by decide +kernel
theorem dX7_chosenBy_18 : decode cX7_chosenBy 18 = .ok (.iload 5, 2) := by decide +kernel
theorem dX7_chosenBy_20 : decode cX7_chosenBy 20 = .ok (.invokestatic 58, 3) := by decide +kernel
theorem dX7_chosenBy_23 : decode cX7_chosenBy 23 = .ok (.iand, 1) := by decide +kernel
theorem dX7_chosenBy_24 : decode cX7_chosenBy 24 = .ok (.ifCond .ne 6, 3) := by decide +kernel
theorem dX7_chosenBy_27 : decode cX7_chosenBy 27 = .ok (.goto 31, 3) := by decide +kernel
theorem dX7_chosenBy_30 : decode cX7_chosenBy 30 = .ok (.aload_n 0, 1) := by decide +kernel
theorem dX7_chosenBy_31 : decode cX7_chosenBy 31 = .ok (.iload_n 1, 1) := by decide +kernel
theorem dX7_chosenBy_32 : decode cX7_chosenBy 32 = .ok (.iload 5, 2) := by decide +kernel
theorem dX7_chosenBy_34 : decode cX7_chosenBy 34 = .ok (.invokevirtual 124, 3) := by decide +kernel
theorem dX7_chosenBy_37 : decode cX7_chosenBy 37 = .ok (.istore 6, 2) := by decide +kernel
theorem dX7_chosenBy_39 : decode cX7_chosenBy 39 = .ok (.iload_n 3, 1) := by decide +kernel
theorem dX7_chosenBy_40 : decode cX7_chosenBy 40 = .ok (.iconst (-1), 1) := by decide +kernel
theorem dX7_chosenBy_41 : decode cX7_chosenBy 41 = .ok (.if_icmp .eq 10, 3) := by decide +kernel
theorem dX7_chosenBy_44 : decode cX7_chosenBy 44 = .ok (.iload 6, 2) := by decide +kernel
theorem dX7_chosenBy_46 : decode cX7_chosenBy 46 = .ok (.iload 4, 2) := by decide +kernel
theorem dX7_chosenBy_48 : decode cX7_chosenBy 48 = .ok (.if_icmp .le 10, 3) := by decide +kernel
theorem dX7_chosenBy_51 : decode cX7_chosenBy 51 = .ok (.iload 5, 2) := by decide +kernel
theorem dX7_chosenBy_53 : decode cX7_chosenBy 53 = .ok (.istore_n 3, 1) := by decide +kernel
theorem dX7_chosenBy_54 : decode cX7_chosenBy 54 = .ok (.iload 6, 2) := by decide +kernel
theorem dX7_chosenBy_56 : decode cX7_chosenBy 56 = .ok (.istore 4, 2) := by decide +kernel
theorem dX7_chosenBy_58 : decode cX7_chosenBy 58 = .ok (.iinc 5 1, 3) := by decide +kernel
theorem dX7_chosenBy_61 : decode cX7_chosenBy 61 = .ok (.goto (-53), 3) := by decide +kernel
theorem dX7_chosenBy_64 : decode cX7_chosenBy 64 = .ok (.iload_n 3, 1) := by decide +kernel
theorem dX7_chosenBy_65 : decode cX7_chosenBy 65 = .ok (.ireturn, 1) := by decide +kernel
theorem dX7_markOf_0 : decode cX7_markOf 0 = .ok (.aload_n 0, 1) := by decide +kernel
theorem dX7_markOf_1 : decode cX7_markOf 1 = .ok (.getfield 9, 3) := by decide +kernel
theorem dX7_markOf_4 : decode cX7_markOf 4 = .ok (.iload_n 1, 1) := by decide +kernel
theorem dX7_markOf_5 : decode cX7_markOf 5 = .ok (.iaload, 1) := by decide +kernel
theorem dX7_markOf_6 : decode cX7_markOf 6 = .ok (.tableswitch 42 0 2 #[26, 29, 31], 26) := by decide +kernel
theorem dX7_markOf_32 : decode cX7_markOf 32 = .ok (.iload_n 2, 1) := by decide +kernel
theorem dX7_markOf_33 : decode cX7_markOf 33 = .ok (.ineg, 1) := by decide +kernel
theorem dX7_markOf_34 : decode cX7_markOf 34 = .ok (.ireturn, 1) := by decide +kernel
theorem dX7_markOf_35 : decode cX7_markOf 35 = .ok (.iload_n 2, 1) := by decide +kernel
theorem dX7_markOf_36 : decode cX7_markOf 36 = .ok (.ireturn, 1) := by decide +kernel
theorem dX7_markOf_37 : decode cX7_markOf 37 = .ok (.aload_n 0, 1) := by decide +kernel
theorem dX7_markOf_38 : decode cX7_markOf 38 = .ok (.getfield 21, 3) := by decide +kernel
theorem dX7_markOf_41 : decode cX7_markOf 41 = .ok (.iload_n 1, 1) := by decide +kernel
theorem dX7_markOf_42 : decode cX7_markOf 42 = .ok (.iload_n 2, 1) := by decide +kernel
theorem dX7_markOf_43 : decode cX7_markOf 43 = .ok (.invokestatic 69, 3) := by decide +kernel
theorem dX7_markOf_46 : decode cX7_markOf 46 = .ok (.iaload, 1) := by decide +kernel
theorem dX7_markOf_47 : decode cX7_markOf 47 = .ok (.ireturn, 1) := by decide +kernel
theorem dX7_markOf_48 : decode cX7_markOf 48 = .ok (.aload_n 0, 1) := by decide +kernel
theorem dX7_markOf_49 : decode cX7_markOf 49 = .ok (.iload_n 2, 1) := by decide +kernel
theorem dX7_markOf_50 : decode cX7_markOf 50 = .ok (.invokevirtual 127, 3) := by decide +kernel
theorem dX7_markOf_53 : decode cX7_markOf 53 = .ok (.ineg, 1) := by decide +kernel
theorem dX7_markOf_54 : decode cX7_markOf 54 = .ok (.ireturn, 1) := by decide +kernel
end
section
theorem dL_cell_0 : decode cL_cell 0 = .ok (.iload_n 1, 1) := by decide +kernel
theorem dL_cell_1 : decode cL_cell 1 = .ok (.aload_n 0, 1) := by decide +kernel
theorem dL_cell_2 : decode cL_cell 2 = .ok (.arraylength, 1) := by decide +kernel
theorem dL_cell_3 : decode cL_cell 3 = .ok (.if_icmp .ge 9, 3) := by decide +kernel
theorem dL_cell_6 : decode cL_cell 6 = .ok (.aload_n 0, 1) := by decide +kernel
theorem dL_cell_7 : decode cL_cell 7 = .ok (.iload_n 1, 1) := by decide +kernel
theorem dL_cell_8 : decode cL_cell 8 = .ok (.iaload, 1) := by decide +kernel
theorem dL_cell_9 : decode cL_cell 9 = .ok (.goto 9, 3) := by decide +kernel
theorem dL_cell_12 : decode cL_cell 12 = .ok (.ldc 7, 2) := by decide +kernel
theorem dL_cell_14 : decode cL_cell 14 = .ok (.iload_n 1, 1) := by decide +kernel
theorem dL_cell_15 : decode cL_cell 15 = .ok (.iconst 1, 1) := by decide +kernel
theorem dL_cell_16 : decode cL_cell 16 = .ok (.iadd, 1) := by decide +kernel
theorem dL_cell_17 : decode cL_cell 17 = .ok (.imul, 1) := by decide +kernel
theorem dL_cell_18 : decode cL_cell 18 = .ok (.ireturn, 1) := by decide +kernel
theorem dL_at_0 : decode cL_at 0 = .ok (.iload_n 0, 1) := by decide +kernel
theorem dL_at_1 : decode cL_at 1 = .ok (.iconst 1, 1) := by decide +kernel
theorem dL_at_2 : decode cL_at 2 = .ok (.iushr, 1) := by decide +kernel
theorem dL_at_3 : decode cL_at 3 = .ok (.iload_n 1, 1) := by decide +kernel
theorem dL_at_4 : decode cL_at 4 = .ok (.irem, 1) := by decide +kernel
theorem dL_at_5 : decode cL_at 5 = .ok (.ireturn, 1) := by decide +kernel
theorem dL_lawText_0 : decode cL_lawText 0 = .ok (.iconst 0, 1) := by decide +kernel
theorem dL_lawText_1 : decode cL_lawText 1 = .ok (.istore_n 3, 1) := by decide +kernel
theorem dL_lawText_2 : decode cL_lawText 2 = .ok (.aload_n 1, 1) := by decide +kernel
theorem dL_lawText_3 : decode cL_lawText 3 = .ok (.iconst 0, 1) := by decide +kernel
theorem dL_lawText_4 : decode cL_lawText 4 = .ok (.iload_n 0, 1) := by decide +kernel
theorem dL_lawText_5 : decode cL_lawText 5 = .ok (.iconst 2, 1) := by decide +kernel
theorem dL_lawText_6 : decode cL_lawText 6 = .ok (.invokestatic 8, 3) := by decide +kernel
theorem dL_lawText_9 : decode cL_lawText 9 = .ok (.ifCond .ne 7, 3) := by decide +kernel
theorem dL_lawText_12 : decode cL_lawText 12 = .ok (.iconst 1, 1) := by decide +kernel
theorem dL_lawText_13 : decode cL_lawText 13 = .ok (.goto 12, 3) := by decide +kernel
theorem dL_lawText_16 : decode cL_lawText 16 = .ok (.iconst 1, 1) := by decide +kernel
theorem dL_lawText_17 : decode cL_lawText 17 = .ok (.iload_n 0, 1) := by decide +kernel
theorem dL_lawText_18 : decode cL_lawText 18 = .ok (.iconst 1, 1) := by decide +kernel
theorem dL_lawText_19 : decode cL_lawText 19 = .ok (.ishr, 1) := by decide +kernel
theorem dL_lawText_20 : decode cL_lawText 20 = .ok (.iconst 3, 1) := by decide +kernel
theorem dL_lawText_21 : decode cL_lawText 21 = .ok (.invokestatic 8, 3) := by decide +kernel
theorem dL_lawText_24 : decode cL_lawText 24 = .ok (.iadd, 1) := by decide +kernel
theorem dL_lawText_25 : decode cL_lawText 25 = .ok (.iastore, 1) := by decide +kernel
theorem dL_lawText_26 : decode cL_lawText 26 = .ok (.aload_n 1, 1) := by decide +kernel
theorem dL_lawText_27 : decode cL_lawText 27 = .ok (.iconst 1, 1) := by decide +kernel
theorem dL_lawText_28 : decode cL_lawText 28 = .ok (.iload_n 0, 1) := by decide +kernel
theorem dL_lawText_29 : decode cL_lawText 29 = .ok (.iconst 4, 1) := by decide +kernel
theorem dL_lawText_30 : decode cL_lawText 30 = .ok (.ishr, 1) := by decide +kernel
theorem dL_lawText_31 : decode cL_lawText 31 = .ok (.iconst 2, 1) := by decide +kernel
theorem dL_lawText_32 : decode cL_lawText 32 = .ok (.invokestatic 8, 3) := by decide +kernel
theorem dL_lawText_35 : decode cL_lawText 35 = .ok (.iastore, 1) := by decide +kernel
theorem dL_lawText_36 : decode cL_lawText 36 = .ok (.aload_n 1, 1) := by decide +kernel
theorem dL_lawText_37 : decode cL_lawText 37 = .ok (.iconst 2, 1) := by decide +kernel
theorem dL_lawText_38 : decode cL_lawText 38 = .ok (.iload_n 0, 1) := by decide +kernel
theorem dL_lawText_39 : decode cL_lawText 39 = .ok (.iconst 5, 1) := by decide +kernel
theorem dL_lawText_40 : decode cL_lawText 40 = .ok (.ishr, 1) := by decide +kernel
theorem dL_lawText_41 : decode cL_lawText 41 = .ok (.iconst 3, 1) := by decide +kernel
theorem dL_lawText_42 : decode cL_lawText 42 = .ok (.invokestatic 8, 3) := by decide +kernel
theorem dL_lawText_45 : decode cL_lawText 45 = .ok (.ifCond .ne 7, 3) := by decide +kernel
theorem dL_lawText_48 : decode cL_lawText 48 = .ok (.iconst 1, 1) := by decide +kernel
theorem dL_lawText_49 : decode cL_lawText 49 = .ok (.goto 4, 3) := by decide +kernel
theorem dL_lawText_52 : decode cL_lawText 52 = .ok (.iconst 0, 1) := by decide +kernel
theorem dL_lawText_53 : decode cL_lawText 53 = .ok (.iastore, 1) := by decide +kernel
theorem dL_lawText_54 : decode cL_lawText 54 = .ok (.aload_n 1, 1) := by decide +kernel
theorem dL_lawText_55 : decode cL_lawText 55 = .ok (.iconst 3, 1) := by decide +kernel
theorem dL_lawText_56 : decode cL_lawText 56 = .ok (.iload_n 0, 1) := by decide +kernel
theorem dL_lawText_57 : decode cL_lawText 57 = .ok (.bipush 7, 2) := by decide +kernel
theorem dL_lawText_59 : decode cL_lawText 59 = .ok (.ishr, 1) := by decide +kernel
theorem dL_lawText_60 : decode cL_lawText 60 = .ok (.iconst 2, 1) := by decide +kernel
theorem dL_lawText_61 : decode cL_lawText 61 = .ok (.invokestatic 8, 3) := by decide +kernel
theorem dL_lawText_64 : decode cL_lawText 64 = .ok (.ifCond .ne 7, 3) := by decide +kernel
theorem dL_lawText_67 : decode cL_lawText 67 = .ok (.iconst 3, 1) := by decide +kernel
theorem dL_lawText_68 : decode cL_lawText 68 = .ok (.goto 14, 3) := by decide +kernel
theorem dL_lawText_71 : decode cL_lawText 71 = .ok (.iconst 1, 1) := by decide +kernel
theorem dL_lawText_72 : decode cL_lawText 72 = .ok (.iload_n 0, 1) := by decide +kernel
theorem dL_lawText_73 : decode cL_lawText 73 = .ok (.bipush 8, 2) := by decide +kernel
theorem dL_lawText_75 : decode cL_lawText 75 = .ok (.ishr, 1) := by decide +kernel
theorem dL_lawText_76 : decode cL_lawText 76 = .ok (.bipush 9, 2) := by decide +kernel
theorem dL_lawText_78 : decode cL_lawText 78 = .ok (.invokestatic 8, 3) := by decide +kernel
theorem dL_lawText_81 : decode cL_lawText 81 = .ok (.iadd, 1) := by decide +kernel
theorem dL_lawText_82 : decode cL_lawText 82 = .ok (.iastore, 1) := by decide +kernel
theorem dL_lawText_83 : decode cL_lawText 83 = .ok (.iload_n 0, 1) := by decide +kernel
theorem dL_lawText_84 : decode cL_lawText 84 = .ok (.iconst 2, 1) := by decide +kernel
theorem dL_lawText_85 : decode cL_lawText 85 = .ok (.invokestatic 8, 3) := by decide +kernel
theorem dL_lawText_88 : decode cL_lawText 88 = .ok (.ifCond .le 23, 3) := by decide +kernel
theorem dL_lawText_91 : decode cL_lawText 91 = .ok (.aload_n 2, 1) := by decide +kernel
theorem dL_lawText_92 : decode cL_lawText 92 = .ok (.iload_n 3, 1) := by decide +kernel
theorem dL_lawText_93 : decode cL_lawText 93 = .ok (.iinc 3 1, 3) := by decide +kernel
theorem dL_lawText_96 : decode cL_lawText 96 = .ok (.bipush 107, 2) := by decide +kernel
theorem dL_lawText_98 : decode cL_lawText 98 = .ok (.iastore, 1) := by decide +kernel
theorem dL_lawText_99 : decode cL_lawText 99 = .ok (.aload_n 2, 1) := by decide +kernel
theorem dL_lawText_100 : decode cL_lawText 100 = .ok (.iload_n 3, 1) := by decide +kernel
theorem dL_lawText_101 : decode cL_lawText 101 = .ok (.iinc 3 1, 3) := by decide +kernel
theorem dL_lawText_104 : decode cL_lawText 104 = .ok (.bipush 48, 2) := by decide +kernel
theorem dL_lawText_106 : decode cL_lawText 106 = .ok (.aload_n 1, 1) := by decide +kernel
theorem dL_lawText_107 : decode cL_lawText 107 = .ok (.iconst 0, 1) := by decide +kernel
theorem dL_lawText_108 : decode cL_lawText 108 = .ok (.iaload, 1) := by decide +kernel
theorem dL_lawText_109 : decode cL_lawText 109 = .ok (.iadd, 1) := by decide +kernel
theorem dL_lawText_110 : decode cL_lawText 110 = .ok (.iastore, 1) := by decide +kernel
theorem dL_lawText_111 : decode cL_lawText 111 = .ok (.aload_n 1, 1) := by decide +kernel
theorem dL_lawText_112 : decode cL_lawText 112 = .ok (.iconst 1, 1) := by decide +kernel
theorem dL_lawText_113 : decode cL_lawText 113 = .ok (.iaload, 1) := by decide +kernel
theorem dL_lawText_114 : decode cL_lawText 114 = .ok (.iconst 1, 1) := by decide +kernel
theorem dL_lawText_115 : decode cL_lawText 115 = .ok (.if_icmp .ne 11, 3) := by decide +kernel
theorem dL_lawText_118 : decode cL_lawText 118 = .ok (.aload_n 2, 1) := by decide +kernel
theorem dL_lawText_119 : decode cL_lawText 119 = .ok (.iload_n 3, 1) := by decide +kernel
theorem dL_lawText_120 : decode cL_lawText 120 = .ok (.iinc 3 1, 3) := by decide +kernel
theorem dL_lawText_123 : decode cL_lawText 123 = .ok (.bipush 98, 2) := by decide +kernel
theorem dL_lawText_125 : decode cL_lawText 125 = .ok (.iastore, 1) := by decide +kernel
theorem dL_lawText_126 : decode cL_lawText 126 = .ok (.aload_n 1, 1) := by decide +kernel
theorem dL_lawText_127 : decode cL_lawText 127 = .ok (.iconst 2, 1) := by decide +kernel
theorem dL_lawText_128 : decode cL_lawText 128 = .ok (.iaload, 1) := by decide +kernel
theorem dL_lawText_129 : decode cL_lawText 129 = .ok (.iconst 1, 1) := by decide +kernel
theorem dL_lawText_130 : decode cL_lawText 130 = .ok (.if_icmp .ne 11, 3) := by decide +kernel
theorem dL_lawText_133 : decode cL_lawText 133 = .ok (.aload_n 2, 1) := by decide +kernel
theorem dL_lawText_134 : decode cL_lawText 134 = .ok (.iload_n 3, 1) := by decide +kernel
theorem dL_lawText_135 : decode cL_lawText 135 = .ok (.iinc 3 1, 3) := by decide +kernel
theorem dL_lawText_138 : decode cL_lawText 138 = .ok (.bipush 111, 2) := by decide +kernel
theorem dL_lawText_140 : decode cL_lawText 140 = .ok (.iastore, 1) := by decide +kernel
theorem dL_lawText_141 : decode cL_lawText 141 = .ok (.iload_n 0, 1) := by decide +kernel
theorem dL_lawText_142 : decode cL_lawText 142 = .ok (.bipush 7, 2) := by decide +kernel
theorem dL_lawText_144 : decode cL_lawText 144 = .ok (.ishr, 1) := by decide +kernel
theorem dL_lawText_145 : decode cL_lawText 145 = .ok (.iconst 2, 1) := by decide +kernel
theorem dL_lawText_146 : decode cL_lawText 146 = .ok (.invokestatic 8, 3) := by decide +kernel
theorem dL_lawText_149 : decode cL_lawText 149 = .ok (.ifCond .le 23, 3) := by decide +kernel
theorem dL_lawText_152 : decode cL_lawText 152 = .ok (.aload_n 2, 1) := by decide +kernel
theorem dL_lawText_153 : decode cL_lawText 153 = .ok (.iload_n 3, 1) := by decide +kernel
theorem dL_lawText_154 : decode cL_lawText 154 = .ok (.iinc 3 1, 3) := by decide +kernel
theorem dL_lawText_157 : decode cL_lawText 157 = .ok (.bipush 119, 2) := by decide +kernel
theorem dL_lawText_159 : decode cL_lawText 159 = .ok (.iastore, 1) := by decide +kernel
theorem dL_lawText_160 : decode cL_lawText 160 = .ok (.aload_n 2, 1) := by decide +kernel
theorem dL_lawText_161 : decode cL_lawText 161 = .ok (.iload_n 3, 1) := by decide +kernel
theorem dL_lawText_162 : decode cL_lawText 162 = .ok (.iinc 3 1, 3) := by decide +kernel
theorem dL_lawText_165 : decode cL_lawText 165 = .ok (.bipush 48, 2) := by decide +kernel
theorem dL_lawText_167 : decode cL_lawText 167 = .ok (.aload_n 1, 1) := by decide +kernel
theorem dL_lawText_168 : decode cL_lawText 168 = .ok (.iconst 3, 1) := by decide +kernel
theorem dL_lawText_169 : decode cL_lawText 169 = .ok (.iaload, 1) := by decide +kernel
theorem dL_lawText_170 : decode cL_lawText 170 = .ok (.iadd, 1) := by decide +kernel
theorem dL_lawText_171 : decode cL_lawText 171 = .ok (.iastore, 1) := by decide +kernel
theorem dL_lawText_172 : decode cL_lawText 172 = .ok (.iload_n 3, 1) := by decide +kernel
theorem dL_lawText_173 : decode cL_lawText 173 = .ok (.ireturn, 1) := by decide +kernel
theorem dL_write_0 : decode cL_write 0 = .ok (.iconst 0, 1) := by decide +kernel
theorem dL_write_1 : decode cL_write 1 = .ok (.istore_n 3, 1) := by decide +kernel
theorem dL_write_2 : decode cL_write 2 = .ok (.iload_n 3, 1) := by decide +kernel
theorem dL_write_3 : decode cL_write 3 = .ok (.iload_n 2, 1) := by decide +kernel
theorem dL_write_4 : decode cL_write 4 = .ok (.if_icmp .ge 25, 3) := by decide +kernel
theorem dL_write_7 : decode cL_write 7 = .ok (.aload_n 0, 1) := by decide +kernel
theorem dL_write_8 : decode cL_write 8 = .ok (.aload_n 1, 1) := by decide +kernel
theorem dL_write_9 : decode cL_write 9 = .ok (.iload_n 3, 1) := by decide +kernel
theorem dL_write_10 : decode cL_write 10 = .ok (.iaload, 1) := by decide +kernel
theorem dL_write_11 : decode cL_write 11 = .ok (.i2l, 1) := by decide +kernel
theorem dL_write_12 : decode cL_write 12 = .ok (.invokevirtual 14, 3) := by decide +kernel
theorem dL_write_15 : decode cL_write 15 = .ok (.iload_n 3, 1) := by decide +kernel
theorem dL_write_16 : decode cL_write 16 = .ok (.iconst 1, 1) := by decide +kernel
theorem dL_write_17 : decode cL_write 17 = .ok (.iadd, 1) := by decide +kernel
theorem dL_write_18 : decode cL_write 18 = .ok (.if_icmp .eq 5, 3) := by decide +kernel
theorem dL_write_21 : decode cL_write 21 = .ok (.iconst 0, 1) := by decide +kernel
theorem dL_write_22 : decode cL_write 22 = .ok (.ireturn, 1) := by decide +kernel
theorem dL_write_23 : decode cL_write 23 = .ok (.iinc 3 1, 3) := by decide +kernel
theorem dL_write_26 : decode cL_write 26 = .ok (.goto (-24), 3) := by decide +kernel
theorem dL_write_29 : decode cL_write 29 = .ok (.iconst 1, 1) := by decide +kernel
theorem dL_write_30 : decode cL_write 30 = .ok (.ireturn, 1) := by decide +kernel
theorem dL_people_0 : decode cL_people 0 = .ok (.aload_n 1, 1) := by decide +kernel
theorem dL_people_1 : decode cL_people 1 = .ok (.iload_n 2, 1) := by decide +kernel
theorem dL_people_2 : decode cL_people 2 = .ok (.invokestatic 20, 3) := by decide +kernel
theorem dL_people_5 : decode cL_people 5 = .ok (.istore 6, 2) := by decide +kernel
theorem dL_people_7 : decode cL_people 7 = .ok (.aload 4, 2) := by decide +kernel
theorem dL_people_9 : decode cL_people 9 = .ok (.iconst 0, 1) := by decide +kernel
theorem dL_people_10 : decode cL_people 10 = .ok (.iconst 2, 1) := by decide +kernel
theorem dL_people_11 : decode cL_people 11 = .ok (.iload 6, 2) := by decide +kernel
theorem dL_people_13 : decode cL_people 13 = .ok (.iload_n 3, 1) := by decide +kernel
theorem dL_people_14 : decode cL_people 14 = .ok (.iconst 1, 1) := by decide +kernel
theorem dL_people_15 : decode cL_people 15 = .ok (.isub, 1) := by decide +kernel
theorem dL_people_16 : decode cL_people 16 = .ok (.invokestatic 8, 3) := by decide +kernel
theorem dL_people_19 : decode cL_people 19 = .ok (.iadd, 1) := by decide +kernel
theorem dL_people_20 : decode cL_people 20 = .ok (.iastore, 1) := by decide +kernel
theorem dL_people_21 : decode cL_people 21 = .ok (.iconst 0, 1) := by decide +kernel
theorem dL_people_22 : decode cL_people 22 = .ok (.istore 7, 2) := by decide +kernel
theorem dL_people_24 : decode cL_people 24 = .ok (.iload 7, 2) := by decide +kernel
theorem dL_people_26 : decode cL_people 26 = .ok (.aload 4, 2) := by decide +kernel
theorem dL_people_28 : decode cL_people 28 = .ok (.iconst 0, 1) := by decide +kernel
theorem dL_people_29 : decode cL_people 29 = .ok (.iaload, 1) := by decide +kernel
theorem dL_people_30 : decode cL_people 30 = .ok (.if_icmp .ge 47, 3) := by decide +kernel
theorem dL_people_33 : decode cL_people 33 = .ok (.aload 4, 2) := by decide +kernel
theorem dL_people_35 : decode cL_people 35 = .ok (.iconst 1, 1) := by decide +kernel
theorem dL_people_36 : decode cL_people 36 = .ok (.iload 7, 2) := by decide +kernel
theorem dL_people_38 : decode cL_people 38 = .ok (.iadd, 1) := by decide +kernel
theorem dL_people_39 : decode cL_people 39 = .ok (.iload 6, 2) := by decide +kernel
theorem dL_people_41 : decode cL_people 41 = .ok (.iconst 3, 1) := by decide +kernel
theorem dL_people_42 : decode cL_people 42 = .ok (.iconst 2, 1) := by decide +kernel
theorem dL_people_43 : decode cL_people 43 = .ok (.iload 7, 2) := by decide +kernel
theorem dL_people_45 : decode cL_people 45 = .ok (.imul, 1) := by decide +kernel
theorem dL_people_46 : decode cL_people 46 = .ok (.iadd, 1) := by decide +kernel
theorem dL_people_47 : decode cL_people 47 = .ok (.ishr, 1) := by decide +kernel
theorem dL_people_48 : decode cL_people 48 = .ok (.iconst 4, 1) := by decide +kernel
theorem dL_people_49 : decode cL_people 49 = .ok (.invokestatic 8, 3) := by decide +kernel
theorem dL_people_52 : decode cL_people 52 = .ok (.iastore, 1) := by decide +kernel
theorem dL_people_53 : decode cL_people 53 = .ok (.aload_n 0, 1) := by decide +kernel
theorem dL_people_54 : decode cL_people 54 = .ok (.aload 4, 2) := by decide +kernel
theorem dL_people_56 : decode cL_people 56 = .ok (.iconst 1, 1) := by decide +kernel
theorem dL_people_57 : decode cL_people 57 = .ok (.iload 7, 2) := by decide +kernel
theorem dL_people_59 : decode cL_people 59 = .ok (.iadd, 1) := by decide +kernel
theorem dL_people_60 : decode cL_people 60 = .ok (.iaload, 1) := by decide +kernel
theorem dL_people_61 : decode cL_people 61 = .ok (.invokevirtual 24, 3) := by decide +kernel
theorem dL_people_64 : decode cL_people 64 = .ok (.iload 7, 2) := by decide +kernel
theorem dL_people_66 : decode cL_people 66 = .ok (.if_icmp .eq 5, 3) := by decide +kernel
theorem dL_people_69 : decode cL_people 69 = .ok (.iconst 0, 1) := by decide +kernel
theorem dL_people_70 : decode cL_people 70 = .ok (.ireturn, 1) := by decide +kernel
theorem dL_people_71 : decode cL_people 71 = .ok (.iinc 7 1, 3) := by decide +kernel
theorem dL_people_74 : decode cL_people 74 = .ok (.goto (-50), 3) := by decide +kernel
theorem dL_people_77 : decode cL_people 77 = .ok (.iconst 0, 1) := by decide +kernel
theorem dL_people_78 : decode cL_people 78 = .ok (.istore 7, 2) := by decide +kernel
theorem dL_people_80 : decode cL_people 80 = .ok (.iload 7, 2) := by decide +kernel
theorem dL_people_82 : decode cL_people 82 = .ok (.aload 4, 2) := by decide +kernel
theorem dL_people_84 : decode cL_people 84 = .ok (.iconst 0, 1) := by decide +kernel
theorem dL_people_85 : decode cL_people 85 = .ok (.iaload, 1) := by decide +kernel
theorem dL_people_86 : decode cL_people 86 = .ok (.if_icmp .ge 106, 3) := by decide +kernel
theorem dL_people_89 : decode cL_people 89 = .ok (.iconst 0, 1) := by decide +kernel
theorem dL_people_90 : decode cL_people 90 = .ok (.istore 8, 2) := by decide +kernel
theorem dL_people_92 : decode cL_people 92 = .ok (.iload 8, 2) := by decide +kernel
theorem dL_people_94 : decode cL_people 94 = .ok (.iload 7, 2) := by decide +kernel
theorem dL_people_96 : decode cL_people 96 = .ok (.if_icmp .ge 90, 3) := by decide +kernel
theorem dL_people_99 : decode cL_people 99 = .ok (.aload_n 1, 1) := by decide +kernel
theorem dL_people_100 : decode cL_people 100 = .ok (.iload_n 2, 1) := by decide +kernel
theorem dL_people_101 : decode cL_people 101 = .ok (.iconst 1, 1) := by decide +kernel
theorem dL_people_102 : decode cL_people 102 = .ok (.iadd, 1) := by decide +kernel
theorem dL_people_103 : decode cL_people 103 = .ok (.iload 7, 2) := by decide +kernel
theorem dL_people_105 : decode cL_people 105 = .ok (.iconst 4, 1) := by decide +kernel
theorem dL_people_106 : decode cL_people 106 = .ok (.irem, 1) := by decide +kernel
theorem dL_people_107 : decode cL_people 107 = .ok (.iadd, 1) := by decide +kernel
theorem dL_people_108 : decode cL_people 108 = .ok (.invokestatic 20, 3) := by decide +kernel
theorem dL_people_111 : decode cL_people 111 = .ok (.iconst 3, 1) := by decide +kernel
theorem dL_people_112 : decode cL_people 112 = .ok (.iload 8, 2) := by decide +kernel
theorem dL_people_114 : decode cL_people 114 = .ok (.imul, 1) := by decide +kernel
theorem dL_people_115 : decode cL_people 115 = .ok (.iload 7, 2) := by decide +kernel
theorem dL_people_117 : decode cL_people 117 = .ok (.iconst 4, 1) := by decide +kernel
theorem dL_people_118 : decode cL_people 118 = .ok (.idiv, 1) := by decide +kernel
theorem dL_people_119 : decode cL_people 119 = .ok (.iadd, 1) := by decide +kernel
theorem dL_people_120 : decode cL_people 120 = .ok (.ishr, 1) := by decide +kernel
theorem dL_people_121 : decode cL_people 121 = .ok (.istore 9, 2) := by decide +kernel
theorem dL_people_123 : decode cL_people 123 = .ok (.iload 9, 2) := by decide +kernel
theorem dL_people_125 : decode cL_people 125 = .ok (.iconst 5, 1) := by decide +kernel
theorem dL_people_126 : decode cL_people 126 = .ok (.invokestatic 8, 3) := by decide +kernel
theorem dL_people_129 : decode cL_people 129 = .ok (.iconst 2, 1) := by decide +kernel
theorem dL_people_130 : decode cL_people 130 = .ok (.if_icmp .le 6, 3) := by decide +kernel
theorem dL_people_133 : decode cL_people 133 = .ok (.goto 47, 3) := by decide +kernel
theorem dL_people_136 : decode cL_people 136 = .ok (.aload_n 0, 1) := by decide +kernel
theorem dL_people_137 : decode cL_people 137 = .ok (.iload 7, 2) := by decide +kernel
theorem dL_people_139 : decode cL_people 139 = .ok (.iload 8, 2) := by decide +kernel
theorem dL_people_141 : decode cL_people 141 = .ok (.iconst 1, 1) := by decide +kernel
theorem dL_people_142 : decode cL_people 142 = .ok (.invokevirtual 28, 3) := by decide +kernel
theorem dL_people_145 : decode cL_people 145 = .ok (.ifCond .eq 5, 3) := by decide +kernel
theorem dL_people_148 : decode cL_people 148 = .ok (.iconst 0, 1) := by decide +kernel
theorem dL_people_149 : decode cL_people 149 = .ok (.ireturn, 1) := by decide +kernel
theorem dL_people_150 : decode cL_people 150 = .ok (.aload 4, 2) := by decide +kernel
theorem dL_people_152 : decode cL_people 152 = .ok (.bipush 9, 2) := by decide +kernel
theorem dL_people_154 : decode cL_people 154 = .ok (.iload 7, 2) := by decide +kernel
theorem dL_people_156 : decode cL_people 156 = .ok (.iadd, 1) := by decide +kernel
theorem dL_people_157 : decode cL_people 157 = .ok (.dup2, 1) := by decide +kernel
theorem dL_people_158 : decode cL_people 158 = .ok (.iaload, 1) := by decide +kernel
theorem dL_people_159 : decode cL_people 159 = .ok (.iconst 1, 1) := by decide +kernel
theorem dL_people_160 : decode cL_people 160 = .ok (.iload 8, 2) := by decide +kernel
theorem dL_people_162 : decode cL_people 162 = .ok (.ishl, 1) := by decide +kernel
theorem dL_people_163 : decode cL_people 163 = .ok (.ior, 1) := by decide +kernel
theorem dL_people_164 : decode cL_people 164 = .ok (.iastore, 1) := by decide +kernel
theorem dL_people_165 : decode cL_people 165 = .ok (.aload 4, 2) := by decide +kernel
theorem dL_people_167 : decode cL_people 167 = .ok (.bipush 9, 2) := by decide +kernel
theorem dL_people_169 : decode cL_people 169 = .ok (.iload 8, 2) := by decide +kernel
theorem dL_people_171 : decode cL_people 171 = .ok (.iadd, 1) := by decide +kernel
theorem dL_people_172 : decode cL_people 172 = .ok (.dup2, 1) := by decide +kernel
theorem dL_people_173 : decode cL_people 173 = .ok (.iaload, 1) := by decide +kernel
theorem dL_people_174 : decode cL_people 174 = .ok (.iconst 1, 1) := by decide +kernel
theorem dL_people_175 : decode cL_people 175 = .ok (.iload 7, 2) := by decide +kernel
theorem dL_people_177 : decode cL_people 177 = .ok (.ishl, 1) := by decide +kernel
theorem dL_people_178 : decode cL_people 178 = .ok (.ior, 1) := by decide +kernel
theorem dL_people_179 : decode cL_people 179 = .ok (.iastore, 1) := by decide +kernel
theorem dL_people_180 : decode cL_people 180 = .ok (.iinc 8 1, 3) := by decide +kernel
theorem dL_people_183 : decode cL_people 183 = .ok (.goto (-91), 3) := by decide +kernel
theorem dL_people_186 : decode cL_people 186 = .ok (.iinc 7 1, 3) := by decide +kernel
theorem dL_people_189 : decode cL_people 189 = .ok (.goto (-109), 3) := by decide +kernel
theorem dL_people_192 : decode cL_people 192 = .ok (.iconst 0, 1) := by decide +kernel
theorem dL_people_193 : decode cL_people 193 = .ok (.istore 7, 2) := by decide +kernel
theorem dL_people_195 : decode cL_people 195 = .ok (.iload 7, 2) := by decide +kernel
theorem dL_people_197 : decode cL_people 197 = .ok (.bipush 8, 2) := by decide +kernel
theorem dL_people_199 : decode cL_people 199 = .ok (.if_icmp .ge 118, 3) := by decide +kernel
theorem dL_people_202 : decode cL_people 202 = .ok (.aload_n 1, 1) := by decide +kernel
theorem dL_people_203 : decode cL_people 203 = .ok (.iload_n 2, 1) := by decide +kernel
theorem dL_people_204 : decode cL_people 204 = .ok (.iconst 5, 1) := by decide +kernel
theorem dL_people_205 : decode cL_people 205 = .ok (.iadd, 1) := by decide +kernel
theorem dL_people_206 : decode cL_people 206 = .ok (.iload 7, 2) := by decide +kernel
theorem dL_people_208 : decode cL_people 208 = .ok (.iconst 4, 1) := by decide +kernel
theorem dL_people_209 : decode cL_people 209 = .ok (.irem, 1) := by decide +kernel
theorem dL_people_210 : decode cL_people 210 = .ok (.iadd, 1) := by decide +kernel
theorem dL_people_211 : decode cL_people 211 = .ok (.invokestatic 20, 3) := by decide +kernel
theorem dL_people_214 : decode cL_people 214 = .ok (.bipush 12, 2) := by decide +kernel
theorem dL_people_216 : decode cL_people 216 = .ok (.iload 7, 2) := by decide +kernel
theorem dL_people_218 : decode cL_people 218 = .ok (.iconst 4, 1) := by decide +kernel
theorem dL_people_219 : decode cL_people 219 = .ok (.idiv, 1) := by decide +kernel
theorem dL_people_220 : decode cL_people 220 = .ok (.imul, 1) := by decide +kernel
theorem dL_people_221 : decode cL_people 221 = .ok (.ishr, 1) := by decide +kernel
theorem dL_people_222 : decode cL_people 222 = .ok (.istore 8, 2) := by decide +kernel
theorem dL_people_224 : decode cL_people 224 = .ok (.iload 8, 2) := by decide +kernel
theorem dL_people_226 : decode cL_people 226 = .ok (.aload 4, 2) := by decide +kernel
theorem dL_people_228 : decode cL_people 228 = .ok (.iconst 0, 1) := by decide +kernel
theorem dL_people_229 : decode cL_people 229 = .ok (.iaload, 1) := by decide +kernel
theorem dL_people_230 : decode cL_people 230 = .ok (.invokestatic 8, 3) := by decide +kernel
theorem dL_people_233 : decode cL_people 233 = .ok (.istore 9, 2) := by decide +kernel
theorem dL_people_235 : decode cL_people 235 = .ok (.iload 9, 2) := by decide +kernel
theorem dL_people_237 : decode cL_people 237 = .ok (.iconst 1, 1) := by decide +kernel
theorem dL_people_238 : decode cL_people 238 = .ok (.iadd, 1) := by decide +kernel
theorem dL_people_239 : decode cL_people 239 = .ok (.iload 8, 2) := by decide +kernel
theorem dL_people_241 : decode cL_people 241 = .ok (.iconst 3, 1) := by decide +kernel
theorem dL_people_242 : decode cL_people 242 = .ok (.ishr, 1) := by decide +kernel
theorem dL_people_243 : decode cL_people 243 = .ok (.aload 4, 2) := by decide +kernel
theorem dL_people_245 : decode cL_people 245 = .ok (.iconst 0, 1) := by decide +kernel
theorem dL_people_246 : decode cL_people 246 = .ok (.iaload, 1) := by decide +kernel
theorem dL_people_247 : decode cL_people 247 = .ok (.iconst 1, 1) := by decide +kernel
theorem dL_people_248 : decode cL_people 248 = .ok (.isub, 1) := by decide +kernel
theorem dL_people_249 : decode cL_people 249 = .ok (.invokestatic 8, 3) := by decide +kernel
theorem dL_people_252 : decode cL_people 252 = .ok (.iadd, 1) := by decide +kernel
theorem dL_people_253 : decode cL_people 253 = .ok (.aload 4, 2) := by decide +kernel
theorem dL_people_255 : decode cL_people 255 = .ok (.iconst 0, 1) := by decide +kernel
theorem dL_people_256 : decode cL_people 256 = .ok (.iaload, 1) := by decide +kernel
theorem dL_people_257 : decode cL_people 257 = .ok (.irem, 1) := by decide +kernel
theorem dL_people_258 : decode cL_people 258 = .ok (.istore 10, 2) := by decide +kernel
theorem dL_people_260 : decode cL_people 260 = .ok (.iload 8, 2) := by decide +kernel
theorem dL_people_262 : decode cL_people 262 = .ok (.bipush 6, 2) := by decide +kernel
theorem dL_people_264 : decode cL_people 264 = .ok (.ishr, 1) := by decide +kernel
theorem dL_people_265 : decode cL_people 265 = .ok (.bipush 10, 2) := by decide +kernel
theorem dL_people_267 : decode cL_people 267 = .ok (.invokestatic 8, 3) := by decide +kernel
theorem dL_people_270 : decode cL_people 270 = .ok (.istore 11, 2) := by decide +kernel
theorem dL_people_272 : decode cL_people 272 = .ok (.aload_n 0, 1) := by decide +kernel
theorem dL_people_273 : decode cL_people 273 = .ok (.iload 9, 2) := by decide +kernel
theorem dL_people_275 : decode cL_people 275 = .ok (.iload 10, 2) := by decide +kernel
theorem dL_people_277 : decode cL_people 277 = .ok (.iload 11, 2) := by decide +kernel
theorem dL_people_279 : decode cL_people 279 = .ok (.invokevirtual 32, 3) := by decide +kernel
theorem dL_people_282 : decode cL_people 282 = .ok (.aload 5, 2) := by decide +kernel
theorem dL_people_284 : decode cL_people 284 = .ok (.bipush 8, 2) := by decide +kernel
theorem dL_people_286 : decode cL_people 286 = .ok (.iload 9, 2) := by decide +kernel
theorem dL_people_288 : decode cL_people 288 = .ok (.imul, 1) := by decide +kernel
theorem dL_people_289 : decode cL_people 289 = .ok (.iload 10, 2) := by decide +kernel
theorem dL_people_291 : decode cL_people 291 = .ok (.iadd, 1) := by decide +kernel
theorem dL_people_292 : decode cL_people 292 = .ok (.iaload, 1) := by decide +kernel
theorem dL_people_293 : decode cL_people 293 = .ok (.if_icmp .eq 5, 3) := by decide +kernel
theorem dL_people_296 : decode cL_people 296 = .ok (.iconst 0, 1) := by decide +kernel
theorem dL_people_297 : decode cL_people 297 = .ok (.ireturn, 1) := by decide +kernel
theorem dL_people_298 : decode cL_people 298 = .ok (.aload 5, 2) := by decide +kernel
theorem dL_people_300 : decode cL_people 300 = .ok (.bipush 8, 2) := by decide +kernel
theorem dL_people_302 : decode cL_people 302 = .ok (.iload 9, 2) := by decide +kernel
theorem dL_people_304 : decode cL_people 304 = .ok (.imul, 1) := by decide +kernel
theorem dL_people_305 : decode cL_people 305 = .ok (.iload 10, 2) := by decide +kernel
theorem dL_people_307 : decode cL_people 307 = .ok (.iadd, 1) := by decide +kernel
theorem dL_people_308 : decode cL_people 308 = .ok (.iload 11, 2) := by decide +kernel
theorem dL_people_310 : decode cL_people 310 = .ok (.iastore, 1) := by decide +kernel
theorem dL_people_311 : decode cL_people 311 = .ok (.iinc 7 1, 3) := by decide +kernel
theorem dL_people_314 : decode cL_people 314 = .ok (.goto (-119), 3) := by decide +kernel
theorem dL_people_317 : decode cL_people 317 = .ok (.iconst 1, 1) := by decide +kernel
theorem dL_people_318 : decode cL_people 318 = .ok (.ireturn, 1) := by decide +kernel
theorem dL_gifts_0 : decode cL_gifts 0 = .ok (.aload 4, 2) := by decide +kernel
theorem dL_gifts_2 : decode cL_gifts 2 = .ok (.bipush 25, 2) := by decide +kernel
theorem dL_gifts_4 : decode cL_gifts 4 = .ok (.iconst 1, 1) := by decide +kernel
theorem dL_gifts_5 : decode cL_gifts 5 = .ok (.aload_n 1, 1) := by decide +kernel
theorem dL_gifts_6 : decode cL_gifts 6 = .ok (.iload_n 2, 1) := by decide +kernel
theorem dL_gifts_7 : decode cL_gifts 7 = .ok (.invokestatic 20, 3) := by decide +kernel
theorem dL_gifts_10 : decode cL_gifts 10 = .ok (.iload_n 3, 1) := by decide +kernel
theorem dL_gifts_11 : decode cL_gifts 11 = .ok (.invokestatic 8, 3) := by decide +kernel
theorem dL_gifts_14 : decode cL_gifts 14 = .ok (.iadd, 1) := by decide +kernel
theorem dL_gifts_15 : decode cL_gifts 15 = .ok (.iastore, 1) := by decide +kernel
theorem dL_gifts_16 : decode cL_gifts 16 = .ok (.iconst 0, 1) := by decide +kernel
theorem dL_gifts_17 : decode cL_gifts 17 = .ok (.istore 6, 2) := by decide +kernel
theorem dL_gifts_19 : decode cL_gifts 19 = .ok (.iload 6, 2) := by decide +kernel
theorem dL_gifts_21 : decode cL_gifts 21 = .ok (.aload 4, 2) := by decide +kernel
theorem dL_gifts_23 : decode cL_gifts 23 = .ok (.bipush 25, 2) := by decide +kernel
theorem dL_gifts_25 : decode cL_gifts 25 = .ok (.iaload, 1) := by decide +kernel
theorem dL_gifts_26 : decode cL_gifts 26 = .ok (.if_icmp .ge 126, 3) := by decide +kernel
theorem dL_gifts_29 : decode cL_gifts 29 = .ok (.aload_n 1, 1) := by decide +kernel
theorem dL_gifts_30 : decode cL_gifts 30 = .ok (.iload_n 2, 1) := by decide +kernel
theorem dL_gifts_31 : decode cL_gifts 31 = .ok (.iconst 1, 1) := by decide +kernel
theorem dL_gifts_32 : decode cL_gifts 32 = .ok (.iadd, 1) := by decide +kernel
theorem dL_gifts_33 : decode cL_gifts 33 = .ok (.iload 6, 2) := by decide +kernel
theorem dL_gifts_35 : decode cL_gifts 35 = .ok (.iconst 3, 1) := by decide +kernel
theorem dL_gifts_36 : decode cL_gifts 36 = .ok (.irem, 1) := by decide +kernel
theorem dL_gifts_37 : decode cL_gifts 37 = .ok (.iadd, 1) := by decide +kernel
theorem dL_gifts_38 : decode cL_gifts 38 = .ok (.invokestatic 20, 3) := by decide +kernel
theorem dL_gifts_41 : decode cL_gifts 41 = .ok (.bipush 9, 2) := by decide +kernel
theorem dL_gifts_43 : decode cL_gifts 43 = .ok (.iload 6, 2) := by decide +kernel
theorem dL_gifts_45 : decode cL_gifts 45 = .ok (.iconst 3, 1) := by decide +kernel
theorem dL_gifts_46 : decode cL_gifts 46 = .ok (.idiv, 1) := by decide +kernel
theorem dL_gifts_47 : decode cL_gifts 47 = .ok (.imul, 1) := by decide +kernel
theorem dL_gifts_48 : decode cL_gifts 48 = .ok (.ishr, 1) := by decide +kernel
theorem dL_gifts_49 : decode cL_gifts 49 = .ok (.istore 7, 2) := by decide +kernel
theorem dL_gifts_51 : decode cL_gifts 51 = .ok (.aload 5, 2) := by decide +kernel
theorem dL_gifts_53 : decode cL_gifts 53 = .ok (.bipush 8, 2) := by decide +kernel
theorem dL_gifts_55 : decode cL_gifts 55 = .ok (.iload 6, 2) := by decide +kernel
theorem dL_gifts_57 : decode cL_gifts 57 = .ok (.imul, 1) := by decide +kernel
theorem dL_gifts_58 : decode cL_gifts 58 = .ok (.iload 7, 2) := by decide +kernel
theorem dL_gifts_60 : decode cL_gifts 60 = .ok (.iconst 5, 1) := by decide +kernel
theorem dL_gifts_61 : decode cL_gifts 61 = .ok (.invokestatic 8, 3) := by decide +kernel
theorem dL_gifts_64 : decode cL_gifts 64 = .ok (.iastore, 1) := by decide +kernel
theorem dL_gifts_65 : decode cL_gifts 65 = .ok (.aload 5, 2) := by decide +kernel
theorem dL_gifts_67 : decode cL_gifts 67 = .ok (.bipush 8, 2) := by decide +kernel
theorem dL_gifts_69 : decode cL_gifts 69 = .ok (.iload 6, 2) := by decide +kernel
theorem dL_gifts_71 : decode cL_gifts 71 = .ok (.imul, 1) := by decide +kernel
theorem dL_gifts_72 : decode cL_gifts 72 = .ok (.iconst 1, 1) := by decide +kernel
theorem dL_gifts_73 : decode cL_gifts 73 = .ok (.iadd, 1) := by decide +kernel
theorem dL_gifts_74 : decode cL_gifts 74 = .ok (.iload 7, 2) := by decide +kernel
theorem dL_gifts_76 : decode cL_gifts 76 = .ok (.iconst 3, 1) := by decide +kernel
theorem dL_gifts_77 : decode cL_gifts 77 = .ok (.ishr, 1) := by decide +kernel
theorem dL_gifts_78 : decode cL_gifts 78 = .ok (.aload 4, 2) := by decide +kernel
theorem dL_gifts_80 : decode cL_gifts 80 = .ok (.iconst 0, 1) := by decide +kernel
theorem dL_gifts_81 : decode cL_gifts 81 = .ok (.iaload, 1) := by decide +kernel
theorem dL_gifts_82 : decode cL_gifts 82 = .ok (.invokestatic 8, 3) := by decide +kernel
theorem dL_gifts_85 : decode cL_gifts 85 = .ok (.iastore, 1) := by decide +kernel
theorem dL_gifts_86 : decode cL_gifts 86 = .ok (.aload 5, 2) := by decide +kernel
theorem dL_gifts_88 : decode cL_gifts 88 = .ok (.bipush 8, 2) := by decide +kernel
theorem dL_gifts_90 : decode cL_gifts 90 = .ok (.iload 6, 2) := by decide +kernel
theorem dL_gifts_92 : decode cL_gifts 92 = .ok (.imul, 1) := by decide +kernel
theorem dL_gifts_93 : decode cL_gifts 93 = .ok (.iconst 2, 1) := by decide +kernel
theorem dL_gifts_94 : decode cL_gifts 94 = .ok (.iadd, 1) := by decide +kernel
theorem dL_gifts_95 : decode cL_gifts 95 = .ok (.aload 5, 2) := by decide +kernel
theorem dL_gifts_97 : decode cL_gifts 97 = .ok (.bipush 8, 2) := by decide +kernel
theorem dL_gifts_99 : decode cL_gifts 99 = .ok (.iload 6, 2) := by decide +kernel
theorem dL_gifts_101 : decode cL_gifts 101 = .ok (.imul, 1) := by decide +kernel
theorem dL_gifts_102 : decode cL_gifts 102 = .ok (.iconst 1, 1) := by decide +kernel
theorem dL_gifts_103 : decode cL_gifts 103 = .ok (.iadd, 1) := by decide +kernel
theorem dL_gifts_104 : decode cL_gifts 104 = .ok (.iaload, 1) := by decide +kernel
theorem dL_gifts_105 : decode cL_gifts 105 = .ok (.iastore, 1) := by decide +kernel
theorem dL_gifts_106 : decode cL_gifts 106 = .ok (.aload 5, 2) := by decide +kernel
theorem dL_gifts_108 : decode cL_gifts 108 = .ok (.bipush 8, 2) := by decide +kernel
theorem dL_gifts_110 : decode cL_gifts 110 = .ok (.iload 6, 2) := by decide +kernel
theorem dL_gifts_112 : decode cL_gifts 112 = .ok (.imul, 1) := by decide +kernel
theorem dL_gifts_113 : decode cL_gifts 113 = .ok (.iconst 3, 1) := by decide +kernel
theorem dL_gifts_114 : decode cL_gifts 114 = .ok (.iadd, 1) := by decide +kernel
theorem dL_gifts_115 : decode cL_gifts 115 = .ok (.iconst (-1), 1) := by decide +kernel
theorem dL_gifts_116 : decode cL_gifts 116 = .ok (.iastore, 1) := by decide +kernel
theorem dL_gifts_117 : decode cL_gifts 117 = .ok (.aload_n 0, 1) := by decide +kernel
theorem dL_gifts_118 : decode cL_gifts 118 = .ok (.aload 5, 2) := by decide +kernel
theorem dL_gifts_120 : decode cL_gifts 120 = .ok (.bipush 8, 2) := by decide +kernel
theorem dL_gifts_122 : decode cL_gifts 122 = .ok (.iload 6, 2) := by decide +kernel
theorem dL_gifts_124 : decode cL_gifts 124 = .ok (.imul, 1) := by decide +kernel
theorem dL_gifts_125 : decode cL_gifts 125 = .ok (.iaload, 1) := by decide +kernel
theorem dL_gifts_126 : decode cL_gifts 126 = .ok (.aload 5, 2) := by decide +kernel
theorem dL_gifts_128 : decode cL_gifts 128 = .ok (.bipush 8, 2) := by decide +kernel
theorem dL_gifts_130 : decode cL_gifts 130 = .ok (.iload 6, 2) := by decide +kernel
theorem dL_gifts_132 : decode cL_gifts 132 = .ok (.imul, 1) := by decide +kernel
theorem dL_gifts_133 : decode cL_gifts 133 = .ok (.iconst 1, 1) := by decide +kernel
theorem dL_gifts_134 : decode cL_gifts 134 = .ok (.iadd, 1) := by decide +kernel
theorem dL_gifts_135 : decode cL_gifts 135 = .ok (.iaload, 1) := by decide +kernel
theorem dL_gifts_136 : decode cL_gifts 136 = .ok (.invokevirtual 36, 3) := by decide +kernel
theorem dL_gifts_139 : decode cL_gifts 139 = .ok (.iload 6, 2) := by decide +kernel
theorem dL_gifts_141 : decode cL_gifts 141 = .ok (.if_icmp .eq 5, 3) := by decide +kernel
theorem dL_gifts_144 : decode cL_gifts 144 = .ok (.iconst 0, 1) := by decide +kernel
theorem dL_gifts_145 : decode cL_gifts 145 = .ok (.ireturn, 1) := by decide +kernel
theorem dL_gifts_146 : decode cL_gifts 146 = .ok (.iinc 6 1, 3) := by decide +kernel
theorem dL_gifts_149 : decode cL_gifts 149 = .ok (.goto (-130), 3) := by decide +kernel
theorem dL_gifts_152 : decode cL_gifts 152 = .ok (.iconst 1, 1) := by decide +kernel
theorem dL_gifts_153 : decode cL_gifts 153 = .ok (.ireturn, 1) := by decide +kernel
theorem dL_may_0 : decode cL_may 0 = .ok (.aload_n 0, 1) := by decide +kernel
theorem dL_may_1 : decode cL_may 1 = .ok (.bipush 9, 2) := by decide +kernel
theorem dL_may_3 : decode cL_may 3 = .ok (.iload_n 2, 1) := by decide +kernel
theorem dL_may_4 : decode cL_may 4 = .ok (.iadd, 1) := by decide +kernel
theorem dL_may_5 : decode cL_may 5 = .ok (.iaload, 1) := by decide +kernel
theorem dL_may_6 : decode cL_may 6 = .ok (.istore 4, 2) := by decide +kernel
theorem dL_may_8 : decode cL_may 8 = .ok (.iload_n 3, 1) := by decide +kernel
theorem dL_may_9 : decode cL_may 9 = .ok (.ifCond .lt 13, 3) := by decide +kernel
theorem dL_may_12 : decode cL_may 12 = .ok (.iload 4, 2) := by decide +kernel
theorem dL_may_14 : decode cL_may 14 = .ok (.iconst 1, 1) := by decide +kernel
theorem dL_may_15 : decode cL_may 15 = .ok (.iload_n 3, 1) := by decide +kernel
theorem dL_may_16 : decode cL_may 16 = .ok (.ishl, 1) := by decide +kernel
theorem dL_may_17 : decode cL_may 17 = .ok (.iconst (-1), 1) := by decide +kernel
theorem dL_may_18 : decode cL_may 18 = .ok (.ixor, 1) := by decide +kernel
theorem dL_may_19 : decode cL_may 19 = .ok (.iand, 1) := by decide +kernel
theorem dL_may_20 : decode cL_may 20 = .ok (.istore 4, 2) := by decide +kernel
theorem dL_may_22 : decode cL_may 22 = .ok (.iload 4, 2) := by decide +kernel
theorem dL_may_24 : decode cL_may 24 = .ok (.ifCond .ne 26, 3) := by decide +kernel
theorem dL_may_27 : decode cL_may 27 = .ok (.aload_n 1, 1) := by decide +kernel
theorem dL_may_28 : decode cL_may 28 = .ok (.iconst 1, 1) := by decide +kernel
theorem dL_may_29 : decode cL_may 29 = .ok (.iaload, 1) := by decide +kernel
theorem dL_may_30 : decode cL_may 30 = .ok (.iconst 1, 1) := by decide +kernel
theorem dL_may_31 : decode cL_may 31 = .ok (.if_icmp .ne 19, 3) := by decide +kernel
theorem dL_may_34 : decode cL_may 34 = .ok (.iload_n 3, 1) := by decide +kernel
theorem dL_may_35 : decode cL_may 35 = .ok (.ifCond .lt 15, 3) := by decide +kernel
theorem dL_may_38 : decode cL_may 38 = .ok (.aload_n 0, 1) := by decide +kernel
theorem dL_may_39 : decode cL_may 39 = .ok (.bipush 9, 2) := by decide +kernel
theorem dL_may_41 : decode cL_may 41 = .ok (.iload_n 2, 1) := by decide +kernel
theorem dL_may_42 : decode cL_may 42 = .ok (.iadd, 1) := by decide +kernel
theorem dL_may_43 : decode cL_may 43 = .ok (.iaload, 1) := by decide +kernel
theorem dL_may_44 : decode cL_may 44 = .ok (.iconst 1, 1) := by decide +kernel
theorem dL_may_45 : decode cL_may 45 = .ok (.iload_n 3, 1) := by decide +kernel
theorem dL_may_46 : decode cL_may 46 = .ok (.ishl, 1) := by decide +kernel
theorem dL_may_47 : decode cL_may 47 = .ok (.iand, 1) := by decide +kernel
theorem dL_may_48 : decode cL_may 48 = .ok (.istore 4, 2) := by decide +kernel
theorem dL_may_50 : decode cL_may 50 = .ok (.iload 4, 2) := by decide +kernel
theorem dL_may_52 : decode cL_may 52 = .ok (.ireturn, 1) := by decide +kernel
theorem dL_worth_0 : decode cL_worth 0 = .ok (.aload_n 0, 1) := by decide +kernel
theorem dL_worth_1 : decode cL_worth 1 = .ok (.iload_n 1, 1) := by decide +kernel
theorem dL_worth_2 : decode cL_worth 2 = .ok (.iconst 4, 1) := by decide +kernel
theorem dL_worth_3 : decode cL_worth 3 = .ok (.iadd, 1) := by decide +kernel
theorem dL_worth_4 : decode cL_worth 4 = .ok (.iaload, 1) := by decide +kernel
theorem dL_worth_5 : decode cL_worth 5 = .ok (.bipush 9, 2) := by decide +kernel
theorem dL_worth_7 : decode cL_worth 7 = .ok (.if_icmp .ge 14, 3) := by decide +kernel
theorem dL_worth_10 : decode cL_worth 10 = .ok (.bipush 10, 2) := by decide +kernel
theorem dL_worth_12 : decode cL_worth 12 = .ok (.aload_n 0, 1) := by decide +kernel
theorem dL_worth_13 : decode cL_worth 13 = .ok (.iload_n 1, 1) := by decide +kernel
theorem dL_worth_14 : decode cL_worth 14 = .ok (.iconst 4, 1) := by decide +kernel
theorem dL_worth_15 : decode cL_worth 15 = .ok (.iadd, 1) := by decide +kernel
theorem dL_worth_16 : decode cL_worth 16 = .ok (.iaload, 1) := by decide +kernel
theorem dL_worth_17 : decode cL_worth 17 = .ok (.isub, 1) := by decide +kernel
theorem dL_worth_18 : decode cL_worth 18 = .ok (.goto 4, 3) := by decide +kernel
theorem dL_worth_21 : decode cL_worth 21 = .ok (.iconst 1, 1) := by decide +kernel
theorem dL_worth_22 : decode cL_worth 22 = .ok (.istore_n 2, 1) := by decide +kernel
theorem dL_worth_23 : decode cL_worth 23 = .ok (.aload_n 0, 1) := by decide +kernel
theorem dL_worth_24 : decode cL_worth 24 = .ok (.iload_n 1, 1) := by decide +kernel
theorem dL_worth_25 : decode cL_worth 25 = .ok (.iaload, 1) := by decide +kernel
theorem dL_worth_26 : decode cL_worth 26 = .ok (.iconst 2, 1) := by decide +kernel
theorem dL_worth_27 : decode cL_worth 27 = .ok (.if_icmp .ne 30, 3) := by decide +kernel
theorem dL_worth_30 : decode cL_worth 30 = .ok (.iload_n 2, 1) := by decide +kernel
theorem dL_worth_31 : decode cL_worth 31 = .ok (.aload_n 0, 1) := by decide +kernel
theorem dL_worth_32 : decode cL_worth 32 = .ok (.iload_n 1, 1) := by decide +kernel
theorem dL_worth_33 : decode cL_worth 33 = .ok (.bipush 6, 2) := by decide +kernel
theorem dL_worth_35 : decode cL_worth 35 = .ok (.iadd, 1) := by decide +kernel
theorem dL_worth_36 : decode cL_worth 36 = .ok (.iaload, 1) := by decide +kernel
theorem dL_worth_37 : decode cL_worth 37 = .ok (.bipush 9, 2) := by decide +kernel
theorem dL_worth_39 : decode cL_worth 39 = .ok (.if_icmp .ge 12, 3) := by decide +kernel
theorem dL_worth_42 : decode cL_worth 42 = .ok (.aload_n 0, 1) := by decide +kernel
theorem dL_worth_43 : decode cL_worth 43 = .ok (.iload_n 1, 1) := by decide +kernel
theorem dL_worth_44 : decode cL_worth 44 = .ok (.bipush 6, 2) := by decide +kernel
theorem dL_worth_46 : decode cL_worth 46 = .ok (.iadd, 1) := by decide +kernel
theorem dL_worth_47 : decode cL_worth 47 = .ok (.iaload, 1) := by decide +kernel
theorem dL_worth_48 : decode cL_worth 48 = .ok (.goto 5, 3) := by decide +kernel
theorem dL_worth_51 : decode cL_worth 51 = .ok (.bipush 9, 2) := by decide +kernel
theorem dL_worth_53 : decode cL_worth 53 = .ok (.iadd, 1) := by decide +kernel
theorem dL_worth_54 : decode cL_worth 54 = .ok (.goto 4, 3) := by decide +kernel
theorem dL_worth_57 : decode cL_worth 57 = .ok (.iload_n 2, 1) := by decide +kernel
theorem dL_worth_58 : decode cL_worth 58 = .ok (.ireturn, 1) := by decide +kernel
theorem dL_give_0 : decode cL_give 0 = .ok (.bipush 8, 2) := by decide +kernel
theorem dL_give_2 : decode cL_give 2 = .ok (.iload 4, 2) := by decide +kernel
theorem dL_give_4 : decode cL_give 4 = .ok (.imul, 1) := by decide +kernel
theorem dL_give_5 : decode cL_give 5 = .ok (.istore 6, 2) := by decide +kernel
theorem dL_give_7 : decode cL_give 7 = .ok (.aload_n 2, 1) := by decide +kernel
theorem dL_give_8 : decode cL_give 8 = .ok (.iload 6, 2) := by decide +kernel
theorem dL_give_10 : decode cL_give 10 = .ok (.iconst 2, 1) := by decide +kernel
theorem dL_give_11 : decode cL_give 11 = .ok (.iadd, 1) := by decide +kernel
theorem dL_give_12 : decode cL_give 12 = .ok (.iaload, 1) := by decide +kernel
theorem dL_give_13 : decode cL_give 13 = .ok (.istore 7, 2) := by decide +kernel
theorem dL_give_15 : decode cL_give 15 = .ok (.aload_n 3, 1) := by decide +kernel
theorem dL_give_16 : decode cL_give 16 = .ok (.bipush 8, 2) := by decide +kernel
theorem dL_give_18 : decode cL_give 18 = .ok (.iload 5, 2) := by decide +kernel
theorem dL_give_20 : decode cL_give 20 = .ok (.imul, 1) := by decide +kernel
theorem dL_give_21 : decode cL_give 21 = .ok (.iload 7, 2) := by decide +kernel
theorem dL_give_23 : decode cL_give 23 = .ok (.iadd, 1) := by decide +kernel
theorem dL_give_24 : decode cL_give 24 = .ok (.dup2, 1) := by decide +kernel
theorem dL_give_25 : decode cL_give 25 = .ok (.iaload, 1) := by decide +kernel
theorem dL_give_26 : decode cL_give 26 = .ok (.aload_n 2, 1) := by decide +kernel
theorem dL_give_27 : decode cL_give 27 = .ok (.iload 6, 2) := by decide +kernel
theorem dL_give_29 : decode cL_give 29 = .ok (.invokestatic 39, 3) := by decide +kernel
theorem dL_give_32 : decode cL_give 32 = .ok (.iadd, 1) := by decide +kernel
theorem dL_give_33 : decode cL_give 33 = .ok (.iastore, 1) := by decide +kernel
theorem dL_give_34 : decode cL_give 34 = .ok (.aload_n 2, 1) := by decide +kernel
theorem dL_give_35 : decode cL_give 35 = .ok (.iload 6, 2) := by decide +kernel
theorem dL_give_37 : decode cL_give 37 = .ok (.iconst 2, 1) := by decide +kernel
theorem dL_give_38 : decode cL_give 38 = .ok (.iadd, 1) := by decide +kernel
theorem dL_give_39 : decode cL_give 39 = .ok (.iload 5, 2) := by decide +kernel
theorem dL_give_41 : decode cL_give 41 = .ok (.iastore, 1) := by decide +kernel
theorem dL_give_42 : decode cL_give 42 = .ok (.aload_n 2, 1) := by decide +kernel
theorem dL_give_43 : decode cL_give 43 = .ok (.iload 6, 2) := by decide +kernel
theorem dL_give_45 : decode cL_give 45 = .ok (.iconst 3, 1) := by decide +kernel
theorem dL_give_46 : decode cL_give 46 = .ok (.iadd, 1) := by decide +kernel
theorem dL_give_47 : decode cL_give 47 = .ok (.iload 7, 2) := by decide +kernel
theorem dL_give_49 : decode cL_give 49 = .ok (.iastore, 1) := by decide +kernel
theorem dL_give_50 : decode cL_give 50 = .ok (.aload_n 2, 1) := by decide +kernel
theorem dL_give_51 : decode cL_give 51 = .ok (.iload 6, 2) := by decide +kernel
theorem dL_give_53 : decode cL_give 53 = .ok (.iconst 4, 1) := by decide +kernel
theorem dL_give_54 : decode cL_give 54 = .ok (.iadd, 1) := by decide +kernel
theorem dL_give_55 : decode cL_give 55 = .ok (.dup2, 1) := by decide +kernel
theorem dL_give_56 : decode cL_give 56 = .ok (.iaload, 1) := by decide +kernel
theorem dL_give_57 : decode cL_give 57 = .ok (.aload_n 2, 1) := by decide +kernel
theorem dL_give_58 : decode cL_give 58 = .ok (.iload 6, 2) := by decide +kernel
theorem dL_give_60 : decode cL_give 60 = .ok (.iaload, 1) := by decide +kernel
theorem dL_give_61 : decode cL_give 61 = .ok (.iconst 2, 1) := by decide +kernel
theorem dL_give_62 : decode cL_give 62 = .ok (.if_icmp .ne 7, 3) := by decide +kernel
theorem dL_give_65 : decode cL_give 65 = .ok (.iconst 0, 1) := by decide +kernel
theorem dL_give_66 : decode cL_give 66 = .ok (.goto 16, 3) := by decide +kernel
theorem dL_give_69 : decode cL_give 69 = .ok (.aload_n 2, 1) := by decide +kernel
theorem dL_give_70 : decode cL_give 70 = .ok (.iload 6, 2) := by decide +kernel
theorem dL_give_72 : decode cL_give 72 = .ok (.iaload, 1) := by decide +kernel
theorem dL_give_73 : decode cL_give 73 = .ok (.iconst 4, 1) := by decide +kernel
theorem dL_give_74 : decode cL_give 74 = .ok (.if_icmp .ne 7, 3) := by decide +kernel
theorem dL_give_77 : decode cL_give 77 = .ok (.iconst 2, 1) := by decide +kernel
theorem dL_give_78 : decode cL_give 78 = .ok (.goto 4, 3) := by decide +kernel
theorem dL_give_81 : decode cL_give 81 = .ok (.iconst 1, 1) := by decide +kernel
theorem dL_give_82 : decode cL_give 82 = .ok (.iadd, 1) := by decide +kernel
theorem dL_give_83 : decode cL_give 83 = .ok (.iastore, 1) := by decide +kernel
theorem dL_give_84 : decode cL_give 84 = .ok (.aload_n 2, 1) := by decide +kernel
theorem dL_give_85 : decode cL_give 85 = .ok (.iload 6, 2) := by decide +kernel
theorem dL_give_87 : decode cL_give 87 = .ok (.iconst 5, 1) := by decide +kernel
theorem dL_give_88 : decode cL_give 88 = .ok (.iadd, 1) := by decide +kernel
theorem dL_give_89 : decode cL_give 89 = .ok (.iconst 0, 1) := by decide +kernel
theorem dL_give_90 : decode cL_give 90 = .ok (.iastore, 1) := by decide +kernel
theorem dL_give_91 : decode cL_give 91 = .ok (.aload_n 2, 1) := by decide +kernel
theorem dL_give_92 : decode cL_give 92 = .ok (.iload 6, 2) := by decide +kernel
theorem dL_give_94 : decode cL_give 94 = .ok (.bipush 6, 2) := by decide +kernel
theorem dL_give_96 : decode cL_give 96 = .ok (.iadd, 1) := by decide +kernel
theorem dL_give_97 : decode cL_give 97 = .ok (.dup2, 1) := by decide +kernel
theorem dL_give_98 : decode cL_give 98 = .ok (.iaload, 1) := by decide +kernel
theorem dL_give_99 : decode cL_give 99 = .ok (.iconst 1, 1) := by decide +kernel
theorem dL_give_100 : decode cL_give 100 = .ok (.iadd, 1) := by decide +kernel
theorem dL_give_101 : decode cL_give 101 = .ok (.iastore, 1) := by decide +kernel
theorem dL_give_102 : decode cL_give 102 = .ok (.aload_n 2, 1) := by decide +kernel
theorem dL_give_103 : decode cL_give 103 = .ok (.iload 6, 2) := by decide +kernel
theorem dL_give_105 : decode cL_give 105 = .ok (.iaload, 1) := by decide +kernel
theorem dL_give_106 : decode cL_give 106 = .ok (.iconst 1, 1) := by decide +kernel
theorem dL_give_107 : decode cL_give 107 = .ok (.if_icmp .eq 11, 3) := by decide +kernel
theorem dL_give_110 : decode cL_give 110 = .ok (.aload_n 2, 1) := by decide +kernel
theorem dL_give_111 : decode cL_give 111 = .ok (.iload 6, 2) := by decide +kernel
theorem dL_give_113 : decode cL_give 113 = .ok (.iaload, 1) := by decide +kernel
theorem dL_give_114 : decode cL_give 114 = .ok (.iconst 4, 1) := by decide +kernel
theorem dL_give_115 : decode cL_give 115 = .ok (.if_icmp .ne 26, 3) := by decide +kernel
theorem dL_give_118 : decode cL_give 118 = .ok (.aload_n 2, 1) := by decide +kernel
theorem dL_give_119 : decode cL_give 119 = .ok (.iload 6, 2) := by decide +kernel
theorem dL_give_121 : decode cL_give 121 = .ok (.iconst 4, 1) := by decide +kernel
theorem dL_give_122 : decode cL_give 122 = .ok (.iadd, 1) := by decide +kernel
theorem dL_give_123 : decode cL_give 123 = .ok (.iaload, 1) := by decide +kernel
theorem dL_give_124 : decode cL_give 124 = .ok (.aload_n 1, 1) := by decide +kernel
theorem dL_give_125 : decode cL_give 125 = .ok (.iconst 3, 1) := by decide +kernel
theorem dL_give_126 : decode cL_give 126 = .ok (.iaload, 1) := by decide +kernel
theorem dL_give_127 : decode cL_give 127 = .ok (.if_icmp .lt 14, 3) := by decide +kernel
theorem dL_give_130 : decode cL_give 130 = .ok (.aload_n 2, 1) := by decide +kernel
theorem dL_give_131 : decode cL_give 131 = .ok (.iload 6, 2) := by decide +kernel
theorem dL_give_133 : decode cL_give 133 = .ok (.bipush 7, 2) := by decide +kernel
theorem dL_give_135 : decode cL_give 135 = .ok (.iadd, 1) := by decide +kernel
theorem dL_give_136 : decode cL_give 136 = .ok (.iconst 2, 1) := by decide +kernel
theorem dL_give_137 : decode cL_give 137 = .ok (.iastore, 1) := by decide +kernel
theorem dL_give_138 : decode cL_give 138 = .ok (.goto 33, 3) := by decide +kernel
theorem dL_give_141 : decode cL_give 141 = .ok (.iload 5, 2) := by decide +kernel
theorem dL_give_143 : decode cL_give 143 = .ok (.aload_n 2, 1) := by decide +kernel
theorem dL_give_144 : decode cL_give 144 = .ok (.iload 6, 2) := by decide +kernel
theorem dL_give_146 : decode cL_give 146 = .ok (.iconst 1, 1) := by decide +kernel
theorem dL_give_147 : decode cL_give 147 = .ok (.iadd, 1) := by decide +kernel
theorem dL_give_148 : decode cL_give 148 = .ok (.iaload, 1) := by decide +kernel
theorem dL_give_149 : decode cL_give 149 = .ok (.if_icmp .ne 22, 3) := by decide +kernel
theorem dL_give_152 : decode cL_give 152 = .ok (.aload_n 2, 1) := by decide +kernel
theorem dL_give_153 : decode cL_give 153 = .ok (.iload 6, 2) := by decide +kernel
theorem dL_give_155 : decode cL_give 155 = .ok (.bipush 7, 2) := by decide +kernel
theorem dL_give_157 : decode cL_give 157 = .ok (.iadd, 1) := by decide +kernel
theorem dL_give_158 : decode cL_give 158 = .ok (.iconst 1, 1) := by decide +kernel
theorem dL_give_159 : decode cL_give 159 = .ok (.iastore, 1) := by decide +kernel
theorem dL_give_160 : decode cL_give 160 = .ok (.aload_n 0, 1) := by decide +kernel
theorem dL_give_161 : decode cL_give 161 = .ok (.bipush 17, 2) := by decide +kernel
theorem dL_give_163 : decode cL_give 163 = .ok (.iload 5, 2) := by decide +kernel
theorem dL_give_165 : decode cL_give 165 = .ok (.iadd, 1) := by decide +kernel
theorem dL_give_166 : decode cL_give 166 = .ok (.dup2, 1) := by decide +kernel
theorem dL_give_167 : decode cL_give 167 = .ok (.iaload, 1) := by decide +kernel
theorem dL_give_168 : decode cL_give 168 = .ok (.iconst 1, 1) := by decide +kernel
theorem dL_give_169 : decode cL_give 169 = .ok (.iadd, 1) := by decide +kernel
theorem dL_give_170 : decode cL_give 170 = .ok (.iastore, 1) := by decide +kernel
theorem dL_give_171 : decode cL_give 171 = .ok (.aload_n 2, 1) := by decide +kernel
theorem dL_give_172 : decode cL_give 172 = .ok (.iload 6, 2) := by decide +kernel
theorem dL_give_174 : decode cL_give 174 = .ok (.bipush 7, 2) := by decide +kernel
theorem dL_give_176 : decode cL_give 176 = .ok (.iadd, 1) := by decide +kernel
theorem dL_give_177 : decode cL_give 177 = .ok (.iaload, 1) := by decide +kernel
theorem dL_give_178 : decode cL_give 178 = .ok (.ireturn, 1) := by decide +kernel
theorem dL_holds_0 : decode cL_holds 0 = .ok (.iconst 0, 1) := by decide +kernel
theorem dL_holds_1 : decode cL_holds 1 = .ok (.istore_n 3, 1) := by decide +kernel
theorem dL_holds_2 : decode cL_holds 2 = .ok (.iconst 0, 1) := by decide +kernel
theorem dL_holds_3 : decode cL_holds 3 = .ok (.istore 4, 2) := by decide +kernel
theorem dL_holds_5 : decode cL_holds 5 = .ok (.iload 4, 2) := by decide +kernel
theorem dL_holds_7 : decode cL_holds 7 = .ok (.aload_n 0, 1) := by decide +kernel
theorem dL_holds_8 : decode cL_holds 8 = .ok (.bipush 25, 2) := by decide +kernel
theorem dL_holds_10 : decode cL_holds 10 = .ok (.iaload, 1) := by decide +kernel
theorem dL_holds_11 : decode cL_holds 11 = .ok (.if_icmp .ge 43, 3) := by decide +kernel
theorem dL_holds_14 : decode cL_holds 14 = .ok (.iload_n 3, 1) := by decide +kernel
theorem dL_holds_15 : decode cL_holds 15 = .ok (.aload_n 1, 1) := by decide +kernel
theorem dL_holds_16 : decode cL_holds 16 = .ok (.bipush 8, 2) := by decide +kernel
theorem dL_holds_18 : decode cL_holds 18 = .ok (.iload 4, 2) := by decide +kernel
theorem dL_holds_20 : decode cL_holds 20 = .ok (.imul, 1) := by decide +kernel
theorem dL_holds_21 : decode cL_holds 21 = .ok (.bipush 7, 2) := by decide +kernel
theorem dL_holds_23 : decode cL_holds 23 = .ok (.iadd, 1) := by decide +kernel
theorem dL_holds_24 : decode cL_holds 24 = .ok (.iaload, 1) := by decide +kernel
theorem dL_holds_25 : decode cL_holds 25 = .ok (.ifCond .ne 20, 3) := by decide +kernel
theorem dL_holds_28 : decode cL_holds 28 = .ok (.aload_n 1, 1) := by decide +kernel
theorem dL_holds_29 : decode cL_holds 29 = .ok (.bipush 8, 2) := by decide +kernel
theorem dL_holds_31 : decode cL_holds 31 = .ok (.iload 4, 2) := by decide +kernel
theorem dL_holds_33 : decode cL_holds 33 = .ok (.imul, 1) := by decide +kernel
theorem dL_holds_34 : decode cL_holds 34 = .ok (.iconst 2, 1) := by decide +kernel
theorem dL_holds_35 : decode cL_holds 35 = .ok (.iadd, 1) := by decide +kernel
theorem dL_holds_36 : decode cL_holds 36 = .ok (.iaload, 1) := by decide +kernel
theorem dL_holds_37 : decode cL_holds 37 = .ok (.iload_n 2, 1) := by decide +kernel
theorem dL_holds_38 : decode cL_holds 38 = .ok (.if_icmp .ne 7, 3) := by decide +kernel
theorem dL_holds_41 : decode cL_holds 41 = .ok (.iconst 1, 1) := by decide +kernel
theorem dL_holds_42 : decode cL_holds 42 = .ok (.goto 4, 3) := by decide +kernel
theorem dL_holds_45 : decode cL_holds 45 = .ok (.iconst 0, 1) := by decide +kernel
theorem dL_holds_46 : decode cL_holds 46 = .ok (.iadd, 1) := by decide +kernel
theorem dL_holds_47 : decode cL_holds 47 = .ok (.istore_n 3, 1) := by decide +kernel
theorem dL_holds_48 : decode cL_holds 48 = .ok (.iinc 4 1, 3) := by decide +kernel
theorem dL_holds_51 : decode cL_holds 51 = .ok (.goto (-46), 3) := by decide +kernel
theorem dL_holds_54 : decode cL_holds 54 = .ok (.iload_n 3, 1) := by decide +kernel
theorem dL_holds_55 : decode cL_holds 55 = .ok (.ireturn, 1) := by decide +kernel
theorem dL_habit_0 : decode cL_habit 0 = .ok (.iconst (-1), 1) := by decide +kernel
theorem dL_habit_1 : decode cL_habit 1 = .ok (.istore 5, 2) := by decide +kernel
theorem dL_habit_3 : decode cL_habit 3 = .ok (.iconst 0, 1) := by decide +kernel
theorem dL_habit_4 : decode cL_habit 4 = .ok (.istore 6, 2) := by decide +kernel
theorem dL_habit_6 : decode cL_habit 6 = .ok (.iload 6, 2) := by decide +kernel
theorem dL_habit_8 : decode cL_habit 8 = .ok (.aload_n 0, 1) := by decide +kernel
theorem dL_habit_9 : decode cL_habit 9 = .ok (.iconst 0, 1) := by decide +kernel
theorem dL_habit_10 : decode cL_habit 10 = .ok (.iaload, 1) := by decide +kernel
theorem dL_habit_11 : decode cL_habit 11 = .ok (.if_icmp .ge 94, 3) := by decide +kernel
theorem dL_habit_14 : decode cL_habit 14 = .ok (.iload 4, 2) := by decide +kernel
theorem dL_habit_16 : decode cL_habit 16 = .ok (.iload 6, 2) := by decide +kernel
theorem dL_habit_18 : decode cL_habit 18 = .ok (.ishr, 1) := by decide +kernel
theorem dL_habit_19 : decode cL_habit 19 = .ok (.iconst 1, 1) := by decide +kernel
theorem dL_habit_20 : decode cL_habit 20 = .ok (.iand, 1) := by decide +kernel
theorem dL_habit_21 : decode cL_habit 21 = .ok (.ifCond .ne 6, 3) := by decide +kernel
theorem dL_habit_24 : decode cL_habit 24 = .ok (.goto 75, 3) := by decide +kernel
theorem dL_habit_27 : decode cL_habit 27 = .ok (.aload_n 0, 1) := by decide +kernel
theorem dL_habit_28 : decode cL_habit 28 = .ok (.iconst 1, 1) := by decide +kernel
theorem dL_habit_29 : decode cL_habit 29 = .ok (.iload_n 3, 1) := by decide +kernel
theorem dL_habit_30 : decode cL_habit 30 = .ok (.iadd, 1) := by decide +kernel
theorem dL_habit_31 : decode cL_habit 31 = .ok (.iaload, 1) := by decide +kernel
theorem dL_habit_32 : decode cL_habit 32 = .ok (.istore 7, 2) := by decide +kernel
theorem dL_habit_34 : decode cL_habit 34 = .ok (.iload 5, 2) := by decide +kernel
theorem dL_habit_36 : decode cL_habit 36 = .ok (.ifCond .lt 59, 3) := by decide +kernel
theorem dL_habit_39 : decode cL_habit 39 = .ok (.iload 7, 2) := by decide +kernel
theorem dL_habit_41 : decode cL_habit 41 = .ok (.iconst 1, 1) := by decide +kernel
theorem dL_habit_42 : decode cL_habit 42 = .ok (.if_icmp .eq 53, 3) := by decide +kernel
theorem dL_habit_45 : decode cL_habit 45 = .ok (.iload 7, 2) := by decide +kernel
theorem dL_habit_47 : decode cL_habit 47 = .ok (.iconst 2, 1) := by decide +kernel
theorem dL_habit_48 : decode cL_habit 48 = .ok (.if_icmp .ne 24, 3) := by decide +kernel
theorem dL_habit_51 : decode cL_habit 51 = .ok (.aload_n 2, 1) := by decide +kernel
theorem dL_habit_52 : decode cL_habit 52 = .ok (.bipush 8, 2) := by decide +kernel
theorem dL_habit_54 : decode cL_habit 54 = .ok (.iload_n 3, 1) := by decide +kernel
theorem dL_habit_55 : decode cL_habit 55 = .ok (.imul, 1) := by decide +kernel
theorem dL_habit_56 : decode cL_habit 56 = .ok (.iload 6, 2) := by decide +kernel
theorem dL_habit_58 : decode cL_habit 58 = .ok (.iadd, 1) := by decide +kernel
theorem dL_habit_59 : decode cL_habit 59 = .ok (.iaload, 1) := by decide +kernel
theorem dL_habit_60 : decode cL_habit 60 = .ok (.aload_n 2, 1) := by decide +kernel
theorem dL_habit_61 : decode cL_habit 61 = .ok (.bipush 8, 2) := by decide +kernel
theorem dL_habit_63 : decode cL_habit 63 = .ok (.iload_n 3, 1) := by decide +kernel
theorem dL_habit_64 : decode cL_habit 64 = .ok (.imul, 1) := by decide +kernel
theorem dL_habit_65 : decode cL_habit 65 = .ok (.iload 5, 2) := by decide +kernel
theorem dL_habit_67 : decode cL_habit 67 = .ok (.iadd, 1) := by decide +kernel
theorem dL_habit_68 : decode cL_habit 68 = .ok (.iaload, 1) := by decide +kernel
theorem dL_habit_69 : decode cL_habit 69 = .ok (.if_icmp .gt 26, 3) := by decide +kernel
theorem dL_habit_72 : decode cL_habit 72 = .ok (.iload 7, 2) := by decide +kernel
theorem dL_habit_74 : decode cL_habit 74 = .ok (.iconst 3, 1) := by decide +kernel
theorem dL_habit_75 : decode cL_habit 75 = .ok (.if_icmp .ne 24, 3) := by decide +kernel
theorem dL_habit_78 : decode cL_habit 78 = .ok (.aload_n 0, 1) := by decide +kernel
theorem dL_habit_79 : decode cL_habit 79 = .ok (.aload_n 1, 1) := by decide +kernel
theorem dL_habit_80 : decode cL_habit 80 = .ok (.iload 6, 2) := by decide +kernel
theorem dL_habit_82 : decode cL_habit 82 = .ok (.invokestatic 42, 3) := by decide +kernel
theorem dL_habit_85 : decode cL_habit 85 = .ok (.aload_n 0, 1) := by decide +kernel
theorem dL_habit_86 : decode cL_habit 86 = .ok (.aload_n 1, 1) := by decide +kernel
theorem dL_habit_87 : decode cL_habit 87 = .ok (.iload 5, 2) := by decide +kernel
theorem dL_habit_89 : decode cL_habit 89 = .ok (.invokestatic 42, 3) := by decide +kernel
theorem dL_habit_92 : decode cL_habit 92 = .ok (.if_icmp .ge 7, 3) := by decide +kernel
theorem dL_habit_95 : decode cL_habit 95 = .ok (.iload 6, 2) := by decide +kernel
theorem dL_habit_97 : decode cL_habit 97 = .ok (.istore 5, 2) := by decide +kernel
theorem dL_habit_99 : decode cL_habit 99 = .ok (.iinc 6 1, 3) := by decide +kernel
theorem dL_habit_102 : decode cL_habit 102 = .ok (.goto (-96), 3) := by decide +kernel
theorem dL_habit_105 : decode cL_habit 105 = .ok (.iload 5, 2) := by decide +kernel
theorem dL_habit_107 : decode cL_habit 107 = .ok (.ireturn, 1) := by decide +kernel
theorem dL_year_0 : decode cL_year 0 = .ok (.iconst 0, 1) := by decide +kernel
theorem dL_year_1 : decode cL_year 1 = .ok (.istore 6, 2) := by decide +kernel
theorem dL_year_3 : decode cL_year 3 = .ok (.iconst 0, 1) := by decide +kernel
theorem dL_year_4 : decode cL_year 4 = .ok (.istore 7, 2) := by decide +kernel
theorem dL_year_6 : decode cL_year 6 = .ok (.iconst 0, 1) := by decide +kernel
theorem dL_year_7 : decode cL_year 7 = .ok (.istore 8, 2) := by decide +kernel
theorem dL_year_9 : decode cL_year 9 = .ok (.iload 8, 2) := by decide +kernel
theorem dL_year_11 : decode cL_year 11 = .ok (.aload_n 0, 1) := by decide +kernel
theorem dL_year_12 : decode cL_year 12 = .ok (.bipush 25, 2) := by decide +kernel
theorem dL_year_14 : decode cL_year 14 = .ok (.iaload, 1) := by decide +kernel
theorem dL_year_15 : decode cL_year 15 = .ok (.if_icmp .ge 39, 3) := by decide +kernel
theorem dL_year_18 : decode cL_year 18 = .ok (.aload_n 2, 1) := by decide +kernel
theorem dL_year_19 : decode cL_year 19 = .ok (.bipush 8, 2) := by decide +kernel
theorem dL_year_21 : decode cL_year 21 = .ok (.iload 8, 2) := by decide +kernel
theorem dL_year_23 : decode cL_year 23 = .ok (.imul, 1) := by decide +kernel
theorem dL_year_24 : decode cL_year 24 = .ok (.iconst 5, 1) := by decide +kernel
theorem dL_year_25 : decode cL_year 25 = .ok (.iadd, 1) := by decide +kernel
theorem dL_year_26 : decode cL_year 26 = .ok (.dup2, 1) := by decide +kernel
theorem dL_year_27 : decode cL_year 27 = .ok (.iaload, 1) := by decide +kernel
theorem dL_year_28 : decode cL_year 28 = .ok (.aload_n 2, 1) := by decide +kernel
theorem dL_year_29 : decode cL_year 29 = .ok (.bipush 8, 2) := by decide +kernel
theorem dL_year_31 : decode cL_year 31 = .ok (.iload 8, 2) := by decide +kernel
theorem dL_year_33 : decode cL_year 33 = .ok (.imul, 1) := by decide +kernel
theorem dL_year_34 : decode cL_year 34 = .ok (.bipush 7, 2) := by decide +kernel
theorem dL_year_36 : decode cL_year 36 = .ok (.iadd, 1) := by decide +kernel
theorem dL_year_37 : decode cL_year 37 = .ok (.iaload, 1) := by decide +kernel
theorem dL_year_38 : decode cL_year 38 = .ok (.ifCond .ne 7, 3) := by decide +kernel
theorem dL_year_41 : decode cL_year 41 = .ok (.iconst 1, 1) := by decide +kernel
theorem dL_year_42 : decode cL_year 42 = .ok (.goto 4, 3) := by decide +kernel
theorem dL_year_45 : decode cL_year 45 = .ok (.iconst 0, 1) := by decide +kernel
theorem dL_year_46 : decode cL_year 46 = .ok (.iadd, 1) := by decide +kernel
theorem dL_year_47 : decode cL_year 47 = .ok (.iastore, 1) := by decide +kernel
theorem dL_year_48 : decode cL_year 48 = .ok (.iinc 8 1, 3) := by decide +kernel
theorem dL_year_51 : decode cL_year 51 = .ok (.goto (-42), 3) := by decide +kernel
theorem dL_year_54 : decode cL_year 54 = .ok (.iconst 0, 1) := by decide +kernel
theorem dL_year_55 : decode cL_year 55 = .ok (.istore 8, 2) := by decide +kernel
theorem dL_year_57 : decode cL_year 57 = .ok (.iload 8, 2) := by decide +kernel
theorem dL_year_59 : decode cL_year 59 = .ok (.aload_n 0, 1) := by decide +kernel
theorem dL_year_60 : decode cL_year 60 = .ok (.bipush 25, 2) := by decide +kernel
theorem dL_year_62 : decode cL_year 62 = .ok (.iaload, 1) := by decide +kernel
theorem dL_year_63 : decode cL_year 63 = .ok (.if_icmp .ge 268, 3) := by decide +kernel
theorem dL_year_66 : decode cL_year 66 = .ok (.bipush 8, 2) := by decide +kernel
theorem dL_year_68 : decode cL_year 68 = .ok (.iload 8, 2) := by decide +kernel
theorem dL_year_70 : decode cL_year 70 = .ok (.imul, 1) := by decide +kernel
theorem dL_year_71 : decode cL_year 71 = .ok (.istore 9, 2) := by decide +kernel
theorem dL_year_73 : decode cL_year 73 = .ok (.aload_n 2, 1) := by decide +kernel
theorem dL_year_74 : decode cL_year 74 = .ok (.iload 9, 2) := by decide +kernel
theorem dL_year_76 : decode cL_year 76 = .ok (.iconst 2, 1) := by decide +kernel
theorem dL_year_77 : decode cL_year 77 = .ok (.iadd, 1) := by decide +kernel
theorem dL_year_78 : decode cL_year 78 = .ok (.iaload, 1) := by decide +kernel
theorem dL_year_79 : decode cL_year 79 = .ok (.istore 10, 2) := by decide +kernel
theorem dL_year_81 : decode cL_year 81 = .ok (.aload_n 2, 1) := by decide +kernel
theorem dL_year_82 : decode cL_year 82 = .ok (.iload 9, 2) := by decide +kernel
theorem dL_year_84 : decode cL_year 84 = .ok (.bipush 7, 2) := by decide +kernel
theorem dL_year_86 : decode cL_year 86 = .ok (.iadd, 1) := by decide +kernel
theorem dL_year_87 : decode cL_year 87 = .ok (.iaload, 1) := by decide +kernel
theorem dL_year_88 : decode cL_year 88 = .ok (.ifCond .gt 237, 3) := by decide +kernel
theorem dL_year_91 : decode cL_year 91 = .ok (.aload_n 2, 1) := by decide +kernel
theorem dL_year_92 : decode cL_year 92 = .ok (.iload 9, 2) := by decide +kernel
theorem dL_year_94 : decode cL_year 94 = .ok (.iconst 5, 1) := by decide +kernel
theorem dL_year_95 : decode cL_year 95 = .ok (.iadd, 1) := by decide +kernel
theorem dL_year_96 : decode cL_year 96 = .ok (.iaload, 1) := by decide +kernel
theorem dL_year_97 : decode cL_year 97 = .ok (.aload_n 1, 1) := by decide +kernel
theorem dL_year_98 : decode cL_year 98 = .ok (.iconst 0, 1) := by decide +kernel
theorem dL_year_99 : decode cL_year 99 = .ok (.iaload, 1) := by decide +kernel
theorem dL_year_100 : decode cL_year 100 = .ok (.aload_n 2, 1) := by decide +kernel
theorem dL_year_101 : decode cL_year 101 = .ok (.iload 9, 2) := by decide +kernel
theorem dL_year_103 : decode cL_year 103 = .ok (.iaload, 1) := by decide +kernel
theorem dL_year_104 : decode cL_year 104 = .ok (.iconst 3, 1) := by decide +kernel
theorem dL_year_105 : decode cL_year 105 = .ok (.if_icmp .ne 7, 3) := by decide +kernel
theorem dL_year_108 : decode cL_year 108 = .ok (.iconst 1, 1) := by decide +kernel
theorem dL_year_109 : decode cL_year 109 = .ok (.goto 4, 3) := by decide +kernel
theorem dL_year_112 : decode cL_year 112 = .ok (.iconst 0, 1) := by decide +kernel
theorem dL_year_113 : decode cL_year 113 = .ok (.iadd, 1) := by decide +kernel
theorem dL_year_114 : decode cL_year 114 = .ok (.if_icmp .lt 211, 3) := by decide +kernel
theorem dL_year_117 : decode cL_year 117 = .ok (.aload_n 1, 1) := by decide +kernel
theorem dL_year_118 : decode cL_year 118 = .ok (.iconst 2, 1) := by decide +kernel
theorem dL_year_119 : decode cL_year 119 = .ok (.iaload, 1) := by decide +kernel
theorem dL_year_120 : decode cL_year 120 = .ok (.iconst 1, 1) := by decide +kernel
theorem dL_year_121 : decode cL_year 121 = .ok (.if_icmp .ne 17, 3) := by decide +kernel
theorem dL_year_124 : decode cL_year 124 = .ok (.iload 7, 2) := by decide +kernel
theorem dL_year_126 : decode cL_year 126 = .ok (.iload 10, 2) := by decide +kernel
theorem dL_year_128 : decode cL_year 128 = .ok (.ishr, 1) := by decide +kernel
theorem dL_year_129 : decode cL_year 129 = .ok (.iconst 1, 1) := by decide +kernel
theorem dL_year_130 : decode cL_year 130 = .ok (.iand, 1) := by decide +kernel
theorem dL_year_131 : decode cL_year 131 = .ok (.iconst 1, 1) := by decide +kernel
theorem dL_year_132 : decode cL_year 132 = .ok (.if_icmp .ne 6, 3) := by decide +kernel
theorem dL_year_135 : decode cL_year 135 = .ok (.goto 190, 3) := by decide +kernel
theorem dL_year_138 : decode cL_year 138 = .ok (.aload_n 0, 1) := by decide +kernel
theorem dL_year_139 : decode cL_year 139 = .ok (.aload_n 1, 1) := by decide +kernel
theorem dL_year_140 : decode cL_year 140 = .ok (.iload 10, 2) := by decide +kernel
theorem dL_year_142 : decode cL_year 142 = .ok (.aload_n 2, 1) := by decide +kernel
theorem dL_year_143 : decode cL_year 143 = .ok (.iload 9, 2) := by decide +kernel
theorem dL_year_145 : decode cL_year 145 = .ok (.iconst 3, 1) := by decide +kernel
theorem dL_year_146 : decode cL_year 146 = .ok (.iadd, 1) := by decide +kernel
theorem dL_year_147 : decode cL_year 147 = .ok (.iaload, 1) := by decide +kernel
theorem dL_year_148 : decode cL_year 148 = .ok (.invokestatic 46, 3) := by decide +kernel
theorem dL_year_151 : decode cL_year 151 = .ok (.istore 11, 2) := by decide +kernel
theorem dL_year_153 : decode cL_year 153 = .ok (.iload 11, 2) := by decide +kernel
theorem dL_year_155 : decode cL_year 155 = .ok (.ifCond .ne 6, 3) := by decide +kernel
theorem dL_year_158 : decode cL_year 158 = .ok (.goto 167, 3) := by decide +kernel
theorem dL_year_161 : decode cL_year 161 = .ok (.iconst (-1), 1) := by decide +kernel
theorem dL_year_162 : decode cL_year 162 = .ok (.istore 12, 2) := by decide +kernel
theorem dL_year_164 : decode cL_year 164 = .ok (.aload 5, 2) := by decide +kernel
theorem dL_year_166 : decode cL_year 166 = .ok (.iconst 0, 1) := by decide +kernel
theorem dL_year_167 : decode cL_year 167 = .ok (.laload, 1) := by decide +kernel
theorem dL_year_168 : decode cL_year 168 = .ok (.lconst 0, 1) := by decide +kernel
theorem dL_year_169 : decode cL_year 169 = .ok (.lcmp, 1) := by decide +kernel
theorem dL_year_170 : decode cL_year 170 = .ok (.ifCond .ge 18, 3) := by decide +kernel
theorem dL_year_173 : decode cL_year 173 = .ok (.aload_n 0, 1) := by decide +kernel
theorem dL_year_174 : decode cL_year 174 = .ok (.aload_n 2, 1) := by decide +kernel
theorem dL_year_175 : decode cL_year 175 = .ok (.aload_n 3, 1) := by decide +kernel
theorem dL_year_176 : decode cL_year 176 = .ok (.iload 10, 2) := by decide +kernel
theorem dL_year_178 : decode cL_year 178 = .ok (.iload 11, 2) := by decide +kernel
theorem dL_year_180 : decode cL_year 180 = .ok (.invokestatic 50, 3) := by decide +kernel
theorem dL_year_183 : decode cL_year 183 = .ok (.istore 12, 2) := by decide +kernel
theorem dL_year_185 : decode cL_year 185 = .ok (.goto 115, 3) := by decide +kernel
theorem dL_year_188 : decode cL_year 188 = .ok (.aload 5, 2) := by decide +kernel
theorem dL_year_190 : decode cL_year 190 = .ok (.iconst 0, 1) := by decide +kernel
theorem dL_year_191 : decode cL_year 191 = .ok (.aload 5, 2) := by decide +kernel
theorem dL_year_193 : decode cL_year 193 = .ok (.iconst 0, 1) := by decide +kernel
theorem dL_year_194 : decode cL_year 194 = .ok (.laload, 1) := by decide +kernel
theorem dL_year_195 : decode cL_year 195 = .ok (.ldc2_w 54, 3) := by decide +kernel
theorem dL_year_198 : decode cL_year 198 = .ok (.lmul, 1) := by decide +kernel
theorem dL_year_199 : decode cL_year 199 = .ok (.ldc2_w 56, 3) := by decide +kernel
theorem dL_year_202 : decode cL_year 202 = .ok (.ladd, 1) := by decide +kernel
theorem dL_year_203 : decode cL_year 203 = .ok (.ldc2_w 58, 3) := by decide +kernel
theorem dL_year_206 : decode cL_year 206 = .ok (.lrem, 1) := by decide +kernel
theorem dL_year_207 : decode cL_year 207 = .ok (.lastore, 1) := by decide +kernel
theorem dL_year_208 : decode cL_year 208 = .ok (.iconst 0, 1) := by decide +kernel
theorem dL_year_209 : decode cL_year 209 = .ok (.istore 13, 2) := by decide +kernel
theorem dL_year_211 : decode cL_year 211 = .ok (.iconst 0, 1) := by decide +kernel
theorem dL_year_212 : decode cL_year 212 = .ok (.istore 14, 2) := by decide +kernel
theorem dL_year_214 : decode cL_year 214 = .ok (.iload 14, 2) := by decide +kernel
theorem dL_year_216 : decode cL_year 216 = .ok (.aload_n 0, 1) := by decide +kernel
theorem dL_year_217 : decode cL_year 217 = .ok (.iconst 0, 1) := by decide +kernel
theorem dL_year_218 : decode cL_year 218 = .ok (.iaload, 1) := by decide +kernel
theorem dL_year_219 : decode cL_year 219 = .ok (.if_icmp .ge 21, 3) := by decide +kernel
theorem dL_year_222 : decode cL_year 222 = .ok (.iload 13, 2) := by decide +kernel
theorem dL_year_224 : decode cL_year 224 = .ok (.iload 11, 2) := by decide +kernel
theorem dL_year_226 : decode cL_year 226 = .ok (.iload 14, 2) := by decide +kernel
theorem dL_year_228 : decode cL_year 228 = .ok (.ishr, 1) := by decide +kernel
theorem dL_year_229 : decode cL_year 229 = .ok (.iconst 1, 1) := by decide +kernel
theorem dL_year_230 : decode cL_year 230 = .ok (.iand, 1) := by decide +kernel
theorem dL_year_231 : decode cL_year 231 = .ok (.iadd, 1) := by decide +kernel
theorem dL_year_232 : decode cL_year 232 = .ok (.istore 13, 2) := by decide +kernel
theorem dL_year_234 : decode cL_year 234 = .ok (.iinc 14 1, 3) := by decide +kernel
theorem dL_year_237 : decode cL_year 237 = .ok (.goto (-23), 3) := by decide +kernel
theorem dL_year_240 : decode cL_year 240 = .ok (.aload 5, 2) := by decide +kernel
theorem dL_year_242 : decode cL_year 242 = .ok (.iconst 0, 1) := by decide +kernel
theorem dL_year_243 : decode cL_year 243 = .ok (.laload, 1) := by decide +kernel
theorem dL_year_244 : decode cL_year 244 = .ok (.ldc2_w 60, 3) := by decide +kernel
theorem dL_year_247 : decode cL_year 247 = .ok (.ldiv, 1) := by decide +kernel
theorem dL_year_248 : decode cL_year 248 = .ok (.iload 13, 2) := by decide +kernel
theorem dL_year_250 : decode cL_year 250 = .ok (.i2l, 1) := by decide +kernel
theorem dL_year_251 : decode cL_year 251 = .ok (.lrem, 1) := by decide +kernel
theorem dL_year_252 : decode cL_year 252 = .ok (.l2i, 1) := by decide +kernel
theorem dL_year_253 : decode cL_year 253 = .ok (.istore 14, 2) := by decide +kernel
theorem dL_year_255 : decode cL_year 255 = .ok (.iconst 0, 1) := by decide +kernel
theorem dL_year_256 : decode cL_year 256 = .ok (.istore 15, 2) := by decide +kernel
theorem dL_year_258 : decode cL_year 258 = .ok (.iload 15, 2) := by decide +kernel
theorem dL_year_260 : decode cL_year 260 = .ok (.aload_n 0, 1) := by decide +kernel
theorem dL_year_261 : decode cL_year 261 = .ok (.iconst 0, 1) := by decide +kernel
theorem dL_year_262 : decode cL_year 262 = .ok (.iaload, 1) := by decide +kernel
theorem dL_year_263 : decode cL_year 263 = .ok (.if_icmp .ge 37, 3) := by decide +kernel
theorem dL_year_266 : decode cL_year 266 = .ok (.iload 12, 2) := by decide +kernel
theorem dL_year_268 : decode cL_year 268 = .ok (.ifCond .ge 32, 3) := by decide +kernel
theorem dL_year_271 : decode cL_year 271 = .ok (.iload 11, 2) := by decide +kernel
theorem dL_year_273 : decode cL_year 273 = .ok (.iload 15, 2) := by decide +kernel
theorem dL_year_275 : decode cL_year 275 = .ok (.ishr, 1) := by decide +kernel
theorem dL_year_276 : decode cL_year 276 = .ok (.iconst 1, 1) := by decide +kernel
theorem dL_year_277 : decode cL_year 277 = .ok (.iand, 1) := by decide +kernel
theorem dL_year_278 : decode cL_year 278 = .ok (.iconst 1, 1) := by decide +kernel
theorem dL_year_279 : decode cL_year 279 = .ok (.if_icmp .ne 15, 3) := by decide +kernel
theorem dL_year_282 : decode cL_year 282 = .ok (.iload 14, 2) := by decide +kernel
theorem dL_year_284 : decode cL_year 284 = .ok (.iinc 14 (-1), 3) := by decide +kernel
theorem dL_year_287 : decode cL_year 287 = .ok (.ifCond .ne 7, 3) := by decide +kernel
theorem dL_year_290 : decode cL_year 290 = .ok (.iload 15, 2) := by decide +kernel
theorem dL_year_292 : decode cL_year 292 = .ok (.istore 12, 2) := by decide +kernel
theorem dL_year_294 : decode cL_year 294 = .ok (.iinc 15 1, 3) := by decide +kernel
theorem dL_year_297 : decode cL_year 297 = .ok (.goto (-39), 3) := by decide +kernel
theorem dL_year_300 : decode cL_year 300 = .ok (.aload_n 0, 1) := by decide +kernel
theorem dL_year_301 : decode cL_year 301 = .ok (.aload_n 1, 1) := by decide +kernel
theorem dL_year_302 : decode cL_year 302 = .ok (.aload_n 2, 1) := by decide +kernel
theorem dL_year_303 : decode cL_year 303 = .ok (.aload 4, 2) := by decide +kernel
theorem dL_year_305 : decode cL_year 305 = .ok (.iload 8, 2) := by decide +kernel
theorem dL_year_307 : decode cL_year 307 = .ok (.iload 12, 2) := by decide +kernel
theorem dL_year_309 : decode cL_year 309 = .ok (.invokestatic 62, 3) := by decide +kernel
theorem dL_year_312 : decode cL_year 312 = .ok (.pop, 1) := by decide +kernel
theorem dL_year_313 : decode cL_year 313 = .ok (.iload 7, 2) := by decide +kernel
theorem dL_year_315 : decode cL_year 315 = .ok (.iconst 1, 1) := by decide +kernel
theorem dL_year_316 : decode cL_year 316 = .ok (.iload 10, 2) := by decide +kernel
theorem dL_year_318 : decode cL_year 318 = .ok (.ishl, 1) := by decide +kernel
theorem dL_year_319 : decode cL_year 319 = .ok (.ior, 1) := by decide +kernel
theorem dL_year_320 : decode cL_year 320 = .ok (.istore 7, 2) := by decide +kernel
theorem dL_year_322 : decode cL_year 322 = .ok (.iinc 6 1, 3) := by decide +kernel
theorem dL_year_325 : decode cL_year 325 = .ok (.iinc 8 1, 3) := by decide +kernel
theorem dL_year_328 : decode cL_year 328 = .ok (.goto (-271), 3) := by decide +kernel
theorem dL_year_331 : decode cL_year 331 = .ok (.iload 6, 2) := by decide +kernel
theorem dL_year_333 : decode cL_year 333 = .ok (.ireturn, 1) := by decide +kernel
theorem dL_stands_0 : decode cL_stands 0 = .ok (.iconst 0, 1) := by decide +kernel
theorem dL_stands_1 : decode cL_stands 1 = .ok (.istore 4, 2) := by decide +kernel
theorem dL_stands_3 : decode cL_stands 3 = .ok (.iconst 0, 1) := by decide +kernel
theorem dL_stands_4 : decode cL_stands 4 = .ok (.istore 5, 2) := by decide +kernel
theorem dL_stands_6 : decode cL_stands 6 = .ok (.iconst 0, 1) := by decide +kernel
theorem dL_stands_7 : decode cL_stands 7 = .ok (.istore 6, 2) := by decide +kernel
theorem dL_stands_9 : decode cL_stands 9 = .ok (.iload 6, 2) := by decide +kernel
theorem dL_stands_11 : decode cL_stands 11 = .ok (.aload_n 1, 1) := by decide +kernel
theorem dL_stands_12 : decode cL_stands 12 = .ok (.iconst 0, 1) := by decide +kernel
theorem dL_stands_13 : decode cL_stands 13 = .ok (.iaload, 1) := by decide +kernel
theorem dL_stands_14 : decode cL_stands 14 = .ok (.if_icmp .ge 180, 3) := by decide +kernel
theorem dL_stands_17 : decode cL_stands 17 = .ok (.iconst 0, 1) := by decide +kernel
theorem dL_stands_18 : decode cL_stands 18 = .ok (.istore 7, 2) := by decide +kernel
theorem dL_stands_20 : decode cL_stands 20 = .ok (.iconst 0, 1) := by decide +kernel
theorem dL_stands_21 : decode cL_stands 21 = .ok (.istore 8, 2) := by decide +kernel
theorem dL_stands_23 : decode cL_stands 23 = .ok (.iload 8, 2) := by decide +kernel
theorem dL_stands_25 : decode cL_stands 25 = .ok (.aload_n 1, 1) := by decide +kernel
theorem dL_stands_26 : decode cL_stands 26 = .ok (.iconst 0, 1) := by decide +kernel
theorem dL_stands_27 : decode cL_stands 27 = .ok (.iaload, 1) := by decide +kernel
theorem dL_stands_28 : decode cL_stands 28 = .ok (.if_icmp .ge 68, 3) := by decide +kernel
theorem dL_stands_31 : decode cL_stands 31 = .ok (.iload 6, 2) := by decide +kernel
theorem dL_stands_33 : decode cL_stands 33 = .ok (.iload 8, 2) := by decide +kernel
theorem dL_stands_35 : decode cL_stands 35 = .ok (.if_icmp .ne 6, 3) := by decide +kernel
theorem dL_stands_38 : decode cL_stands 38 = .ok (.goto 52, 3) := by decide +kernel
theorem dL_stands_41 : decode cL_stands 41 = .ok (.aload_n 0, 1) := by decide +kernel
theorem dL_stands_42 : decode cL_stands 42 = .ok (.iload 6, 2) := by decide +kernel
theorem dL_stands_44 : decode cL_stands 44 = .ok (.iload 8, 2) := by decide +kernel
theorem dL_stands_46 : decode cL_stands 46 = .ok (.invokevirtual 66, 3) := by decide +kernel
theorem dL_stands_49 : decode cL_stands 49 = .ok (.aload_n 3, 1) := by decide +kernel
theorem dL_stands_50 : decode cL_stands 50 = .ok (.bipush 8, 2) := by decide +kernel
theorem dL_stands_52 : decode cL_stands 52 = .ok (.iload 6, 2) := by decide +kernel
theorem dL_stands_54 : decode cL_stands 54 = .ok (.imul, 1) := by decide +kernel
theorem dL_stands_55 : decode cL_stands 55 = .ok (.iload 8, 2) := by decide +kernel
theorem dL_stands_57 : decode cL_stands 57 = .ok (.iadd, 1) := by decide +kernel
theorem dL_stands_58 : decode cL_stands 58 = .ok (.iaload, 1) := by decide +kernel
theorem dL_stands_59 : decode cL_stands 59 = .ok (.if_icmp .eq 5, 3) := by decide +kernel
theorem dL_stands_62 : decode cL_stands 62 = .ok (.iconst 0, 1) := by decide +kernel
theorem dL_stands_63 : decode cL_stands 63 = .ok (.ireturn, 1) := by decide +kernel
theorem dL_stands_64 : decode cL_stands 64 = .ok (.iload 7, 2) := by decide +kernel
theorem dL_stands_66 : decode cL_stands 66 = .ok (.aload_n 3, 1) := by decide +kernel
theorem dL_stands_67 : decode cL_stands 67 = .ok (.bipush 8, 2) := by decide +kernel
theorem dL_stands_69 : decode cL_stands 69 = .ok (.iload 8, 2) := by decide +kernel
theorem dL_stands_71 : decode cL_stands 71 = .ok (.imul, 1) := by decide +kernel
theorem dL_stands_72 : decode cL_stands 72 = .ok (.iload 6, 2) := by decide +kernel
theorem dL_stands_74 : decode cL_stands 74 = .ok (.iadd, 1) := by decide +kernel
theorem dL_stands_75 : decode cL_stands 75 = .ok (.iaload, 1) := by decide +kernel
theorem dL_stands_76 : decode cL_stands 76 = .ok (.aload_n 3, 1) := by decide +kernel
theorem dL_stands_77 : decode cL_stands 77 = .ok (.bipush 8, 2) := by decide +kernel
theorem dL_stands_79 : decode cL_stands 79 = .ok (.iload 6, 2) := by decide +kernel
theorem dL_stands_81 : decode cL_stands 81 = .ok (.imul, 1) := by decide +kernel
theorem dL_stands_82 : decode cL_stands 82 = .ok (.iload 8, 2) := by decide +kernel
theorem dL_stands_84 : decode cL_stands 84 = .ok (.iadd, 1) := by decide +kernel
theorem dL_stands_85 : decode cL_stands 85 = .ok (.iaload, 1) := by decide +kernel
theorem dL_stands_86 : decode cL_stands 86 = .ok (.isub, 1) := by decide +kernel
theorem dL_stands_87 : decode cL_stands 87 = .ok (.iadd, 1) := by decide +kernel
theorem dL_stands_88 : decode cL_stands 88 = .ok (.istore 7, 2) := by decide +kernel
theorem dL_stands_90 : decode cL_stands 90 = .ok (.iinc 8 1, 3) := by decide +kernel
theorem dL_stands_93 : decode cL_stands 93 = .ok (.goto (-70), 3) := by decide +kernel
theorem dL_stands_96 : decode cL_stands 96 = .ok (.aload_n 0, 1) := by decide +kernel
theorem dL_stands_97 : decode cL_stands 97 = .ok (.iload 6, 2) := by decide +kernel
theorem dL_stands_99 : decode cL_stands 99 = .ok (.invokevirtual 69, 3) := by decide +kernel
theorem dL_stands_102 : decode cL_stands 102 = .ok (.iload 7, 2) := by decide +kernel
theorem dL_stands_104 : decode cL_stands 104 = .ok (.if_icmp .ne 70, 3) := by decide +kernel
theorem dL_stands_107 : decode cL_stands 107 = .ok (.aload_n 0, 1) := by decide +kernel
theorem dL_stands_108 : decode cL_stands 108 = .ok (.iload 6, 2) := by decide +kernel
theorem dL_stands_110 : decode cL_stands 110 = .ok (.iconst 0, 1) := by decide +kernel
theorem dL_stands_111 : decode cL_stands 111 = .ok (.invokevirtual 72, 3) := by decide +kernel
theorem dL_stands_114 : decode cL_stands 114 = .ok (.aload_n 1, 1) := by decide +kernel
theorem dL_stands_115 : decode cL_stands 115 = .ok (.iconst 1, 1) := by decide +kernel
theorem dL_stands_116 : decode cL_stands 116 = .ok (.iload 6, 2) := by decide +kernel
theorem dL_stands_118 : decode cL_stands 118 = .ok (.iadd, 1) := by decide +kernel
theorem dL_stands_119 : decode cL_stands 119 = .ok (.iaload, 1) := by decide +kernel
theorem dL_stands_120 : decode cL_stands 120 = .ok (.if_icmp .ne 54, 3) := by decide +kernel
theorem dL_stands_123 : decode cL_stands 123 = .ok (.aload_n 0, 1) := by decide +kernel
theorem dL_stands_124 : decode cL_stands 124 = .ok (.iload 6, 2) := by decide +kernel
theorem dL_stands_126 : decode cL_stands 126 = .ok (.iconst 1, 1) := by decide +kernel
theorem dL_stands_127 : decode cL_stands 127 = .ok (.invokevirtual 72, 3) := by decide +kernel
theorem dL_stands_130 : decode cL_stands 130 = .ok (.aload_n 1, 1) := by decide +kernel
theorem dL_stands_131 : decode cL_stands 131 = .ok (.aload_n 2, 1) := by decide +kernel
theorem dL_stands_132 : decode cL_stands 132 = .ok (.iload 6, 2) := by decide +kernel
theorem dL_stands_134 : decode cL_stands 134 = .ok (.invokestatic 42, 3) := by decide +kernel
theorem dL_stands_137 : decode cL_stands 137 = .ok (.if_icmp .ne 37, 3) := by decide +kernel
theorem dL_stands_140 : decode cL_stands 140 = .ok (.aload_n 0, 1) := by decide +kernel
theorem dL_stands_141 : decode cL_stands 141 = .ok (.iload 6, 2) := by decide +kernel
theorem dL_stands_143 : decode cL_stands 143 = .ok (.iconst 2, 1) := by decide +kernel
theorem dL_stands_144 : decode cL_stands 144 = .ok (.invokevirtual 72, 3) := by decide +kernel
theorem dL_stands_147 : decode cL_stands 147 = .ok (.aload_n 1, 1) := by decide +kernel
theorem dL_stands_148 : decode cL_stands 148 = .ok (.bipush 9, 2) := by decide +kernel
theorem dL_stands_150 : decode cL_stands 150 = .ok (.iload 6, 2) := by decide +kernel
theorem dL_stands_152 : decode cL_stands 152 = .ok (.iadd, 1) := by decide +kernel
theorem dL_stands_153 : decode cL_stands 153 = .ok (.iaload, 1) := by decide +kernel
theorem dL_stands_154 : decode cL_stands 154 = .ok (.if_icmp .ne 20, 3) := by decide +kernel
theorem dL_stands_157 : decode cL_stands 157 = .ok (.aload_n 0, 1) := by decide +kernel
theorem dL_stands_158 : decode cL_stands 158 = .ok (.iload 6, 2) := by decide +kernel
theorem dL_stands_160 : decode cL_stands 160 = .ok (.iconst 3, 1) := by decide +kernel
theorem dL_stands_161 : decode cL_stands 161 = .ok (.invokevirtual 72, 3) := by decide +kernel
theorem dL_stands_164 : decode cL_stands 164 = .ok (.aload_n 1, 1) := by decide +kernel
theorem dL_stands_165 : decode cL_stands 165 = .ok (.bipush 17, 2) := by decide +kernel
theorem dL_stands_167 : decode cL_stands 167 = .ok (.iload 6, 2) := by decide +kernel
theorem dL_stands_169 : decode cL_stands 169 = .ok (.iadd, 1) := by decide +kernel
theorem dL_stands_170 : decode cL_stands 170 = .ok (.iaload, 1) := by decide +kernel
theorem dL_stands_171 : decode cL_stands 171 = .ok (.if_icmp .eq 5, 3) := by decide +kernel
theorem dL_stands_174 : decode cL_stands 174 = .ok (.iconst 0, 1) := by decide +kernel
theorem dL_stands_175 : decode cL_stands 175 = .ok (.ireturn, 1) := by decide +kernel
theorem dL_stands_176 : decode cL_stands 176 = .ok (.iload 4, 2) := by decide +kernel
theorem dL_stands_178 : decode cL_stands 178 = .ok (.aload_n 1, 1) := by decide +kernel
theorem dL_stands_179 : decode cL_stands 179 = .ok (.bipush 17, 2) := by decide +kernel
theorem dL_stands_181 : decode cL_stands 181 = .ok (.iload 6, 2) := by decide +kernel
theorem dL_stands_183 : decode cL_stands 183 = .ok (.iadd, 1) := by decide +kernel
theorem dL_stands_184 : decode cL_stands 184 = .ok (.iaload, 1) := by decide +kernel
theorem dL_stands_185 : decode cL_stands 185 = .ok (.iadd, 1) := by decide +kernel
theorem dL_stands_186 : decode cL_stands 186 = .ok (.istore 4, 2) := by decide +kernel
theorem dL_stands_188 : decode cL_stands 188 = .ok (.iinc 6 1, 3) := by decide +kernel
theorem dL_stands_191 : decode cL_stands 191 = .ok (.goto (-182), 3) := by decide +kernel
theorem dL_stands_194 : decode cL_stands 194 = .ok (.iconst 0, 1) := by decide +kernel
theorem dL_stands_195 : decode cL_stands 195 = .ok (.istore 6, 2) := by decide +kernel
theorem dL_stands_197 : decode cL_stands 197 = .ok (.iload 6, 2) := by decide +kernel
theorem dL_stands_199 : decode cL_stands 199 = .ok (.aload_n 1, 1) := by decide +kernel
theorem dL_stands_200 : decode cL_stands 200 = .ok (.bipush 25, 2) := by decide +kernel
theorem dL_stands_202 : decode cL_stands 202 = .ok (.iaload, 1) := by decide +kernel
theorem dL_stands_203 : decode cL_stands 203 = .ok (.if_icmp .ge 127, 3) := by decide +kernel
theorem dL_stands_206 : decode cL_stands 206 = .ok (.bipush 8, 2) := by decide +kernel
theorem dL_stands_208 : decode cL_stands 208 = .ok (.iload 6, 2) := by decide +kernel
theorem dL_stands_210 : decode cL_stands 210 = .ok (.imul, 1) := by decide +kernel
theorem dL_stands_211 : decode cL_stands 211 = .ok (.istore 7, 2) := by decide +kernel
theorem dL_stands_213 : decode cL_stands 213 = .ok (.iconst 0, 1) := by decide +kernel
theorem dL_stands_214 : decode cL_stands 214 = .ok (.istore 8, 2) := by decide +kernel
theorem dL_stands_216 : decode cL_stands 216 = .ok (.iload 8, 2) := by decide +kernel
theorem dL_stands_218 : decode cL_stands 218 = .ok (.bipush 6, 2) := by decide +kernel
theorem dL_stands_220 : decode cL_stands 220 = .ok (.if_icmp .ge 29, 3) := by decide +kernel
theorem dL_stands_223 : decode cL_stands 223 = .ok (.aload_n 0, 1) := by decide +kernel
theorem dL_stands_224 : decode cL_stands 224 = .ok (.iload 6, 2) := by decide +kernel
theorem dL_stands_226 : decode cL_stands 226 = .ok (.iload 8, 2) := by decide +kernel
theorem dL_stands_228 : decode cL_stands 228 = .ok (.invokevirtual 75, 3) := by decide +kernel
theorem dL_stands_231 : decode cL_stands 231 = .ok (.aload_n 2, 1) := by decide +kernel
theorem dL_stands_232 : decode cL_stands 232 = .ok (.iload 7, 2) := by decide +kernel
theorem dL_stands_234 : decode cL_stands 234 = .ok (.iload 8, 2) := by decide +kernel
theorem dL_stands_236 : decode cL_stands 236 = .ok (.iadd, 1) := by decide +kernel
theorem dL_stands_237 : decode cL_stands 237 = .ok (.iaload, 1) := by decide +kernel
theorem dL_stands_238 : decode cL_stands 238 = .ok (.if_icmp .eq 5, 3) := by decide +kernel
theorem dL_stands_241 : decode cL_stands 241 = .ok (.iconst 0, 1) := by decide +kernel
theorem dL_stands_242 : decode cL_stands 242 = .ok (.ireturn, 1) := by decide +kernel
theorem dL_stands_243 : decode cL_stands 243 = .ok (.iinc 8 1, 3) := by decide +kernel
theorem dL_stands_246 : decode cL_stands 246 = .ok (.goto (-30), 3) := by decide +kernel
theorem dL_stands_249 : decode cL_stands 249 = .ok (.aload_n 0, 1) := by decide +kernel
theorem dL_stands_250 : decode cL_stands 250 = .ok (.iload 6, 2) := by decide +kernel
theorem dL_stands_252 : decode cL_stands 252 = .ok (.bipush 6, 2) := by decide +kernel
theorem dL_stands_254 : decode cL_stands 254 = .ok (.invokevirtual 75, 3) := by decide +kernel
theorem dL_stands_257 : decode cL_stands 257 = .ok (.aload_n 2, 1) := by decide +kernel
theorem dL_stands_258 : decode cL_stands 258 = .ok (.iload 7, 2) := by decide +kernel
theorem dL_stands_260 : decode cL_stands 260 = .ok (.invokestatic 39, 3) := by decide +kernel
theorem dL_stands_263 : decode cL_stands 263 = .ok (.if_icmp .ne 39, 3) := by decide +kernel
theorem dL_stands_266 : decode cL_stands 266 = .ok (.aload_n 0, 1) := by decide +kernel
theorem dL_stands_267 : decode cL_stands 267 = .ok (.iload 6, 2) := by decide +kernel
theorem dL_stands_269 : decode cL_stands 269 = .ok (.bipush 7, 2) := by decide +kernel
theorem dL_stands_271 : decode cL_stands 271 = .ok (.invokevirtual 75, 3) := by decide +kernel
theorem dL_stands_274 : decode cL_stands 274 = .ok (.aload_n 2, 1) := by decide +kernel
theorem dL_stands_275 : decode cL_stands 275 = .ok (.iload 7, 2) := by decide +kernel
theorem dL_stands_277 : decode cL_stands 277 = .ok (.bipush 7, 2) := by decide +kernel
theorem dL_stands_279 : decode cL_stands 279 = .ok (.iadd, 1) := by decide +kernel
theorem dL_stands_280 : decode cL_stands 280 = .ok (.iaload, 1) := by decide +kernel
theorem dL_stands_281 : decode cL_stands 281 = .ok (.if_icmp .ne 21, 3) := by decide +kernel
theorem dL_stands_284 : decode cL_stands 284 = .ok (.aload_n 0, 1) := by decide +kernel
theorem dL_stands_285 : decode cL_stands 285 = .ok (.iload 6, 2) := by decide +kernel
theorem dL_stands_287 : decode cL_stands 287 = .ok (.bipush 8, 2) := by decide +kernel
theorem dL_stands_289 : decode cL_stands 289 = .ok (.invokevirtual 75, 3) := by decide +kernel
theorem dL_stands_292 : decode cL_stands 292 = .ok (.aload_n 2, 1) := by decide +kernel
theorem dL_stands_293 : decode cL_stands 293 = .ok (.iload 7, 2) := by decide +kernel
theorem dL_stands_295 : decode cL_stands 295 = .ok (.bipush 6, 2) := by decide +kernel
theorem dL_stands_297 : decode cL_stands 297 = .ok (.iadd, 1) := by decide +kernel
theorem dL_stands_298 : decode cL_stands 298 = .ok (.iaload, 1) := by decide +kernel
theorem dL_stands_299 : decode cL_stands 299 = .ok (.if_icmp .eq 5, 3) := by decide +kernel
theorem dL_stands_302 : decode cL_stands 302 = .ok (.iconst 0, 1) := by decide +kernel
theorem dL_stands_303 : decode cL_stands 303 = .ok (.ireturn, 1) := by decide +kernel
theorem dL_stands_304 : decode cL_stands 304 = .ok (.iload 5, 2) := by decide +kernel
theorem dL_stands_306 : decode cL_stands 306 = .ok (.aload_n 2, 1) := by decide +kernel
theorem dL_stands_307 : decode cL_stands 307 = .ok (.iload 7, 2) := by decide +kernel
theorem dL_stands_309 : decode cL_stands 309 = .ok (.bipush 7, 2) := by decide +kernel
theorem dL_stands_311 : decode cL_stands 311 = .ok (.iadd, 1) := by decide +kernel
theorem dL_stands_312 : decode cL_stands 312 = .ok (.iaload, 1) := by decide +kernel
theorem dL_stands_313 : decode cL_stands 313 = .ok (.ifCond .ne 7, 3) := by decide +kernel
theorem dL_stands_316 : decode cL_stands 316 = .ok (.iconst 1, 1) := by decide +kernel
theorem dL_stands_317 : decode cL_stands 317 = .ok (.goto 4, 3) := by decide +kernel
theorem dL_stands_320 : decode cL_stands 320 = .ok (.iconst 0, 1) := by decide +kernel
theorem dL_stands_321 : decode cL_stands 321 = .ok (.iadd, 1) := by decide +kernel
theorem dL_stands_322 : decode cL_stands 322 = .ok (.istore 5, 2) := by decide +kernel
theorem dL_stands_324 : decode cL_stands 324 = .ok (.iinc 6 1, 3) := by decide +kernel
theorem dL_stands_327 : decode cL_stands 327 = .ok (.goto (-130), 3) := by decide +kernel
theorem dL_stands_330 : decode cL_stands 330 = .ok (.aload_n 0, 1) := by decide +kernel
theorem dL_stands_331 : decode cL_stands 331 = .ok (.iconst 0, 1) := by decide +kernel
theorem dL_stands_332 : decode cL_stands 332 = .ok (.invokevirtual 78, 3) := by decide +kernel
theorem dL_stands_335 : decode cL_stands 335 = .ok (.aload_n 1, 1) := by decide +kernel
theorem dL_stands_336 : decode cL_stands 336 = .ok (.iconst 0, 1) := by decide +kernel
theorem dL_stands_337 : decode cL_stands 337 = .ok (.iaload, 1) := by decide +kernel
theorem dL_stands_338 : decode cL_stands 338 = .ok (.if_icmp .ne 51, 3) := by decide +kernel
theorem dL_stands_341 : decode cL_stands 341 = .ok (.aload_n 0, 1) := by decide +kernel
theorem dL_stands_342 : decode cL_stands 342 = .ok (.iconst 1, 1) := by decide +kernel
theorem dL_stands_343 : decode cL_stands 343 = .ok (.invokevirtual 78, 3) := by decide +kernel
theorem dL_stands_346 : decode cL_stands 346 = .ok (.aload_n 1, 1) := by decide +kernel
theorem dL_stands_347 : decode cL_stands 347 = .ok (.bipush 25, 2) := by decide +kernel
theorem dL_stands_349 : decode cL_stands 349 = .ok (.iaload, 1) := by decide +kernel
theorem dL_stands_350 : decode cL_stands 350 = .ok (.if_icmp .ne 39, 3) := by decide +kernel
theorem dL_stands_353 : decode cL_stands 353 = .ok (.aload_n 0, 1) := by decide +kernel
theorem dL_stands_354 : decode cL_stands 354 = .ok (.iconst 2, 1) := by decide +kernel
theorem dL_stands_355 : decode cL_stands 355 = .ok (.invokevirtual 78, 3) := by decide +kernel
theorem dL_stands_358 : decode cL_stands 358 = .ok (.iload 5, 2) := by decide +kernel
theorem dL_stands_360 : decode cL_stands 360 = .ok (.if_icmp .ne 29, 3) := by decide +kernel
theorem dL_stands_363 : decode cL_stands 363 = .ok (.aload_n 0, 1) := by decide +kernel
theorem dL_stands_364 : decode cL_stands 364 = .ok (.iconst 3, 1) := by decide +kernel
theorem dL_stands_365 : decode cL_stands 365 = .ok (.invokevirtual 78, 3) := by decide +kernel
theorem dL_stands_368 : decode cL_stands 368 = .ok (.aload_n 1, 1) := by decide +kernel
theorem dL_stands_369 : decode cL_stands 369 = .ok (.bipush 26, 2) := by decide +kernel
theorem dL_stands_371 : decode cL_stands 371 = .ok (.iaload, 1) := by decide +kernel
theorem dL_stands_372 : decode cL_stands 372 = .ok (.if_icmp .ne 17, 3) := by decide +kernel
theorem dL_stands_375 : decode cL_stands 375 = .ok (.aload_n 0, 1) := by decide +kernel
theorem dL_stands_376 : decode cL_stands 376 = .ok (.iconst 4, 1) := by decide +kernel
theorem dL_stands_377 : decode cL_stands 377 = .ok (.invokevirtual 78, 3) := by decide +kernel
theorem dL_stands_380 : decode cL_stands 380 = .ok (.iload 4, 2) := by decide +kernel
theorem dL_stands_382 : decode cL_stands 382 = .ok (.if_icmp .ne 7, 3) := by decide +kernel
theorem dL_stands_385 : decode cL_stands 385 = .ok (.iconst 1, 1) := by decide +kernel
theorem dL_stands_386 : decode cL_stands 386 = .ok (.goto 4, 3) := by decide +kernel
theorem dL_stands_389 : decode cL_stands 389 = .ok (.iconst 0, 1) := by decide +kernel
theorem dL_stands_390 : decode cL_stands 390 = .ok (.ireturn, 1) := by decide +kernel
theorem dL_law_0 : decode cL_law 0 = .ok (.new 15, 3) := by decide +kernel
theorem dL_law_3 : decode cL_law 3 = .ok (.dup, 1) := by decide +kernel
theorem dL_law_4 : decode cL_law 4 = .ok (.invokespecial 81, 3) := by decide +kernel
theorem dL_law_7 : decode cL_law 7 = .ok (.astore_n 1, 1) := by decide +kernel
theorem dL_law_8 : decode cL_law 8 = .ok (.iconst 4, 1) := by decide +kernel
theorem dL_law_9 : decode cL_law 9 = .ok (.newarray .int, 2) := by decide +kernel
theorem dL_law_11 : decode cL_law 11 = .ok (.astore_n 2, 1) := by decide +kernel
theorem dL_law_12 : decode cL_law 12 = .ok (.bipush 16, 2) := by decide +kernel
theorem dL_law_14 : decode cL_law 14 = .ok (.newarray .int, 2) := by decide +kernel
theorem dL_law_16 : decode cL_law 16 = .ok (.astore_n 3, 1) := by decide +kernel
theorem dL_law_17 : decode cL_law 17 = .ok (.bipush 27, 2) := by decide +kernel
theorem dL_law_19 : decode cL_law 19 = .ok (.newarray .int, 2) := by decide +kernel
theorem dL_law_21 : decode cL_law 21 = .ok (.astore 4, 2) := by decide +kernel
theorem dL_law_23 : decode cL_law 23 = .ok (.bipush 64, 2) := by decide +kernel
theorem dL_law_25 : decode cL_law 25 = .ok (.newarray .int, 2) := by decide +kernel
theorem dL_law_27 : decode cL_law 27 = .ok (.astore 5, 2) := by decide +kernel
theorem dL_law_29 : decode cL_law 29 = .ok (.bipush 64, 2) := by decide +kernel
theorem dL_law_31 : decode cL_law 31 = .ok (.newarray .int, 2) := by decide +kernel
theorem dL_law_33 : decode cL_law 33 = .ok (.astore 6, 2) := by decide +kernel
theorem dL_law_35 : decode cL_law 35 = .ok (.bipush 64, 2) := by decide +kernel
theorem dL_law_37 : decode cL_law 37 = .ok (.newarray .int, 2) := by decide +kernel
theorem dL_law_39 : decode cL_law 39 = .ok (.astore 7, 2) := by decide +kernel
theorem dL_law_41 : decode cL_law 41 = .ok (.aload_n 0, 1) := by decide +kernel
theorem dL_law_42 : decode cL_law 42 = .ok (.iconst 0, 1) := by decide +kernel
theorem dL_law_43 : decode cL_law 43 = .ok (.invokestatic 20, 3) := by decide +kernel
theorem dL_law_46 : decode cL_law 46 = .ok (.aload_n 2, 1) := by decide +kernel
theorem dL_law_47 : decode cL_law 47 = .ok (.aload_n 3, 1) := by decide +kernel
theorem dL_law_48 : decode cL_law 48 = .ok (.invokestatic 82, 3) := by decide +kernel
theorem dL_law_51 : decode cL_law 51 = .ok (.istore 8, 2) := by decide +kernel
theorem dL_law_53 : decode cL_law 53 = .ok (.aload_n 1, 1) := by decide +kernel
theorem dL_law_54 : decode cL_law 54 = .ok (.aload_n 3, 1) := by decide +kernel
theorem dL_law_55 : decode cL_law 55 = .ok (.iload 8, 2) := by decide +kernel
theorem dL_law_57 : decode cL_law 57 = .ok (.invokestatic 86, 3) := by decide +kernel
theorem dL_law_60 : decode cL_law 60 = .ok (.ifCond .eq 20, 3) := by decide +kernel
theorem dL_law_63 : decode cL_law 63 = .ok (.aload_n 1, 1) := by decide +kernel
theorem dL_law_64 : decode cL_law 64 = .ok (.invokevirtual 90, 3) := by decide +kernel
theorem dL_law_67 : decode cL_law 67 = .ok (.iload 8, 2) := by decide +kernel
theorem dL_law_69 : decode cL_law 69 = .ok (.if_icmp .ne 11, 3) := by decide +kernel
theorem dL_law_72 : decode cL_law 72 = .ok (.aload_n 1, 1) := by decide +kernel
theorem dL_law_73 : decode cL_law 73 = .ok (.invokevirtual 94, 3) := by decide +kernel
theorem dL_law_76 : decode cL_law 76 = .ok (.iconst 1, 1) := by decide +kernel
theorem dL_law_77 : decode cL_law 77 = .ok (.if_icmp .eq 5, 3) := by decide +kernel
theorem dL_law_80 : decode cL_law 80 = .ok (.iconst 0, 1) := by decide +kernel
theorem dL_law_81 : decode cL_law 81 = .ok (.ireturn, 1) := by decide +kernel
theorem dL_law_82 : decode cL_law 82 = .ok (.iconst 0, 1) := by decide +kernel
theorem dL_law_83 : decode cL_law 83 = .ok (.istore 9, 2) := by decide +kernel
theorem dL_law_85 : decode cL_law 85 = .ok (.iload 9, 2) := by decide +kernel
theorem dL_law_87 : decode cL_law 87 = .ok (.iconst 4, 1) := by decide +kernel
theorem dL_law_88 : decode cL_law 88 = .ok (.if_icmp .ge 24, 3) := by decide +kernel
theorem dL_law_91 : decode cL_law 91 = .ok (.aload_n 1, 1) := by decide +kernel
theorem dL_law_92 : decode cL_law 92 = .ok (.iload 9, 2) := by decide +kernel
theorem dL_law_94 : decode cL_law 94 = .ok (.invokevirtual 97, 3) := by decide +kernel
theorem dL_law_97 : decode cL_law 97 = .ok (.aload_n 2, 1) := by decide +kernel
theorem dL_law_98 : decode cL_law 98 = .ok (.iload 9, 2) := by decide +kernel
theorem dL_law_100 : decode cL_law 100 = .ok (.iaload, 1) := by decide +kernel
theorem dL_law_101 : decode cL_law 101 = .ok (.if_icmp .eq 5, 3) := by decide +kernel
theorem dL_law_104 : decode cL_law 104 = .ok (.iconst 0, 1) := by decide +kernel
theorem dL_law_105 : decode cL_law 105 = .ok (.ireturn, 1) := by decide +kernel
theorem dL_law_106 : decode cL_law 106 = .ok (.iinc 9 1, 3) := by decide +kernel
theorem dL_law_109 : decode cL_law 109 = .ok (.goto (-24), 3) := by decide +kernel
theorem dL_law_112 : decode cL_law 112 = .ok (.aload_n 1, 1) := by decide +kernel
theorem dL_law_113 : decode cL_law 113 = .ok (.aload_n 0, 1) := by decide +kernel
theorem dL_law_114 : decode cL_law 114 = .ok (.iconst 1, 1) := by decide +kernel
theorem dL_law_115 : decode cL_law 115 = .ok (.bipush 8, 2) := by decide +kernel
theorem dL_law_117 : decode cL_law 117 = .ok (.aload 4, 2) := by decide +kernel
theorem dL_law_119 : decode cL_law 119 = .ok (.aload 5, 2) := by decide +kernel
theorem dL_law_121 : decode cL_law 121 = .ok (.invokestatic 100, 3) := by decide +kernel
theorem dL_law_124 : decode cL_law 124 = .ok (.ifCond .eq 32, 3) := by decide +kernel
theorem dL_law_127 : decode cL_law 127 = .ok (.aload_n 1, 1) := by decide +kernel
theorem dL_law_128 : decode cL_law 128 = .ok (.aload_n 0, 1) := by decide +kernel
theorem dL_law_129 : decode cL_law 129 = .ok (.bipush 10, 2) := by decide +kernel
theorem dL_law_131 : decode cL_law 131 = .ok (.bipush 8, 2) := by decide +kernel
theorem dL_law_133 : decode cL_law 133 = .ok (.aload 4, 2) := by decide +kernel
theorem dL_law_135 : decode cL_law 135 = .ok (.aload 7, 2) := by decide +kernel
theorem dL_law_137 : decode cL_law 137 = .ok (.invokestatic 104, 3) := by decide +kernel
theorem dL_law_140 : decode cL_law 140 = .ok (.ifCond .eq 16, 3) := by decide +kernel
theorem dL_law_143 : decode cL_law 143 = .ok (.aload_n 1, 1) := by decide +kernel
theorem dL_law_144 : decode cL_law 144 = .ok (.aload 4, 2) := by decide +kernel
theorem dL_law_146 : decode cL_law 146 = .ok (.aload 7, 2) := by decide +kernel
theorem dL_law_148 : decode cL_law 148 = .ok (.aload 6, 2) := by decide +kernel
theorem dL_law_150 : decode cL_law 150 = .ok (.invokestatic 107, 3) := by decide +kernel
theorem dL_law_153 : decode cL_law 153 = .ok (.ifCond .ne 5, 3) := by decide +kernel
theorem dL_law_156 : decode cL_law 156 = .ok (.iconst 0, 1) := by decide +kernel
theorem dL_law_157 : decode cL_law 157 = .ok (.ireturn, 1) := by decide +kernel
theorem dL_law_158 : decode cL_law 158 = .ok (.iconst 0, 1) := by decide +kernel
theorem dL_law_159 : decode cL_law 159 = .ok (.istore 9, 2) := by decide +kernel
theorem dL_law_161 : decode cL_law 161 = .ok (.iload 9, 2) := by decide +kernel
theorem dL_law_163 : decode cL_law 163 = .ok (.aload 4, 2) := by decide +kernel
theorem dL_law_165 : decode cL_law 165 = .ok (.bipush 25, 2) := by decide +kernel
theorem dL_law_167 : decode cL_law 167 = .ok (.iaload, 1) := by decide +kernel
theorem dL_law_168 : decode cL_law 168 = .ok (.if_icmp .ge 79, 3) := by decide +kernel
theorem dL_law_171 : decode cL_law 171 = .ok (.iconst 0, 1) := by decide +kernel
theorem dL_law_172 : decode cL_law 172 = .ok (.istore 10, 2) := by decide +kernel
theorem dL_law_174 : decode cL_law 174 = .ok (.iload 10, 2) := by decide +kernel
theorem dL_law_176 : decode cL_law 176 = .ok (.iconst 5, 1) := by decide +kernel
theorem dL_law_177 : decode cL_law 177 = .ok (.if_icmp .ge 64, 3) := by decide +kernel
theorem dL_law_180 : decode cL_law 180 = .ok (.aload_n 1, 1) := by decide +kernel
theorem dL_law_181 : decode cL_law 181 = .ok (.iload 9, 2) := by decide +kernel
theorem dL_law_183 : decode cL_law 183 = .ok (.iload 10, 2) := by decide +kernel
theorem dL_law_185 : decode cL_law 185 = .ok (.invokevirtual 111, 3) := by decide +kernel
theorem dL_law_188 : decode cL_law 188 = .ok (.iload 10, 2) := by decide +kernel
theorem dL_law_190 : decode cL_law 190 = .ok (.ifCond .eq 34, 3) := by decide +kernel
theorem dL_law_193 : decode cL_law 193 = .ok (.iload 10, 2) := by decide +kernel
theorem dL_law_195 : decode cL_law 195 = .ok (.aload 7, 2) := by decide +kernel
theorem dL_law_197 : decode cL_law 197 = .ok (.bipush 8, 2) := by decide +kernel
theorem dL_law_199 : decode cL_law 199 = .ok (.iload 9, 2) := by decide +kernel
theorem dL_law_201 : decode cL_law 201 = .ok (.imul, 1) := by decide +kernel
theorem dL_law_202 : decode cL_law 202 = .ok (.iaload, 1) := by decide +kernel
theorem dL_law_203 : decode cL_law 203 = .ok (.if_icmp .eq 21, 3) := by decide +kernel
theorem dL_law_206 : decode cL_law 206 = .ok (.iload 10, 2) := by decide +kernel
theorem dL_law_208 : decode cL_law 208 = .ok (.iconst 1, 1) := by decide +kernel
theorem dL_law_209 : decode cL_law 209 = .ok (.if_icmp .ne 20, 3) := by decide +kernel
theorem dL_law_212 : decode cL_law 212 = .ok (.aload 7, 2) := by decide +kernel
theorem dL_law_214 : decode cL_law 214 = .ok (.bipush 8, 2) := by decide +kernel
theorem dL_law_216 : decode cL_law 216 = .ok (.iload 9, 2) := by decide +kernel
theorem dL_law_218 : decode cL_law 218 = .ok (.imul, 1) := by decide +kernel
theorem dL_law_219 : decode cL_law 219 = .ok (.iaload, 1) := by decide +kernel
theorem dL_law_220 : decode cL_law 220 = .ok (.iconst 4, 1) := by decide +kernel
theorem dL_law_221 : decode cL_law 221 = .ok (.if_icmp .ne 8, 3) := by decide +kernel
theorem dL_law_224 : decode cL_law 224 = .ok (.iload 9, 2) := by decide +kernel
theorem dL_law_226 : decode cL_law 226 = .ok (.goto 4, 3) := by decide +kernel
theorem dL_law_229 : decode cL_law 229 = .ok (.iconst (-1), 1) := by decide +kernel
theorem dL_law_230 : decode cL_law 230 = .ok (.if_icmp .eq 5, 3) := by decide +kernel
theorem dL_law_233 : decode cL_law 233 = .ok (.iconst 0, 1) := by decide +kernel
theorem dL_law_234 : decode cL_law 234 = .ok (.ireturn, 1) := by decide +kernel
theorem dL_law_235 : decode cL_law 235 = .ok (.iinc 10 1, 3) := by decide +kernel
theorem dL_law_238 : decode cL_law 238 = .ok (.goto (-64), 3) := by decide +kernel
theorem dL_law_241 : decode cL_law 241 = .ok (.iinc 9 1, 3) := by decide +kernel
theorem dL_law_244 : decode cL_law 244 = .ok (.goto (-83), 3) := by decide +kernel
theorem dL_law_247 : decode cL_law 247 = .ok (.iconst 1, 1) := by decide +kernel
theorem dL_law_248 : decode cL_law 248 = .ok (.newarray .long, 2) := by decide +kernel
theorem dL_law_250 : decode cL_law 250 = .ok (.astore 9, 2) := by decide +kernel
theorem dL_law_252 : decode cL_law 252 = .ok (.iconst 0, 1) := by decide +kernel
theorem dL_law_253 : decode cL_law 253 = .ok (.istore 10, 2) := by decide +kernel
theorem dL_law_255 : decode cL_law 255 = .ok (.iload 10, 2) := by decide +kernel
theorem dL_law_257 : decode cL_law 257 = .ok (.bipush 14, 2) := by decide +kernel
theorem dL_law_259 : decode cL_law 259 = .ok (.if_icmp .ge 676, 3) := by decide +kernel
theorem dL_law_262 : decode cL_law 262 = .ok (.aload_n 0, 1) := by decide +kernel
theorem dL_law_263 : decode cL_law 263 = .ok (.bipush 14, 2) := by decide +kernel
theorem dL_law_265 : decode cL_law 265 = .ok (.iload 10, 2) := by decide +kernel
theorem dL_law_267 : decode cL_law 267 = .ok (.iadd, 1) := by decide +kernel
theorem dL_law_268 : decode cL_law 268 = .ok (.invokestatic 20, 3) := by decide +kernel
theorem dL_law_271 : decode cL_law 271 = .ok (.istore 11, 2) := by decide +kernel
theorem dL_law_273 : decode cL_law 273 = .ok (.iload 11, 2) := by decide +kernel
theorem dL_law_275 : decode cL_law 275 = .ok (.iconst 2, 1) := by decide +kernel
theorem dL_law_276 : decode cL_law 276 = .ok (.ishr, 1) := by decide +kernel
theorem dL_law_277 : decode cL_law 277 = .ok (.aload 4, 2) := by decide +kernel
theorem dL_law_279 : decode cL_law 279 = .ok (.bipush 25, 2) := by decide +kernel
theorem dL_law_281 : decode cL_law 281 = .ok (.iaload, 1) := by decide +kernel
theorem dL_law_282 : decode cL_law 282 = .ok (.invokestatic 8, 3) := by decide +kernel
theorem dL_law_285 : decode cL_law 285 = .ok (.istore 12, 2) := by decide +kernel
theorem dL_law_287 : decode cL_law 287 = .ok (.bipush 8, 2) := by decide +kernel
theorem dL_law_289 : decode cL_law 289 = .ok (.iload 12, 2) := by decide +kernel
theorem dL_law_291 : decode cL_law 291 = .ok (.imul, 1) := by decide +kernel
theorem dL_law_292 : decode cL_law 292 = .ok (.istore 13, 2) := by decide +kernel
theorem dL_law_294 : decode cL_law 294 = .ok (.aload 4, 2) := by decide +kernel
theorem dL_law_296 : decode cL_law 296 = .ok (.aload_n 2, 1) := by decide +kernel
theorem dL_law_297 : decode cL_law 297 = .ok (.aload 7, 2) := by decide +kernel
theorem dL_law_299 : decode cL_law 299 = .ok (.iload 13, 2) := by decide +kernel
theorem dL_law_301 : decode cL_law 301 = .ok (.iconst 2, 1) := by decide +kernel
theorem dL_law_302 : decode cL_law 302 = .ok (.iadd, 1) := by decide +kernel
theorem dL_law_303 : decode cL_law 303 = .ok (.iaload, 1) := by decide +kernel
theorem dL_law_304 : decode cL_law 304 = .ok (.aload 7, 2) := by decide +kernel
theorem dL_law_306 : decode cL_law 306 = .ok (.iload 13, 2) := by decide +kernel
theorem dL_law_308 : decode cL_law 308 = .ok (.iconst 3, 1) := by decide +kernel
theorem dL_law_309 : decode cL_law 309 = .ok (.iadd, 1) := by decide +kernel
theorem dL_law_310 : decode cL_law 310 = .ok (.iaload, 1) := by decide +kernel
theorem dL_law_311 : decode cL_law 311 = .ok (.invokestatic 46, 3) := by decide +kernel
theorem dL_law_314 : decode cL_law 314 = .ok (.istore 14, 2) := by decide +kernel
theorem dL_law_316 : decode cL_law 316 = .ok (.aload_n 1, 1) := by decide +kernel
theorem dL_law_317 : decode cL_law 317 = .ok (.iload 12, 2) := by decide +kernel
theorem dL_law_319 : decode cL_law 319 = .ok (.invokevirtual 114, 3) := by decide +kernel
theorem dL_law_322 : decode cL_law 322 = .ok (.aload 7, 2) := by decide +kernel
theorem dL_law_324 : decode cL_law 324 = .ok (.iload 13, 2) := by decide +kernel
theorem dL_law_326 : decode cL_law 326 = .ok (.bipush 7, 2) := by decide +kernel
theorem dL_law_328 : decode cL_law 328 = .ok (.iadd, 1) := by decide +kernel
theorem dL_law_329 : decode cL_law 329 = .ok (.iaload, 1) := by decide +kernel
theorem dL_law_330 : decode cL_law 330 = .ok (.ifCond .le 8, 3) := by decide +kernel
theorem dL_law_333 : decode cL_law 333 = .ok (.bipush (-103), 2) := by decide +kernel
theorem dL_law_335 : decode cL_law 335 = .ok (.goto 5, 3) := by decide +kernel
theorem dL_law_338 : decode cL_law 338 = .ok (.iload 14, 2) := by decide +kernel
theorem dL_law_340 : decode cL_law 340 = .ok (.if_icmp .eq 5, 3) := by decide +kernel
theorem dL_law_343 : decode cL_law 343 = .ok (.iconst 0, 1) := by decide +kernel
theorem dL_law_344 : decode cL_law 344 = .ok (.ireturn, 1) := by decide +kernel
theorem dL_law_345 : decode cL_law 345 = .ok (.iload 11, 2) := by decide +kernel
theorem dL_law_347 : decode cL_law 347 = .ok (.iconst 4, 1) := by decide +kernel
theorem dL_law_348 : decode cL_law 348 = .ok (.invokestatic 8, 3) := by decide +kernel
theorem dL_law_351 : decode cL_law 351 = .ok (.istore 15, 2) := by decide +kernel
theorem dL_law_353 : decode cL_law 353 = .ok (.iload 15, 2) := by decide +kernel
theorem dL_law_355 : decode cL_law 355 = .ok (.iconst 2, 1) := by decide +kernel
theorem dL_law_356 : decode cL_law 356 = .ok (.if_icmp .ge 135, 3) := by decide +kernel
theorem dL_law_359 : decode cL_law 359 = .ok (.iload 11, 2) := by decide +kernel
theorem dL_law_361 : decode cL_law 361 = .ok (.iconst 5, 1) := by decide +kernel
theorem dL_law_362 : decode cL_law 362 = .ok (.ishr, 1) := by decide +kernel
theorem dL_law_363 : decode cL_law 363 = .ok (.aload 4, 2) := by decide +kernel
theorem dL_law_365 : decode cL_law 365 = .ok (.iconst 0, 1) := by decide +kernel
theorem dL_law_366 : decode cL_law 366 = .ok (.iaload, 1) := by decide +kernel
theorem dL_law_367 : decode cL_law 367 = .ok (.invokestatic 8, 3) := by decide +kernel
theorem dL_law_370 : decode cL_law 370 = .ok (.istore 16, 2) := by decide +kernel
theorem dL_law_372 : decode cL_law 372 = .ok (.iconst 0, 1) := by decide +kernel
theorem dL_law_373 : decode cL_law 373 = .ok (.istore 17, 2) := by decide +kernel
theorem dL_law_375 : decode cL_law 375 = .ok (.iload 17, 2) := by decide +kernel
theorem dL_law_377 : decode cL_law 377 = .ok (.bipush 8, 2) := by decide +kernel
theorem dL_law_379 : decode cL_law 379 = .ok (.if_icmp .ge 43, 3) := by decide +kernel
theorem dL_law_382 : decode cL_law 382 = .ok (.iload 11, 2) := by decide +kernel
theorem dL_law_384 : decode cL_law 384 = .ok (.bipush 8, 2) := by decide +kernel
theorem dL_law_386 : decode cL_law 386 = .ok (.ishr, 1) := by decide +kernel
theorem dL_law_387 : decode cL_law 387 = .ok (.bipush 8, 2) := by decide +kernel
theorem dL_law_389 : decode cL_law 389 = .ok (.invokestatic 8, 3) := by decide +kernel
theorem dL_law_392 : decode cL_law 392 = .ok (.ifCond .le 30, 3) := by decide +kernel
theorem dL_law_395 : decode cL_law 395 = .ok (.iload 14, 2) := by decide +kernel
theorem dL_law_397 : decode cL_law 397 = .ok (.iload 16, 2) := by decide +kernel
theorem dL_law_399 : decode cL_law 399 = .ok (.ishr, 1) := by decide +kernel
theorem dL_law_400 : decode cL_law 400 = .ok (.iconst 1, 1) := by decide +kernel
theorem dL_law_401 : decode cL_law 401 = .ok (.iand, 1) := by decide +kernel
theorem dL_law_402 : decode cL_law 402 = .ok (.ifCond .ne 20, 3) := by decide +kernel
theorem dL_law_405 : decode cL_law 405 = .ok (.iload 16, 2) := by decide +kernel
theorem dL_law_407 : decode cL_law 407 = .ok (.iconst 1, 1) := by decide +kernel
theorem dL_law_408 : decode cL_law 408 = .ok (.iadd, 1) := by decide +kernel
theorem dL_law_409 : decode cL_law 409 = .ok (.aload 4, 2) := by decide +kernel
theorem dL_law_411 : decode cL_law 411 = .ok (.iconst 0, 1) := by decide +kernel
theorem dL_law_412 : decode cL_law 412 = .ok (.iaload, 1) := by decide +kernel
theorem dL_law_413 : decode cL_law 413 = .ok (.irem, 1) := by decide +kernel
theorem dL_law_414 : decode cL_law 414 = .ok (.istore 16, 2) := by decide +kernel
theorem dL_law_416 : decode cL_law 416 = .ok (.iinc 17 1, 3) := by decide +kernel
theorem dL_law_419 : decode cL_law 419 = .ok (.goto (-44), 3) := by decide +kernel
theorem dL_law_422 : decode cL_law 422 = .ok (.aload 7, 2) := by decide +kernel
theorem dL_law_424 : decode cL_law 424 = .ok (.iload 13, 2) := by decide +kernel
theorem dL_law_426 : decode cL_law 426 = .ok (.bipush 7, 2) := by decide +kernel
theorem dL_law_428 : decode cL_law 428 = .ok (.iadd, 1) := by decide +kernel
theorem dL_law_429 : decode cL_law 429 = .ok (.iaload, 1) := by decide +kernel
theorem dL_law_430 : decode cL_law 430 = .ok (.ifCond .ne 18, 3) := by decide +kernel
theorem dL_law_433 : decode cL_law 433 = .ok (.iload 14, 2) := by decide +kernel
theorem dL_law_435 : decode cL_law 435 = .ok (.iload 16, 2) := by decide +kernel
theorem dL_law_437 : decode cL_law 437 = .ok (.ishr, 1) := by decide +kernel
theorem dL_law_438 : decode cL_law 438 = .ok (.iconst 1, 1) := by decide +kernel
theorem dL_law_439 : decode cL_law 439 = .ok (.iand, 1) := by decide +kernel
theorem dL_law_440 : decode cL_law 440 = .ok (.iconst 1, 1) := by decide +kernel
theorem dL_law_441 : decode cL_law 441 = .ok (.if_icmp .ne 7, 3) := by decide +kernel
theorem dL_law_444 : decode cL_law 444 = .ok (.iconst 1, 1) := by decide +kernel
theorem dL_law_445 : decode cL_law 445 = .ok (.goto 4, 3) := by decide +kernel
theorem dL_law_448 : decode cL_law 448 = .ok (.iconst 0, 1) := by decide +kernel
theorem dL_law_449 : decode cL_law 449 = .ok (.istore 17, 2) := by decide +kernel
theorem dL_law_451 : decode cL_law 451 = .ok (.aload_n 1, 1) := by decide +kernel
theorem dL_law_452 : decode cL_law 452 = .ok (.iload 12, 2) := by decide +kernel
theorem dL_law_454 : decode cL_law 454 = .ok (.iload 16, 2) := by decide +kernel
theorem dL_law_456 : decode cL_law 456 = .ok (.invokevirtual 116, 3) := by decide +kernel
theorem dL_law_459 : decode cL_law 459 = .ok (.iload 17, 2) := by decide +kernel
theorem dL_law_461 : decode cL_law 461 = .ok (.ifCond .eq 20, 3) := by decide +kernel
theorem dL_law_464 : decode cL_law 464 = .ok (.aload 4, 2) := by decide +kernel
theorem dL_law_466 : decode cL_law 466 = .ok (.aload_n 2, 1) := by decide +kernel
theorem dL_law_467 : decode cL_law 467 = .ok (.aload 7, 2) := by decide +kernel
theorem dL_law_469 : decode cL_law 469 = .ok (.aload 6, 2) := by decide +kernel
theorem dL_law_471 : decode cL_law 471 = .ok (.iload 12, 2) := by decide +kernel
theorem dL_law_473 : decode cL_law 473 = .ok (.iload 16, 2) := by decide +kernel
theorem dL_law_475 : decode cL_law 475 = .ok (.invokestatic 62, 3) := by decide +kernel
theorem dL_law_478 : decode cL_law 478 = .ok (.goto 5, 3) := by decide +kernel
theorem dL_law_481 : decode cL_law 481 = .ok (.bipush (-103), 2) := by decide +kernel
theorem dL_law_483 : decode cL_law 483 = .ok (.if_icmp .eq 5, 3) := by decide +kernel
theorem dL_law_486 : decode cL_law 486 = .ok (.iconst 0, 1) := by decide +kernel
theorem dL_law_487 : decode cL_law 487 = .ok (.ireturn, 1) := by decide +kernel
theorem dL_law_488 : decode cL_law 488 = .ok (.goto 426, 3) := by decide +kernel
theorem dL_law_491 : decode cL_law 491 = .ok (.iload 15, 2) := by decide +kernel
theorem dL_law_493 : decode cL_law 493 = .ok (.iconst 2, 1) := by decide +kernel
theorem dL_law_494 : decode cL_law 494 = .ok (.if_icmp .ne 103, 3) := by decide +kernel
theorem dL_law_497 : decode cL_law 497 = .ok (.iconst 1, 1) := by decide +kernel
theorem dL_law_498 : decode cL_law 498 = .ok (.iload 11, 2) := by decide +kernel
theorem dL_law_500 : decode cL_law 500 = .ok (.iconst 5, 1) := by decide +kernel
theorem dL_law_501 : decode cL_law 501 = .ok (.ishr, 1) := by decide +kernel
theorem dL_law_502 : decode cL_law 502 = .ok (.iload 11, 2) := by decide +kernel
theorem dL_law_504 : decode cL_law 504 = .ok (.bipush 20, 2) := by decide +kernel
theorem dL_law_506 : decode cL_law 506 = .ok (.ishr, 1) := by decide +kernel
theorem dL_law_507 : decode cL_law 507 = .ok (.iconst 4, 1) := by decide +kernel
theorem dL_law_508 : decode cL_law 508 = .ok (.invokestatic 8, 3) := by decide +kernel
theorem dL_law_511 : decode cL_law 511 = .ok (.ifCond .ne 8, 3) := by decide +kernel
theorem dL_law_514 : decode cL_law 514 = .ok (.bipush 30, 2) := by decide +kernel
theorem dL_law_516 : decode cL_law 516 = .ok (.goto 4, 3) := by decide +kernel
theorem dL_law_519 : decode cL_law 519 = .ok (.iconst 3, 1) := by decide +kernel
theorem dL_law_520 : decode cL_law 520 = .ok (.invokestatic 8, 3) := by decide +kernel
theorem dL_law_523 : decode cL_law 523 = .ok (.iadd, 1) := by decide +kernel
theorem dL_law_524 : decode cL_law 524 = .ok (.istore 16, 2) := by decide +kernel
theorem dL_law_526 : decode cL_law 526 = .ok (.iconst 0, 1) := by decide +kernel
theorem dL_law_527 : decode cL_law 527 = .ok (.istore 17, 2) := by decide +kernel
theorem dL_law_529 : decode cL_law 529 = .ok (.aload 9, 2) := by decide +kernel
theorem dL_law_531 : decode cL_law 531 = .ok (.iconst 0, 1) := by decide +kernel
theorem dL_law_532 : decode cL_law 532 = .ok (.ldc2_w 118, 3) := by decide +kernel
theorem dL_law_535 : decode cL_law 535 = .ok (.lastore, 1) := by decide +kernel
theorem dL_law_536 : decode cL_law 536 = .ok (.iconst 0, 1) := by decide +kernel
theorem dL_law_537 : decode cL_law 537 = .ok (.istore 18, 2) := by decide +kernel
theorem dL_law_539 : decode cL_law 539 = .ok (.iload 18, 2) := by decide +kernel
theorem dL_law_541 : decode cL_law 541 = .ok (.iload 16, 2) := by decide +kernel
theorem dL_law_543 : decode cL_law 543 = .ok (.if_icmp .ge 28, 3) := by decide +kernel
theorem dL_law_546 : decode cL_law 546 = .ok (.iload 17, 2) := by decide +kernel
theorem dL_law_548 : decode cL_law 548 = .ok (.aload 4, 2) := by decide +kernel
theorem dL_law_550 : decode cL_law 550 = .ok (.aload_n 2, 1) := by decide +kernel
theorem dL_law_551 : decode cL_law 551 = .ok (.aload 7, 2) := by decide +kernel
theorem dL_law_553 : decode cL_law 553 = .ok (.aload 5, 2) := by decide +kernel
theorem dL_law_555 : decode cL_law 555 = .ok (.aload 6, 2) := by decide +kernel
theorem dL_law_557 : decode cL_law 557 = .ok (.aload 9, 2) := by decide +kernel
theorem dL_law_559 : decode cL_law 559 = .ok (.invokestatic 120, 3) := by decide +kernel
theorem dL_law_562 : decode cL_law 562 = .ok (.iadd, 1) := by decide +kernel
theorem dL_law_563 : decode cL_law 563 = .ok (.istore 17, 2) := by decide +kernel
theorem dL_law_565 : decode cL_law 565 = .ok (.iinc 18 1, 3) := by decide +kernel
theorem dL_law_568 : decode cL_law 568 = .ok (.goto (-29), 3) := by decide +kernel
theorem dL_law_571 : decode cL_law 571 = .ok (.aload 4, 2) := by decide +kernel
theorem dL_law_573 : decode cL_law 573 = .ok (.bipush 26, 2) := by decide +kernel
theorem dL_law_575 : decode cL_law 575 = .ok (.dup2, 1) := by decide +kernel
theorem dL_law_576 : decode cL_law 576 = .ok (.iaload, 1) := by decide +kernel
theorem dL_law_577 : decode cL_law 577 = .ok (.iload 16, 2) := by decide +kernel
theorem dL_law_579 : decode cL_law 579 = .ok (.iadd, 1) := by decide +kernel
theorem dL_law_580 : decode cL_law 580 = .ok (.iastore, 1) := by decide +kernel
theorem dL_law_581 : decode cL_law 581 = .ok (.aload_n 1, 1) := by decide +kernel
theorem dL_law_582 : decode cL_law 582 = .ok (.iload 16, 2) := by decide +kernel
theorem dL_law_584 : decode cL_law 584 = .ok (.invokevirtual 124, 3) := by decide +kernel
theorem dL_law_587 : decode cL_law 587 = .ok (.iload 17, 2) := by decide +kernel
theorem dL_law_589 : decode cL_law 589 = .ok (.if_icmp .eq 5, 3) := by decide +kernel
theorem dL_law_592 : decode cL_law 592 = .ok (.iconst 0, 1) := by decide +kernel
theorem dL_law_593 : decode cL_law 593 = .ok (.ireturn, 1) := by decide +kernel
theorem dL_law_594 : decode cL_law 594 = .ok (.goto 320, 3) := by decide +kernel
theorem dL_law_597 : decode cL_law 597 = .ok (.iconst 1, 1) := by decide +kernel
theorem dL_law_598 : decode cL_law 598 = .ok (.iload 11, 2) := by decide +kernel
theorem dL_law_600 : decode cL_law 600 = .ok (.iconst 5, 1) := by decide +kernel
theorem dL_law_601 : decode cL_law 601 = .ok (.ishr, 1) := by decide +kernel
theorem dL_law_602 : decode cL_law 602 = .ok (.iload 11, 2) := by decide +kernel
theorem dL_law_604 : decode cL_law 604 = .ok (.bipush 20, 2) := by decide +kernel
theorem dL_law_606 : decode cL_law 606 = .ok (.ishr, 1) := by decide +kernel
theorem dL_law_607 : decode cL_law 607 = .ok (.iconst 3, 1) := by decide +kernel
theorem dL_law_608 : decode cL_law 608 = .ok (.invokestatic 8, 3) := by decide +kernel
theorem dL_law_611 : decode cL_law 611 = .ok (.ifCond .ne 8, 3) := by decide +kernel
theorem dL_law_614 : decode cL_law 614 = .ok (.bipush 30, 2) := by decide +kernel
theorem dL_law_616 : decode cL_law 616 = .ok (.goto 4, 3) := by decide +kernel
theorem dL_law_619 : decode cL_law 619 = .ok (.iconst 4, 1) := by decide +kernel
theorem dL_law_620 : decode cL_law 620 = .ok (.invokestatic 8, 3) := by decide +kernel
theorem dL_law_623 : decode cL_law 623 = .ok (.iadd, 1) := by decide +kernel
theorem dL_law_624 : decode cL_law 624 = .ok (.istore 16, 2) := by decide +kernel
theorem dL_law_626 : decode cL_law 626 = .ok (.bipush 64, 2) := by decide +kernel
theorem dL_law_628 : decode cL_law 628 = .ok (.newarray .int, 2) := by decide +kernel
theorem dL_law_630 : decode cL_law 630 = .ok (.astore 17, 2) := by decide +kernel
theorem dL_law_632 : decode cL_law 632 = .ok (.bipush 64, 2) := by decide +kernel
theorem dL_law_634 : decode cL_law 634 = .ok (.newarray .int, 2) := by decide +kernel
theorem dL_law_636 : decode cL_law 636 = .ok (.astore 18, 2) := by decide +kernel
theorem dL_law_638 : decode cL_law 638 = .ok (.bipush 27, 2) := by decide +kernel
theorem dL_law_640 : decode cL_law 640 = .ok (.newarray .int, 2) := by decide +kernel
theorem dL_law_642 : decode cL_law 642 = .ok (.astore 19, 2) := by decide +kernel
theorem dL_law_644 : decode cL_law 644 = .ok (.iconst 0, 1) := by decide +kernel
theorem dL_law_645 : decode cL_law 645 = .ok (.istore 20, 2) := by decide +kernel
theorem dL_law_647 : decode cL_law 647 = .ok (.iload 20, 2) := by decide +kernel
theorem dL_law_649 : decode cL_law 649 = .ok (.bipush 64, 2) := by decide +kernel
theorem dL_law_651 : decode cL_law 651 = .ok (.if_icmp .ge 29, 3) := by decide +kernel
theorem dL_law_654 : decode cL_law 654 = .ok (.aload 17, 2) := by decide +kernel
theorem dL_law_656 : decode cL_law 656 = .ok (.iload 20, 2) := by decide +kernel
theorem dL_law_658 : decode cL_law 658 = .ok (.aload 7, 2) := by decide +kernel
theorem dL_law_660 : decode cL_law 660 = .ok (.iload 20, 2) := by decide +kernel
theorem dL_law_662 : decode cL_law 662 = .ok (.iaload, 1) := by decide +kernel
theorem dL_law_663 : decode cL_law 663 = .ok (.iastore, 1) := by decide +kernel
theorem dL_law_664 : decode cL_law 664 = .ok (.aload 18, 2) := by decide +kernel
theorem dL_law_666 : decode cL_law 666 = .ok (.iload 20, 2) := by decide +kernel
theorem dL_law_668 : decode cL_law 668 = .ok (.aload 6, 2) := by decide +kernel
theorem dL_law_670 : decode cL_law 670 = .ok (.iload 20, 2) := by decide +kernel
theorem dL_law_672 : decode cL_law 672 = .ok (.iaload, 1) := by decide +kernel
theorem dL_law_673 : decode cL_law 673 = .ok (.iastore, 1) := by decide +kernel
theorem dL_law_674 : decode cL_law 674 = .ok (.iinc 20 1, 3) := by decide +kernel
theorem dL_law_677 : decode cL_law 677 = .ok (.goto (-30), 3) := by decide +kernel
theorem dL_law_680 : decode cL_law 680 = .ok (.iconst 0, 1) := by decide +kernel
theorem dL_law_681 : decode cL_law 681 = .ok (.istore 20, 2) := by decide +kernel
theorem dL_law_683 : decode cL_law 683 = .ok (.iload 20, 2) := by decide +kernel
theorem dL_law_685 : decode cL_law 685 = .ok (.bipush 27, 2) := by decide +kernel
theorem dL_law_687 : decode cL_law 687 = .ok (.if_icmp .ge 19, 3) := by decide +kernel
theorem dL_law_690 : decode cL_law 690 = .ok (.aload 19, 2) := by decide +kernel
theorem dL_law_692 : decode cL_law 692 = .ok (.iload 20, 2) := by decide +kernel
theorem dL_law_694 : decode cL_law 694 = .ok (.aload 4, 2) := by decide +kernel
theorem dL_law_696 : decode cL_law 696 = .ok (.iload 20, 2) := by decide +kernel
theorem dL_law_698 : decode cL_law 698 = .ok (.iaload, 1) := by decide +kernel
theorem dL_law_699 : decode cL_law 699 = .ok (.iastore, 1) := by decide +kernel
theorem dL_law_700 : decode cL_law 700 = .ok (.iinc 20 1, 3) := by decide +kernel
theorem dL_law_703 : decode cL_law 703 = .ok (.goto (-20), 3) := by decide +kernel
theorem dL_law_706 : decode cL_law 706 = .ok (.aload 9, 2) := by decide +kernel
theorem dL_law_708 : decode cL_law 708 = .ok (.iconst 0, 1) := by decide +kernel
theorem dL_law_709 : decode cL_law 709 = .ok (.iload 11, 2) := by decide +kernel
theorem dL_law_711 : decode cL_law 711 = .ok (.iconst 1, 1) := by decide +kernel
theorem dL_law_712 : decode cL_law 712 = .ok (.ishr, 1) := by decide +kernel
theorem dL_law_713 : decode cL_law 713 = .ok (.ldc 127, 2) := by decide +kernel
theorem dL_law_715 : decode cL_law 715 = .ok (.iand, 1) := by decide +kernel
theorem dL_law_716 : decode cL_law 716 = .ok (.i2l, 1) := by decide +kernel
theorem dL_law_717 : decode cL_law 717 = .ok (.lastore, 1) := by decide +kernel
theorem dL_law_718 : decode cL_law 718 = .ok (.aload 9, 2) := by decide +kernel
theorem dL_law_720 : decode cL_law 720 = .ok (.iconst 0, 1) := by decide +kernel
theorem dL_law_721 : decode cL_law 721 = .ok (.laload, 1) := by decide +kernel
theorem dL_law_722 : decode cL_law 722 = .ok (.l2i, 1) := by decide +kernel
theorem dL_law_723 : decode cL_law 723 = .ok (.istore 20, 2) := by decide +kernel
theorem dL_law_725 : decode cL_law 725 = .ok (.iconst 0, 1) := by decide +kernel
theorem dL_law_726 : decode cL_law 726 = .ok (.istore 21, 2) := by decide +kernel
theorem dL_law_728 : decode cL_law 728 = .ok (.iconst 0, 1) := by decide +kernel
theorem dL_law_729 : decode cL_law 729 = .ok (.istore 22, 2) := by decide +kernel
theorem dL_law_731 : decode cL_law 731 = .ok (.iload 22, 2) := by decide +kernel
theorem dL_law_733 : decode cL_law 733 = .ok (.iload 16, 2) := by decide +kernel
theorem dL_law_735 : decode cL_law 735 = .ok (.if_icmp .ge 28, 3) := by decide +kernel
theorem dL_law_738 : decode cL_law 738 = .ok (.iload 21, 2) := by decide +kernel
theorem dL_law_740 : decode cL_law 740 = .ok (.aload 19, 2) := by decide +kernel
theorem dL_law_742 : decode cL_law 742 = .ok (.aload_n 2, 1) := by decide +kernel
theorem dL_law_743 : decode cL_law 743 = .ok (.aload 17, 2) := by decide +kernel
theorem dL_law_745 : decode cL_law 745 = .ok (.aload 5, 2) := by decide +kernel
theorem dL_law_747 : decode cL_law 747 = .ok (.aload 18, 2) := by decide +kernel
theorem dL_law_749 : decode cL_law 749 = .ok (.aload 9, 2) := by decide +kernel
theorem dL_law_751 : decode cL_law 751 = .ok (.invokestatic 120, 3) := by decide +kernel
theorem dL_law_754 : decode cL_law 754 = .ok (.iadd, 1) := by decide +kernel
theorem dL_law_755 : decode cL_law 755 = .ok (.istore 21, 2) := by decide +kernel
theorem dL_law_757 : decode cL_law 757 = .ok (.iinc 22 1, 3) := by decide +kernel
theorem dL_law_760 : decode cL_law 760 = .ok (.goto (-29), 3) := by decide +kernel
theorem dL_law_763 : decode cL_law 763 = .ok (.iconst 0, 1) := by decide +kernel
theorem dL_law_764 : decode cL_law 764 = .ok (.istore 22, 2) := by decide +kernel
theorem dL_law_766 : decode cL_law 766 = .ok (.iconst 0, 1) := by decide +kernel
theorem dL_law_767 : decode cL_law 767 = .ok (.istore 23, 2) := by decide +kernel
theorem dL_law_769 : decode cL_law 769 = .ok (.iconst 0, 1) := by decide +kernel
theorem dL_law_770 : decode cL_law 770 = .ok (.istore 24, 2) := by decide +kernel
theorem dL_law_772 : decode cL_law 772 = .ok (.iload 24, 2) := by decide +kernel
theorem dL_law_774 : decode cL_law 774 = .ok (.aload 4, 2) := by decide +kernel
theorem dL_law_776 : decode cL_law 776 = .ok (.bipush 25, 2) := by decide +kernel
theorem dL_law_778 : decode cL_law 778 = .ok (.iaload, 1) := by decide +kernel
theorem dL_law_779 : decode cL_law 779 = .ok (.if_icmp .ge 33, 3) := by decide +kernel
theorem dL_law_782 : decode cL_law 782 = .ok (.iload 22, 2) := by decide +kernel
theorem dL_law_784 : decode cL_law 784 = .ok (.aload 17, 2) := by decide +kernel
theorem dL_law_786 : decode cL_law 786 = .ok (.bipush 8, 2) := by decide +kernel
theorem dL_law_788 : decode cL_law 788 = .ok (.iload 24, 2) := by decide +kernel
theorem dL_law_790 : decode cL_law 790 = .ok (.imul, 1) := by decide +kernel
theorem dL_law_791 : decode cL_law 791 = .ok (.bipush 7, 2) := by decide +kernel
theorem dL_law_793 : decode cL_law 793 = .ok (.iadd, 1) := by decide +kernel
theorem dL_law_794 : decode cL_law 794 = .ok (.iaload, 1) := by decide +kernel
theorem dL_law_795 : decode cL_law 795 = .ok (.ifCond .ne 7, 3) := by decide +kernel
theorem dL_law_798 : decode cL_law 798 = .ok (.iconst 1, 1) := by decide +kernel
theorem dL_law_799 : decode cL_law 799 = .ok (.goto 4, 3) := by decide +kernel
theorem dL_law_802 : decode cL_law 802 = .ok (.iconst 0, 1) := by decide +kernel
theorem dL_law_803 : decode cL_law 803 = .ok (.iadd, 1) := by decide +kernel
theorem dL_law_804 : decode cL_law 804 = .ok (.istore 22, 2) := by decide +kernel
theorem dL_law_806 : decode cL_law 806 = .ok (.iinc 24 1, 3) := by decide +kernel
theorem dL_law_809 : decode cL_law 809 = .ok (.goto (-37), 3) := by decide +kernel
theorem dL_law_812 : decode cL_law 812 = .ok (.iconst 0, 1) := by decide +kernel
theorem dL_law_813 : decode cL_law 813 = .ok (.istore 24, 2) := by decide +kernel
theorem dL_law_815 : decode cL_law 815 = .ok (.iload 24, 2) := by decide +kernel
theorem dL_law_817 : decode cL_law 817 = .ok (.aload 4, 2) := by decide +kernel
theorem dL_law_819 : decode cL_law 819 = .ok (.iconst 0, 1) := by decide +kernel
theorem dL_law_820 : decode cL_law 820 = .ok (.iaload, 1) := by decide +kernel
theorem dL_law_821 : decode cL_law 821 = .ok (.if_icmp .ge 31, 3) := by decide +kernel
theorem dL_law_824 : decode cL_law 824 = .ok (.iload 23, 2) := by decide +kernel
theorem dL_law_826 : decode cL_law 826 = .ok (.aload 19, 2) := by decide +kernel
theorem dL_law_828 : decode cL_law 828 = .ok (.bipush 17, 2) := by decide +kernel
theorem dL_law_830 : decode cL_law 830 = .ok (.iload 24, 2) := by decide +kernel
theorem dL_law_832 : decode cL_law 832 = .ok (.iadd, 1) := by decide +kernel
theorem dL_law_833 : decode cL_law 833 = .ok (.iaload, 1) := by decide +kernel
theorem dL_law_834 : decode cL_law 834 = .ok (.aload 4, 2) := by decide +kernel
theorem dL_law_836 : decode cL_law 836 = .ok (.bipush 17, 2) := by decide +kernel
theorem dL_law_838 : decode cL_law 838 = .ok (.iload 24, 2) := by decide +kernel
theorem dL_law_840 : decode cL_law 840 = .ok (.iadd, 1) := by decide +kernel
theorem dL_law_841 : decode cL_law 841 = .ok (.iaload, 1) := by decide +kernel
theorem dL_law_842 : decode cL_law 842 = .ok (.isub, 1) := by decide +kernel
theorem dL_law_843 : decode cL_law 843 = .ok (.iadd, 1) := by decide +kernel
theorem dL_law_844 : decode cL_law 844 = .ok (.istore 23, 2) := by decide +kernel
theorem dL_law_846 : decode cL_law 846 = .ok (.iinc 24 1, 3) := by decide +kernel
theorem dL_law_849 : decode cL_law 849 = .ok (.goto (-34), 3) := by decide +kernel
theorem dL_law_852 : decode cL_law 852 = .ok (.aload_n 1, 1) := by decide +kernel
theorem dL_law_853 : decode cL_law 853 = .ok (.iload 16, 2) := by decide +kernel
theorem dL_law_855 : decode cL_law 855 = .ok (.iload 20, 2) := by decide +kernel
theorem dL_law_857 : decode cL_law 857 = .ok (.iconst 0, 1) := by decide +kernel
theorem dL_law_858 : decode cL_law 858 = .ok (.invokevirtual 128, 3) := by decide +kernel
theorem dL_law_861 : decode cL_law 861 = .ok (.iload 21, 2) := by decide +kernel
theorem dL_law_863 : decode cL_law 863 = .ok (.if_icmp .ne 49, 3) := by decide +kernel
theorem dL_law_866 : decode cL_law 866 = .ok (.aload_n 1, 1) := by decide +kernel
theorem dL_law_867 : decode cL_law 867 = .ok (.iload 16, 2) := by decide +kernel
theorem dL_law_869 : decode cL_law 869 = .ok (.iload 20, 2) := by decide +kernel
theorem dL_law_871 : decode cL_law 871 = .ok (.iconst 1, 1) := by decide +kernel
theorem dL_law_872 : decode cL_law 872 = .ok (.invokevirtual 128, 3) := by decide +kernel
theorem dL_law_875 : decode cL_law 875 = .ok (.iload 22, 2) := by decide +kernel
theorem dL_law_877 : decode cL_law 877 = .ok (.if_icmp .ne 35, 3) := by decide +kernel
theorem dL_law_880 : decode cL_law 880 = .ok (.aload_n 1, 1) := by decide +kernel
theorem dL_law_881 : decode cL_law 881 = .ok (.iload 16, 2) := by decide +kernel
theorem dL_law_883 : decode cL_law 883 = .ok (.iload 20, 2) := by decide +kernel
theorem dL_law_885 : decode cL_law 885 = .ok (.iconst 2, 1) := by decide +kernel
theorem dL_law_886 : decode cL_law 886 = .ok (.invokevirtual 128, 3) := by decide +kernel
theorem dL_law_889 : decode cL_law 889 = .ok (.iload 23, 2) := by decide +kernel
theorem dL_law_891 : decode cL_law 891 = .ok (.if_icmp .ne 21, 3) := by decide +kernel
theorem dL_law_894 : decode cL_law 894 = .ok (.aload_n 1, 1) := by decide +kernel
theorem dL_law_895 : decode cL_law 895 = .ok (.iload 16, 2) := by decide +kernel
theorem dL_law_897 : decode cL_law 897 = .ok (.iload 20, 2) := by decide +kernel
theorem dL_law_899 : decode cL_law 899 = .ok (.iconst 3, 1) := by decide +kernel
theorem dL_law_900 : decode cL_law 900 = .ok (.invokevirtual 128, 3) := by decide +kernel
theorem dL_law_903 : decode cL_law 903 = .ok (.i2l, 1) := by decide +kernel
theorem dL_law_904 : decode cL_law 904 = .ok (.aload 9, 2) := by decide +kernel
theorem dL_law_906 : decode cL_law 906 = .ok (.iconst 0, 1) := by decide +kernel
theorem dL_law_907 : decode cL_law 907 = .ok (.laload, 1) := by decide +kernel
theorem dL_law_908 : decode cL_law 908 = .ok (.lcmp, 1) := by decide +kernel
theorem dL_law_909 : decode cL_law 909 = .ok (.ifCond .eq 5, 3) := by decide +kernel
theorem dL_law_912 : decode cL_law 912 = .ok (.iconst 0, 1) := by decide +kernel
theorem dL_law_913 : decode cL_law 913 = .ok (.ireturn, 1) := by decide +kernel
theorem dL_law_914 : decode cL_law 914 = .ok (.aload_n 1, 1) := by decide +kernel
theorem dL_law_915 : decode cL_law 915 = .ok (.aload 4, 2) := by decide +kernel
theorem dL_law_917 : decode cL_law 917 = .ok (.aload 7, 2) := by decide +kernel
theorem dL_law_919 : decode cL_law 919 = .ok (.aload 6, 2) := by decide +kernel
theorem dL_law_921 : decode cL_law 921 = .ok (.invokestatic 107, 3) := by decide +kernel
theorem dL_law_924 : decode cL_law 924 = .ok (.ifCond .ne 5, 3) := by decide +kernel
theorem dL_law_927 : decode cL_law 927 = .ok (.iconst 0, 1) := by decide +kernel
theorem dL_law_928 : decode cL_law 928 = .ok (.ireturn, 1) := by decide +kernel
theorem dL_law_929 : decode cL_law 929 = .ok (.iinc 10 1, 3) := by decide +kernel
theorem dL_law_932 : decode cL_law 932 = .ok (.goto (-677), 3) := by decide +kernel
theorem dL_law_935 : decode cL_law 935 = .ok (.aload_n 1, 1) := by decide +kernel
theorem dL_law_936 : decode cL_law 936 = .ok (.iconst 4, 1) := by decide +kernel
theorem dL_law_937 : decode cL_law 937 = .ok (.invokevirtual 97, 3) := by decide +kernel
theorem dL_law_940 : decode cL_law 940 = .ok (.bipush (-102), 2) := by decide +kernel
theorem dL_law_942 : decode cL_law 942 = .ok (.if_icmp .ne 292, 3) := by decide +kernel
theorem dL_law_945 : decode cL_law 945 = .ok (.aload_n 1, 1) := by decide +kernel
theorem dL_law_946 : decode cL_law 946 = .ok (.iconst 4, 1) := by decide +kernel
theorem dL_law_947 : decode cL_law 947 = .ok (.invokevirtual 24, 3) := by decide +kernel
theorem dL_law_950 : decode cL_law 950 = .ok (.bipush (-102), 2) := by decide +kernel
theorem dL_law_952 : decode cL_law 952 = .ok (.if_icmp .ne 282, 3) := by decide +kernel
theorem dL_law_955 : decode cL_law 955 = .ok (.aload_n 1, 1) := by decide +kernel
theorem dL_law_956 : decode cL_law 956 = .ok (.iconst 0, 1) := by decide +kernel
theorem dL_law_957 : decode cL_law 957 = .ok (.iconst 0, 1) := by decide +kernel
theorem dL_law_958 : decode cL_law 958 = .ok (.iconst 1, 1) := by decide +kernel
theorem dL_law_959 : decode cL_law 959 = .ok (.invokevirtual 28, 3) := by decide +kernel
theorem dL_law_962 : decode cL_law 962 = .ok (.bipush (-101), 2) := by decide +kernel
theorem dL_law_964 : decode cL_law 964 = .ok (.if_icmp .ne 270, 3) := by decide +kernel
theorem dL_law_967 : decode cL_law 967 = .ok (.aload_n 1, 1) := by decide +kernel
theorem dL_law_968 : decode cL_law 968 = .ok (.iconst 0, 1) := by decide +kernel
theorem dL_law_969 : decode cL_law 969 = .ok (.aload 4, 2) := by decide +kernel
theorem dL_law_971 : decode cL_law 971 = .ok (.iconst 0, 1) := by decide +kernel
theorem dL_law_972 : decode cL_law 972 = .ok (.iaload, 1) := by decide +kernel
theorem dL_law_973 : decode cL_law 973 = .ok (.iconst 1, 1) := by decide +kernel
theorem dL_law_974 : decode cL_law 974 = .ok (.invokevirtual 28, 3) := by decide +kernel
theorem dL_law_977 : decode cL_law 977 = .ok (.bipush (-101), 2) := by decide +kernel
theorem dL_law_979 : decode cL_law 979 = .ok (.if_icmp .ne 255, 3) := by decide +kernel
theorem dL_law_982 : decode cL_law 982 = .ok (.aload_n 1, 1) := by decide +kernel
theorem dL_law_983 : decode cL_law 983 = .ok (.iconst 1, 1) := by decide +kernel
theorem dL_law_984 : decode cL_law 984 = .ok (.iconst 1, 1) := by decide +kernel
theorem dL_law_985 : decode cL_law 985 = .ok (.iconst 0, 1) := by decide +kernel
theorem dL_law_986 : decode cL_law 986 = .ok (.invokevirtual 32, 3) := by decide +kernel
theorem dL_law_989 : decode cL_law 989 = .ok (.bipush (-101), 2) := by decide +kernel
theorem dL_law_991 : decode cL_law 991 = .ok (.if_icmp .ne 243, 3) := by decide +kernel
theorem dL_law_994 : decode cL_law 994 = .ok (.aload_n 1, 1) := by decide +kernel
theorem dL_law_995 : decode cL_law 995 = .ok (.iconst 0, 1) := by decide +kernel
theorem dL_law_996 : decode cL_law 996 = .ok (.iconst 1, 1) := by decide +kernel
theorem dL_law_997 : decode cL_law 997 = .ok (.bipush 10, 2) := by decide +kernel
theorem dL_law_999 : decode cL_law 999 = .ok (.invokevirtual 32, 3) := by decide +kernel
theorem dL_law_1002 : decode cL_law 1002 = .ok (.bipush (-102), 2) := by decide +kernel
theorem dL_law_1004 : decode cL_law 1004 = .ok (.if_icmp .ne 230, 3) := by decide +kernel
theorem dL_law_1007 : decode cL_law 1007 = .ok (.aload_n 1, 1) := by decide +kernel
theorem dL_law_1008 : decode cL_law 1008 = .ok (.aload 4, 2) := by decide +kernel
theorem dL_law_1010 : decode cL_law 1010 = .ok (.iconst 0, 1) := by decide +kernel
theorem dL_law_1011 : decode cL_law 1011 = .ok (.iaload, 1) := by decide +kernel
theorem dL_law_1012 : decode cL_law 1012 = .ok (.iconst 0, 1) := by decide +kernel
theorem dL_law_1013 : decode cL_law 1013 = .ok (.invokevirtual 72, 3) := by decide +kernel
theorem dL_law_1016 : decode cL_law 1016 = .ok (.bipush (-101), 2) := by decide +kernel
theorem dL_law_1018 : decode cL_law 1018 = .ok (.if_icmp .ne 216, 3) := by decide +kernel
theorem dL_law_1021 : decode cL_law 1021 = .ok (.aload_n 1, 1) := by decide +kernel
theorem dL_law_1022 : decode cL_law 1022 = .ok (.iconst 0, 1) := by decide +kernel
theorem dL_law_1023 : decode cL_law 1023 = .ok (.iconst 4, 1) := by decide +kernel
theorem dL_law_1024 : decode cL_law 1024 = .ok (.invokevirtual 72, 3) := by decide +kernel
theorem dL_law_1027 : decode cL_law 1027 = .ok (.bipush (-102), 2) := by decide +kernel
theorem dL_law_1029 : decode cL_law 1029 = .ok (.if_icmp .ne 205, 3) := by decide +kernel
theorem dL_law_1032 : decode cL_law 1032 = .ok (.aload_n 1, 1) := by decide +kernel
theorem dL_law_1033 : decode cL_law 1033 = .ok (.iconst 0, 1) := by decide +kernel
theorem dL_law_1034 : decode cL_law 1034 = .ok (.iconst 0, 1) := by decide +kernel
theorem dL_law_1035 : decode cL_law 1035 = .ok (.invokevirtual 66, 3) := by decide +kernel
theorem dL_law_1038 : decode cL_law 1038 = .ok (.bipush (-101), 2) := by decide +kernel
theorem dL_law_1040 : decode cL_law 1040 = .ok (.if_icmp .ne 194, 3) := by decide +kernel
theorem dL_law_1043 : decode cL_law 1043 = .ok (.aload_n 1, 1) := by decide +kernel
theorem dL_law_1044 : decode cL_law 1044 = .ok (.aload 4, 2) := by decide +kernel
theorem dL_law_1046 : decode cL_law 1046 = .ok (.iconst 0, 1) := by decide +kernel
theorem dL_law_1047 : decode cL_law 1047 = .ok (.iaload, 1) := by decide +kernel
theorem dL_law_1048 : decode cL_law 1048 = .ok (.invokevirtual 69, 3) := by decide +kernel
theorem dL_law_1051 : decode cL_law 1051 = .ok (.ldc 131, 2) := by decide +kernel
theorem dL_law_1053 : decode cL_law 1053 = .ok (.if_icmp .ne 181, 3) := by decide +kernel
theorem dL_law_1056 : decode cL_law 1056 = .ok (.aload_n 1, 1) := by decide +kernel
theorem dL_law_1057 : decode cL_law 1057 = .ok (.iconst 5, 1) := by decide +kernel
theorem dL_law_1058 : decode cL_law 1058 = .ok (.iconst 0, 1) := by decide +kernel
theorem dL_law_1059 : decode cL_law 1059 = .ok (.invokevirtual 36, 3) := by decide +kernel
theorem dL_law_1062 : decode cL_law 1062 = .ok (.bipush (-102), 2) := by decide +kernel
theorem dL_law_1064 : decode cL_law 1064 = .ok (.if_icmp .ne 170, 3) := by decide +kernel
theorem dL_law_1067 : decode cL_law 1067 = .ok (.aload_n 1, 1) := by decide +kernel
theorem dL_law_1068 : decode cL_law 1068 = .ok (.iconst 0, 1) := by decide +kernel
theorem dL_law_1069 : decode cL_law 1069 = .ok (.aload 4, 2) := by decide +kernel
theorem dL_law_1071 : decode cL_law 1071 = .ok (.iconst 0, 1) := by decide +kernel
theorem dL_law_1072 : decode cL_law 1072 = .ok (.iaload, 1) := by decide +kernel
theorem dL_law_1073 : decode cL_law 1073 = .ok (.invokevirtual 36, 3) := by decide +kernel
theorem dL_law_1076 : decode cL_law 1076 = .ok (.bipush (-101), 2) := by decide +kernel
theorem dL_law_1078 : decode cL_law 1078 = .ok (.if_icmp .ne 156, 3) := by decide +kernel
theorem dL_law_1081 : decode cL_law 1081 = .ok (.aload_n 1, 1) := by decide +kernel
theorem dL_law_1082 : decode cL_law 1082 = .ok (.aload 4, 2) := by decide +kernel
theorem dL_law_1084 : decode cL_law 1084 = .ok (.bipush 25, 2) := by decide +kernel
theorem dL_law_1086 : decode cL_law 1086 = .ok (.iaload, 1) := by decide +kernel
theorem dL_law_1087 : decode cL_law 1087 = .ok (.iconst 0, 1) := by decide +kernel
theorem dL_law_1088 : decode cL_law 1088 = .ok (.invokevirtual 75, 3) := by decide +kernel
theorem dL_law_1091 : decode cL_law 1091 = .ok (.bipush (-101), 2) := by decide +kernel
theorem dL_law_1093 : decode cL_law 1093 = .ok (.if_icmp .ne 141, 3) := by decide +kernel
theorem dL_law_1096 : decode cL_law 1096 = .ok (.aload_n 1, 1) := by decide +kernel
theorem dL_law_1097 : decode cL_law 1097 = .ok (.iconst 0, 1) := by decide +kernel
theorem dL_law_1098 : decode cL_law 1098 = .ok (.bipush 9, 2) := by decide +kernel
theorem dL_law_1100 : decode cL_law 1100 = .ok (.invokevirtual 75, 3) := by decide +kernel
theorem dL_law_1103 : decode cL_law 1103 = .ok (.bipush (-102), 2) := by decide +kernel
theorem dL_law_1105 : decode cL_law 1105 = .ok (.if_icmp .ne 129, 3) := by decide +kernel
theorem dL_law_1108 : decode cL_law 1108 = .ok (.aload_n 1, 1) := by decide +kernel
theorem dL_law_1109 : decode cL_law 1109 = .ok (.aload 4, 2) := by decide +kernel
theorem dL_law_1111 : decode cL_law 1111 = .ok (.bipush 25, 2) := by decide +kernel
theorem dL_law_1113 : decode cL_law 1113 = .ok (.iaload, 1) := by decide +kernel
theorem dL_law_1114 : decode cL_law 1114 = .ok (.iconst 0, 1) := by decide +kernel
theorem dL_law_1115 : decode cL_law 1115 = .ok (.invokevirtual 111, 3) := by decide +kernel
theorem dL_law_1118 : decode cL_law 1118 = .ok (.bipush (-101), 2) := by decide +kernel
theorem dL_law_1120 : decode cL_law 1120 = .ok (.if_icmp .ne 114, 3) := by decide +kernel
theorem dL_law_1123 : decode cL_law 1123 = .ok (.aload_n 1, 1) := by decide +kernel
theorem dL_law_1124 : decode cL_law 1124 = .ok (.iconst 0, 1) := by decide +kernel
theorem dL_law_1125 : decode cL_law 1125 = .ok (.iconst 5, 1) := by decide +kernel
theorem dL_law_1126 : decode cL_law 1126 = .ok (.invokevirtual 111, 3) := by decide +kernel
theorem dL_law_1129 : decode cL_law 1129 = .ok (.bipush (-102), 2) := by decide +kernel
theorem dL_law_1131 : decode cL_law 1131 = .ok (.if_icmp .ne 103, 3) := by decide +kernel
theorem dL_law_1134 : decode cL_law 1134 = .ok (.aload_n 1, 1) := by decide +kernel
theorem dL_law_1135 : decode cL_law 1135 = .ok (.iconst (-1), 1) := by decide +kernel
theorem dL_law_1136 : decode cL_law 1136 = .ok (.invokevirtual 114, 3) := by decide +kernel
theorem dL_law_1139 : decode cL_law 1139 = .ok (.bipush (-101), 2) := by decide +kernel
theorem dL_law_1141 : decode cL_law 1141 = .ok (.if_icmp .ne 93, 3) := by decide +kernel
theorem dL_law_1144 : decode cL_law 1144 = .ok (.aload_n 1, 1) := by decide +kernel
theorem dL_law_1145 : decode cL_law 1145 = .ok (.iconst 0, 1) := by decide +kernel
theorem dL_law_1146 : decode cL_law 1146 = .ok (.aload 4, 2) := by decide +kernel
theorem dL_law_1148 : decode cL_law 1148 = .ok (.iconst 0, 1) := by decide +kernel
theorem dL_law_1149 : decode cL_law 1149 = .ok (.iaload, 1) := by decide +kernel
theorem dL_law_1150 : decode cL_law 1150 = .ok (.invokevirtual 116, 3) := by decide +kernel
theorem dL_law_1153 : decode cL_law 1153 = .ok (.bipush (-101), 2) := by decide +kernel
theorem dL_law_1155 : decode cL_law 1155 = .ok (.if_icmp .ne 79, 3) := by decide +kernel
theorem dL_law_1158 : decode cL_law 1158 = .ok (.aload_n 1, 1) := by decide +kernel
theorem dL_law_1159 : decode cL_law 1159 = .ok (.aload 4, 2) := by decide +kernel
theorem dL_law_1161 : decode cL_law 1161 = .ok (.bipush 25, 2) := by decide +kernel
theorem dL_law_1163 : decode cL_law 1163 = .ok (.iaload, 1) := by decide +kernel
theorem dL_law_1164 : decode cL_law 1164 = .ok (.iconst 0, 1) := by decide +kernel
theorem dL_law_1165 : decode cL_law 1165 = .ok (.invokevirtual 116, 3) := by decide +kernel
theorem dL_law_1168 : decode cL_law 1168 = .ok (.bipush (-101), 2) := by decide +kernel
theorem dL_law_1170 : decode cL_law 1170 = .ok (.if_icmp .ne 64, 3) := by decide +kernel
theorem dL_law_1173 : decode cL_law 1173 = .ok (.aload_n 1, 1) := by decide +kernel
theorem dL_law_1174 : decode cL_law 1174 = .ok (.iconst 0, 1) := by decide +kernel
theorem dL_law_1175 : decode cL_law 1175 = .ok (.invokevirtual 124, 3) := by decide +kernel
theorem dL_law_1178 : decode cL_law 1178 = .ok (.bipush (-102), 2) := by decide +kernel
theorem dL_law_1180 : decode cL_law 1180 = .ok (.if_icmp .ne 54, 3) := by decide +kernel
theorem dL_law_1183 : decode cL_law 1183 = .ok (.aload_n 1, 1) := by decide +kernel
theorem dL_law_1184 : decode cL_law 1184 = .ok (.bipush 31, 2) := by decide +kernel
theorem dL_law_1186 : decode cL_law 1186 = .ok (.invokevirtual 124, 3) := by decide +kernel
theorem dL_law_1189 : decode cL_law 1189 = .ok (.bipush (-102), 2) := by decide +kernel
theorem dL_law_1191 : decode cL_law 1191 = .ok (.if_icmp .ne 43, 3) := by decide +kernel
theorem dL_law_1194 : decode cL_law 1194 = .ok (.aload_n 1, 1) := by decide +kernel
theorem dL_law_1195 : decode cL_law 1195 = .ok (.iconst 0, 1) := by decide +kernel
theorem dL_law_1196 : decode cL_law 1196 = .ok (.iconst 0, 1) := by decide +kernel
theorem dL_law_1197 : decode cL_law 1197 = .ok (.iconst 0, 1) := by decide +kernel
theorem dL_law_1198 : decode cL_law 1198 = .ok (.invokevirtual 128, 3) := by decide +kernel
theorem dL_law_1201 : decode cL_law 1201 = .ok (.bipush (-102), 2) := by decide +kernel
theorem dL_law_1203 : decode cL_law 1203 = .ok (.if_icmp .ne 31, 3) := by decide +kernel
theorem dL_law_1206 : decode cL_law 1206 = .ok (.aload_n 1, 1) := by decide +kernel
theorem dL_law_1207 : decode cL_law 1207 = .ok (.iconst 1, 1) := by decide +kernel
theorem dL_law_1208 : decode cL_law 1208 = .ok (.iconst (-1), 1) := by decide +kernel
theorem dL_law_1209 : decode cL_law 1209 = .ok (.iconst 0, 1) := by decide +kernel
theorem dL_law_1210 : decode cL_law 1210 = .ok (.invokevirtual 128, 3) := by decide +kernel
theorem dL_law_1213 : decode cL_law 1213 = .ok (.bipush (-102), 2) := by decide +kernel
theorem dL_law_1215 : decode cL_law 1215 = .ok (.if_icmp .ne 19, 3) := by decide +kernel
theorem dL_law_1218 : decode cL_law 1218 = .ok (.aload_n 1, 1) := by decide +kernel
theorem dL_law_1219 : decode cL_law 1219 = .ok (.iconst 1, 1) := by decide +kernel
theorem dL_law_1220 : decode cL_law 1220 = .ok (.iconst 0, 1) := by decide +kernel
theorem dL_law_1221 : decode cL_law 1221 = .ok (.iconst 4, 1) := by decide +kernel
theorem dL_law_1222 : decode cL_law 1222 = .ok (.invokevirtual 128, 3) := by decide +kernel
theorem dL_law_1225 : decode cL_law 1225 = .ok (.bipush (-102), 2) := by decide +kernel
theorem dL_law_1227 : decode cL_law 1227 = .ok (.if_icmp .ne 7, 3) := by decide +kernel
theorem dL_law_1230 : decode cL_law 1230 = .ok (.iconst 1, 1) := by decide +kernel
theorem dL_law_1231 : decode cL_law 1231 = .ok (.goto 4, 3) := by decide +kernel
theorem dL_law_1234 : decode cL_law 1234 = .ok (.iconst 0, 1) := by decide +kernel
theorem dL_law_1235 : decode cL_law 1235 = .ok (.ireturn, 1) := by decide +kernel
end
section
section AM
variable {K : Nat → Prop} {B : JX} {e : Nat} {M : MI} {pc : Nat} {loc : List (Nat × Value)} {stk : List Value} {σ : St}
def ML (own : String) (ix : Nat) (y : MethodName) (b : ByteArray) : Prop := Cond.methodLink own ix y ∈ aT ∧ Cond.static y ∈ aT ∧ Cond.initialized "java/lang/Math" ∈ aT ∧ Cond.code y b 2 (some .int) ∈ aT
theorem a_mmax {ix : Nat} {x y : Int32} (hf : ML M.1.cls ix Lib.Math.max.name Lib.Math.max.code) (hw : (stk.map fun v => v.category).sum ≤ 8) (hd : decode M.2.1 pc = .ok (.invokestatic ix, 3)) (kk : J K B (e + 1) M (pc + 3) loc (.int (if x < y then y else x) :: stk) σ) : J K B (e + 1) M pc loc (.int y :: .int x :: stk) σ := by
  intro l D C ad nN S p ev R s m args below meth c A0 H locs ls X hA Y hl
  obtain ⟨hx, hbb, hml, hr, hlk, hown, hts, hK, hf1, hf2, hKn, hB, hSc, hTh⟩ := id X
  obtain ⟨w1, w2, w3, w4⟩ := hf
  refine va_mmax hx hbb (hml.trans hl.1.symm) hown (hts _ w1) (hts _ w2) (hts _ w3) (hts _ w4) (by omega) (by rw [cat_map]; omega) hB.1 hB.2 hd ?_
  exact kk l D C ad nN S p ev R s m args below meth c A0 H locs ls X hA Y hl
theorem a_mmin {ix : Nat} {x y : Int32} (hf : ML M.1.cls ix Lib.Math.min.name Lib.Math.min.code) (hw : (stk.map fun v => v.category).sum ≤ 8) (hd : decode M.2.1 pc = .ok (.invokestatic ix, 3)) (kk : J K B (e + 1) M (pc + 3) loc (.int (if y < x then y else x) :: stk) σ) : J K B (e + 1) M pc loc (.int y :: .int x :: stk) σ := by
  intro l D C ad nN S p ev R s m args below meth c A0 H locs ls X hA Y hl
  obtain ⟨hx, hbb, hml, hr, hlk, hown, hts, hK, hf1, hf2, hKn, hB, hSc, hTh⟩ := id X
  obtain ⟨w1, w2, w3, w4⟩ := hf
  refine va_mmin hx hbb (hml.trans hl.1.symm) hown (hts _ w1) (hts _ w2) (hts _ w3) (hts _ w4) (by omega) (by rw [cat_map]; omega) hB.1 hB.2 hd ?_
  exact kk l D C ad nN S p ev R s m args below meth c A0 H locs ls X hA Y hl
end AM
theorem ml_X3_36 : ML RX3 36 Lib.Math.max.name Lib.Math.max.code := ⟨aT_in 362 (by decide +kernel) rfl, aT_in 363 (by decide +kernel) rfl, aT_in 16 (by decide +kernel) rfl, aT_in 364 (by decide +kernel) rfl⟩
theorem ml_X3_42 : ML RX3 42 Lib.Math.min.name Lib.Math.min.code := ⟨aT_in 365 (by decide +kernel) rfl, aT_in 366 (by decide +kernel) rfl, aT_in 16 (by decide +kernel) rfl, aT_in 367 (by decide +kernel) rfl⟩
end
