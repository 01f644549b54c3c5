def RX0 : String := "Lorewick$1"
def TX0 : u_T := fun k => match k with
  | _ => ("", "", "", false)
def tyX0 : Nat → FieldType := fun k => match k with
  | _ => .int
abbrev wsX00 : List Cond := u_ws RX0 TX0 0
theorem nmX0 : ∀ a, a < 0 → ∀ b, b < 0 → a ≠ b → (TX0 a).2.1 ≠ (TX0 b).2.1 := by decide +kernel
theorem tyX0_ok : ∀ k, k < 0 → parseFieldDescriptor (TX0 k).2.2.1 = some (tyX0 k) := by decide +kernel
def RX1 : String := "Lorewick$Command"
def TX1 : u_T := fun k => match k with
  | 0 => ("Lorewick$Command", "verb", "LLorewick$Verb;", true)
  | 1 => ("Lorewick$Command", "first", "I", true)
  | _ => ("Lorewick$Command", "second", "I", true)
def tyX1 : Nat → FieldType := fun k => match k with
  | 0 => .object "Lorewick$Verb"
  | 1 => .int
  | _ => .int
abbrev wsX10 : List Cond := u_ws RX1 TX1 3
theorem nmX1 : ∀ a, a < 3 → ∀ b, b < 3 → a ≠ b → (TX1 a).2.1 ≠ (TX1 b).2.1 := by decide +kernel
theorem tyX1_ok : ∀ k, k < 3 → parseFieldDescriptor (TX1 k).2.2.1 = some (tyX1 k) := by decide +kernel
abbrev cX1_init : ByteArray := prog_3_method_1_code
def yX1_init : MethodName := ⟨RX1, "<init>", "(LLorewick$Verb;II)V"⟩
abbrev cX1_isSame : ByteArray := prog_3_method_2_code
def yX1_isSame : MethodName := ⟨RX1, "isSame", "(LLorewick$Command;)Z"⟩
def RX2 : String := "Lorewick$Node"
def TX2 : u_T := fun k => match k with
  | 0 => ("Lorewick$Node", "number", "I", true)
  | 1 => ("Lorewick$Node", "parent", "LLorewick$Node;", true)
  | 2 => ("Lorewick$Node", "command", "LLorewick$Command;", true)
  | 3 => ("Lorewick$Node", "state", "LLorewick$State;", true)
  | 4 => ("Lorewick$Node", "shown", "J", true)
  | _ => ("Lorewick$Node", "label", "J", false)
def tyX2 : Nat → FieldType := fun k => match k with
  | 0 => .int
  | 1 => .object "Lorewick$Node"
  | 2 => .object "Lorewick$Command"
  | 3 => .object "Lorewick$State"
  | 4 => .long
  | _ => .long
abbrev wsX20 : List Cond := u_ws RX2 TX2 6
theorem nmX2 : ∀ a, a < 6 → ∀ b, b < 6 → a ≠ b → (TX2 a).2.1 ≠ (TX2 b).2.1 := by decide +kernel
theorem tyX2_ok : ∀ k, k < 6 → parseFieldDescriptor (TX2 k).2.2.1 = some (tyX2 k) := by decide +kernel
abbrev cX2_init : ByteArray := prog_4_method_1_code
def yX2_init : MethodName := ⟨RX2, "<init>", "(ILLorewick$Node;LLorewick$Command;LLorewick$State;J)V"⟩
abbrev cX2_isOnPathOf : ByteArray := prog_4_method_2_code
def yX2_isOnPathOf : MethodName := ⟨RX2, "isOnPathOf", "(LLorewick$Node;)Z"⟩
abbrev cX2_pathLength : ByteArray := prog_4_method_3_code
def yX2_pathLength : MethodName := ⟨RX2, "pathLength", "()I"⟩
abbrev cX2_wordsOfPath : ByteArray := prog_4_method_4_code
def yX2_wordsOfPath : MethodName := ⟨RX2, "wordsOfPath", "()J"⟩
abbrev cX2_firstToShow : ByteArray := prog_4_method_5_code
def yX2_firstToShow : MethodName := ⟨RX2, "firstToShow", "(I)I"⟩
abbrev cX2_lastInCommon : ByteArray := prog_4_method_6_code
def yX2_lastInCommon : MethodName := ⟨RX2, "lastInCommon", "(LLorewick$Node;)I"⟩
def RX3 : String := "Lorewick$Rules"
def TX3 : u_T := fun k => match k with
  | 0 => ("Lorewick$Rules", "world", "LLorewick$World;", true)
  | _ => ("Lorewick$Rules", "distances", "[I", true)
def tyX3 : Nat → FieldType := fun k => match k with
  | 0 => .object "Lorewick$World"
  | _ => .array .int
abbrev wsX30 : List Cond := u_ws RX3 TX3 2
theorem nmX3 : ∀ a, a < 2 → ∀ b, b < 2 → a ≠ b → (TX3 a).2.1 ≠ (TX3 b).2.1 := by decide +kernel
theorem tyX3_ok : ∀ k, k < 2 → parseFieldDescriptor (TX3 k).2.2.1 = some (tyX3 k) := by decide +kernel
abbrev cX3_init : ByteArray := prog_5_method_1_code
def yX3_init : MethodName := ⟨RX3, "<init>", "(LLorewick$World;)V"⟩
abbrev cX3_setUp : ByteArray := prog_5_method_2_code
def yX3_setUp : MethodName := ⟨RX3, "setUp", "(LLorewick$State;I)V"⟩
abbrev cX3_openBoxOf : ByteArray := prog_5_method_3_code
def yX3_openBoxOf : MethodName := ⟨RX3, "openBoxOf", "(LLorewick$State;I)I"⟩
abbrev cX3_isHeld : ByteArray := prog_5_method_4_code
def yX3_isHeld : MethodName := ⟨RX3, "isHeld", "(LLorewick$State;I)Z"⟩
abbrev cX3_isAtHand : ByteArray := prog_5_method_5_code
def yX3_isAtHand : MethodName := ⟨RX3, "isAtHand", "(LLorewick$State;I)Z"⟩
abbrev cX3_hasLight : ByteArray := prog_5_method_6_code
def yX3_hasLight : MethodName := ⟨RX3, "hasLight", "(LLorewick$State;)Z"⟩
abbrev cX3_isInReach : ByteArray := prog_5_method_7_code
def yX3_isInReach : MethodName := ⟨RX3, "isInReach", "(LLorewick$State;IZ)Z"⟩
abbrev cX3_wordsShown : ByteArray := prog_5_method_8_code
def yX3_wordsShown : MethodName := ⟨RX3, "wordsShown", "(LLorewick$State;)J"⟩
abbrev cX3_carriedWeight : ByteArray := prog_5_method_9_code
def yX3_carriedWeight : MethodName := ⟨RX3, "carriedWeight", "(LLorewick$State;)I"⟩
abbrev cX3_countIn : ByteArray := prog_5_method_10_code
def yX3_countIn : MethodName := ⟨RX3, "countIn", "(LLorewick$State;I)I"⟩
abbrev cX3_goalsReached : ByteArray := prog_5_method_11_code
def yX3_goalsReached : MethodName := ⟨RX3, "goalsReached", "(LLorewick$State;)I"⟩
abbrev cX3_roomBehind : ByteArray := prog_5_method_12_code
def yX3_roomBehind : MethodName := ⟨RX3, "roomBehind", "(LLorewick$State;II)I"⟩
abbrev cX3_distanceTo : ByteArray := prog_5_method_13_code
def yX3_distanceTo : MethodName := ⟨RX3, "distanceTo", "(LLorewick$State;I)I"⟩
abbrev cX3_goFurther : ByteArray := prog_5_method_14_code
def yX3_goFurther : MethodName := ⟨RX3, "goFurther", "(LLorewick$State;I)V"⟩
abbrev cX3_perform : ByteArray := prog_5_method_15_code
def yX3_perform : MethodName := ⟨RX3, "perform", "(LLorewick$State;LLorewick$Command;)Z"⟩
abbrev cX3_move : ByteArray := prog_5_method_16_code
def yX3_move : MethodName := ⟨RX3, "move", "(LLorewick$State;I)Z"⟩
abbrev cX3_handle : ByteArray := prog_5_method_17_code
def yX3_handle : MethodName := ⟨RX3, "handle", "(LLorewick$State;LLorewick$Verb;I)Z"⟩
abbrev cX3_pickUp : ByteArray := prog_5_method_18_code
def yX3_pickUp : MethodName := ⟨RX3, "pickUp", "(LLorewick$State;I)Z"⟩
abbrev cX3_layDown : ByteArray := prog_5_method_19_code
def yX3_layDown : MethodName := ⟨RX3, "layDown", "(LLorewick$State;I)Z"⟩
abbrev cX3_turn : ByteArray := prog_5_method_20_code
def yX3_turn : MethodName := ⟨RX3, "turn", "(LLorewick$State;ICZ)Z"⟩
abbrev cX3_stow : ByteArray := prog_5_method_21_code
def yX3_stow : MethodName := ⟨RX3, "stow", "(LLorewick$State;II)Z"⟩
abbrev cX3_pickUpAsIn : ByteArray := prog_5_method_22_code
def yX3_pickUpAsIn : MethodName := ⟨RX3, "pickUpAsIn", "(LLorewick$State;LLorewick$State;)I"⟩
abbrev cX3_burn : ByteArray := prog_5_method_23_code
def yX3_burn : MethodName := ⟨RX3, "burn", "(LLorewick$State;)V"⟩
def RX4 : String := "Lorewick$Sale"
def TX4 : u_T := fun k => match k with
  | 0 => ("Lorewick$Sale", "hint", "I", true)
  | 1 => ("Lorewick$Sale", "node", "LLorewick$Node;", true)
  | _ => ("Lorewick$Sale", "coins", "I", true)
def tyX4 : Nat → FieldType := fun k => match k with
  | 0 => .int
  | 1 => .object "Lorewick$Node"
  | _ => .int
abbrev wsX40 : List Cond := u_ws RX4 TX4 3
theorem nmX4 : ∀ a, a < 3 → ∀ b, b < 3 → a ≠ b → (TX4 a).2.1 ≠ (TX4 b).2.1 := by decide +kernel
theorem tyX4_ok : ∀ k, k < 3 → parseFieldDescriptor (TX4 k).2.2.1 = some (tyX4 k) := by decide +kernel
abbrev cX4_init : ByteArray := prog_6_method_1_code
def yX4_init : MethodName := ⟨RX4, "<init>", "(ILLorewick$Node;I)V"⟩
def RX5 : String := "Lorewick$Shop"
def TX5 : u_T := fun k => match k with
  | 0 => ("Lorewick$Shop", "bases", "[I", true)
  | 1 => ("Lorewick$Shop", "hintWords", "[J", true)
  | 2 => ("Lorewick$Shop", "hintCount", "I", false)
  | 3 => ("Lorewick$Shop", "sold", "Ljava/util/ArrayList;", true)
  | 4 => ("Lorewick$Shop", "purse", "I", false)
  | _ => ("Lorewick$Shop", "earned", "I", false)
def tyX5 : Nat → FieldType := fun k => match k with
  | 0 => .array .int
  | 1 => .array .long
  | 2 => .int
  | 3 => .object "java/util/ArrayList"
  | 4 => .int
  | _ => .int
abbrev wsX50 : List Cond := u_ws RX5 TX5 6
theorem nmX5 : ∀ a, a < 6 → ∀ b, b < 6 → a ≠ b → (TX5 a).2.1 ≠ (TX5 b).2.1 := by decide +kernel
theorem tyX5_ok : ∀ k, k < 6 → parseFieldDescriptor (TX5 k).2.2.1 = some (tyX5 k) := by decide +kernel
abbrev cX5_init : ByteArray := prog_7_method_1_code
def yX5_init : MethodName := ⟨RX5, "<init>", "()V"⟩
abbrev cX5_hasHint : ByteArray := prog_7_method_2_code
def yX5_hasHint : MethodName := ⟨RX5, "hasHint", "(I)Z"⟩
abbrev cX5_wasSold : ByteArray := prog_7_method_3_code
def yX5_wasSold : MethodName := ⟨RX5, "wasSold", "(I)Z"⟩
abbrev cX5_isOwnedAt : ByteArray := prog_7_method_4_code
def yX5_isOwnedAt : MethodName := ⟨RX5, "isOwnedAt", "(ILLorewick$Node;)Z"⟩
abbrev cX5_priceAt : ByteArray := prog_7_method_5_code
def yX5_priceAt : MethodName := ⟨RX5, "priceAt", "(ILLorewick$Node;LLorewick$Tree;)I"⟩
abbrev cX5_paid : ByteArray := prog_7_method_6_code
def yX5_paid : MethodName := ⟨RX5, "paid", "()I"⟩
abbrev cX5_isAnySoldTwice : ByteArray := prog_7_method_7_code
def yX5_isAnySoldTwice : MethodName := ⟨RX5, "isAnySoldTwice", "()Z"⟩
def RX6 : String := "Lorewick$State"
def TX6 : u_T := fun k => match k with
  | 0 => ("Lorewick$State", "room", "I", false)
  | 1 => ("Lorewick$State", "places", "[I", true)
  | 2 => ("Lorewick$State", "fuels", "[I", true)
  | _ => ("Lorewick$State", "on", "[Z", true)
def tyX6 : Nat → FieldType := fun k => match k with
  | 0 => .int
  | 1 => .array .int
  | 2 => .array .int
  | _ => .array .boolean
abbrev wsX60 : List Cond := u_ws RX6 TX6 4
theorem nmX6 : ∀ a, a < 4 → ∀ b, b < 4 → a ≠ b → (TX6 a).2.1 ≠ (TX6 b).2.1 := by decide +kernel
theorem tyX6_ok : ∀ k, k < 4 → parseFieldDescriptor (TX6 k).2.2.1 = some (tyX6 k) := by decide +kernel
abbrev cX6_init : ByteArray := prog_8_method_1_code
def yX6_init : MethodName := ⟨RX6, "<init>", "()V"⟩
abbrev cX6_copy : ByteArray := prog_8_method_2_code
def yX6_copy : MethodName := ⟨RX6, "copy", "(LLorewick$State;)V"⟩
abbrev cX6_isLike : ByteArray := prog_8_method_3_code
def yX6_isLike : MethodName := ⟨RX6, "isLike", "(LLorewick$State;)Z"⟩
def RX7 : String := "Lorewick$Text"
def TX7 : u_T := fun k => match k with
  | 0 => ("Lorewick$Text", "signs", "[C", true)
  | 1 => ("Lorewick$Text", "starts", "[I", true)
  | 2 => ("Lorewick$Text", "ends", "[I", true)
  | _ => ("Lorewick$Text", "length", "I", false)
def tyX7 : Nat → FieldType := fun k => match k with
  | 0 => .array .char
  | 1 => .array .int
  | 2 => .array .int
  | _ => .int
abbrev wsX70 : List Cond := u_ws RX7 TX7 4
theorem nmX7 : ∀ a, a < 4 → ∀ b, b < 4 → a ≠ b → (TX7 a).2.1 ≠ (TX7 b).2.1 := by decide +kernel
theorem tyX7_ok : ∀ k, k < 4 → parseFieldDescriptor (TX7 k).2.2.1 = some (tyX7 k) := by decide +kernel
abbrev cX7_init : ByteArray := prog_9_method_1_code
def yX7_init : MethodName := ⟨RX7, "<init>", "()V"⟩
abbrev cX7_add : ByteArray := prog_9_method_2_code
def yX7_add : MethodName := ⟨RX7, "add", "(C)V"⟩
abbrev cX7_divide : ByteArray := prog_9_method_3_code
def yX7_divide : MethodName := ⟨RX7, "divide", "()I"⟩
abbrev cX7_isPart : ByteArray := prog_9_method_4_code
def yX7_isPart : MethodName := ⟨RX7, "isPart", "(ILjava/lang/String;)Z"⟩
abbrev cX7_onlySign : ByteArray := prog_9_method_5_code
def yX7_onlySign : MethodName := ⟨RX7, "onlySign", "(I)C"⟩
abbrev cX7_lettersOfPart : ByteArray := prog_9_method_6_code
def yX7_lettersOfPart : MethodName := ⟨RX7, "lettersOfPart", "(I)J"⟩
abbrev cX7_lettersOfAll : ByteArray := prog_9_method_7_code
def yX7_lettersOfAll : MethodName := ⟨RX7, "lettersOfAll", "()J"⟩
abbrev cX7_packed : ByteArray := prog_9_method_8_code
def yX7_packed : MethodName := ⟨RX7, "packed", "(II)J"⟩
def RX8 : String := "Lorewick$Tree"
def TX8 : u_T := fun k => match k with
  | 0 => ("Lorewick$Tree", "list", "Ljava/util/ArrayList;", true)
  | 1 => ("Lorewick$Tree", "posted", "[I", true)
  | _ => ("Lorewick$Tree", "here", "I", false)
def tyX8 : Nat → FieldType := fun k => match k with
  | 0 => .object "java/util/ArrayList"
  | 1 => .array .int
  | _ => .int
abbrev wsX80 : List Cond := u_ws RX8 TX8 3
theorem nmX8 : ∀ a, a < 3 → ∀ b, b < 3 → a ≠ b → (TX8 a).2.1 ≠ (TX8 b).2.1 := by decide +kernel
theorem tyX8_ok : ∀ k, k < 3 → parseFieldDescriptor (TX8 k).2.2.1 = some (tyX8 k) := by decide +kernel
abbrev cX8_init : ByteArray := prog_10_method_1_code
def yX8_init : MethodName := ⟨RX8, "<init>", "()V"⟩
abbrev cX8_isEmpty : ByteArray := prog_10_method_2_code
def yX8_isEmpty : MethodName := ⟨RX8, "isEmpty", "()Z"⟩
abbrev cX8_isFull : ByteArray := prog_10_method_3_code
def yX8_isFull : MethodName := ⟨RX8, "isFull", "()Z"⟩
abbrev cX8_has : ByteArray := prog_10_method_4_code
def yX8_has : MethodName := ⟨RX8, "has", "(I)Z"⟩
abbrev cX8_current : ByteArray := prog_10_method_5_code
def yX8_current : MethodName := ⟨RX8, "current", "()LLorewick$Node;"⟩
abbrev cX8_add : ByteArray := prog_10_method_6_code
def yX8_add : MethodName := ⟨RX8, "add", "(LLorewick$Command;LLorewick$State;J)LLorewick$Node;"⟩
abbrev cX8_childBy : ByteArray := prog_10_method_7_code
def yX8_childBy : MethodName := ⟨RX8, "childBy", "(LLorewick$Command;)I"⟩
abbrev cX8_childAt : ByteArray := prog_10_method_8_code
def yX8_childAt : MethodName := ⟨RX8, "childAt", "(I)I"⟩
abbrev cX8_childCount : ByteArray := prog_10_method_9_code
def yX8_childCount : MethodName := ⟨RX8, "childCount", "(I)I"⟩
abbrev cX8_nodeLabelled : ByteArray := prog_10_method_10_code
def yX8_nodeLabelled : MethodName := ⟨RX8, "nodeLabelled", "(J)I"⟩
abbrev cX8_labelCount : ByteArray := prog_10_method_11_code
def yX8_labelCount : MethodName := ⟨RX8, "labelCount", "()I"⟩
abbrev cX8_postingAt : ByteArray := prog_10_method_12_code
def yX8_postingAt : MethodName := ⟨RX8, "postingAt", "(II)I"⟩
abbrev cX8_nodesShowing : ByteArray := prog_10_method_13_code
def yX8_nodesShowing : MethodName := ⟨RX8, "nodesShowing", "(J)I"⟩
abbrev cX8_byRarity : ByteArray := prog_10_method_14_code
def yX8_byRarity : MethodName := ⟨RX8, "byRarity", "(JI)I"⟩
abbrev cX8_rarerThan : ByteArray := prog_10_method_15_code
def yX8_rarerThan : MethodName := ⟨RX8, "rarerThan", "(JI)I"⟩
def RX9 : String := "Lorewick$Verb"
def TX9 : u_T := fun k => match k with
  | _ => ("", "", "", false)
def tyX9 : Nat → FieldType := fun k => match k with
  | _ => .int
abbrev wsX90 : List Cond := u_ws RX9 TX9 0
theorem nmX9 : ∀ a, a < 0 → ∀ b, b < 0 → a ≠ b → (TX9 a).2.1 ≠ (TX9 b).2.1 := by decide +kernel
theorem tyX9_ok : ∀ k, k < 0 → parseFieldDescriptor (TX9 k).2.2.1 = some (tyX9 k) := by decide +kernel
def RX10 : String := "Lorewick$World"
def TX10 : u_T := fun k => match k with
  | 0 => ("Lorewick$World", "letters", "[J", true)
  | 1 => ("Lorewick$World", "wordCount", "I", false)
  | 2 => ("Lorewick$World", "dark", "[Z", true)
  | 3 => ("Lorewick$World", "roomWords", "[J", true)
  | 4 => ("Lorewick$World", "exits", "[I", true)
  | 5 => ("Lorewick$World", "locks", "[I", true)
  | 6 => ("Lorewick$World", "roomCount", "I", false)
  | 7 => ("Lorewick$World", "nouns", "[I", true)
  | 8 => ("Lorewick$World", "firstRooms", "[I", true)
  | 9 => ("Lorewick$World", "weights", "[I", true)
  | 10 => ("Lorewick$World", "kinds", "[C", true)
  | 11 => ("Lorewick$World", "fuels", "[I", true)
  | 12 => ("Lorewick$World", "thingWords", "[J", true)
  | 13 => ("Lorewick$World", "thingCount", "I", false)
  | 14 => ("Lorewick$World", "goalThings", "[I", true)
  | 15 => ("Lorewick$World", "goalRooms", "[I", true)
  | _ => ("Lorewick$World", "goalCount", "I", false)
def tyX10 : Nat → FieldType := fun k => match k with
  | 0 => .array .long
  | 1 => .int
  | 2 => .array .boolean
  | 3 => .array .long
  | 4 => .array .int
  | 5 => .array .int
  | 6 => .int
  | 7 => .array .int
  | 8 => .array .int
  | 9 => .array .int
  | 10 => .array .char
  | 11 => .array .int
  | 12 => .array .long
  | 13 => .int
  | 14 => .array .int
  | 15 => .array .int
  | _ => .int
abbrev wsX100 : List Cond := u_ws RX10 TX10 17
theorem nmX10 : ∀ a, a < 17 → ∀ b, b < 17 → a ≠ b → (TX10 a).2.1 ≠ (TX10 b).2.1 := by decide +kernel
theorem tyX10_ok : ∀ k, k < 17 → parseFieldDescriptor (TX10 k).2.2.1 = some (tyX10 k) := by decide +kernel
abbrev cX10_init : ByteArray := prog_12_method_1_code
def yX10_init : MethodName := ⟨RX10, "<init>", "()V"⟩
abbrev cX10_hasWord : ByteArray := prog_12_method_2_code
def yX10_hasWord : MethodName := ⟨RX10, "hasWord", "(I)Z"⟩
abbrev cX10_hasRoom : ByteArray := prog_12_method_3_code
def yX10_hasRoom : MethodName := ⟨RX10, "hasRoom", "(I)Z"⟩
abbrev cX10_hasThing : ByteArray := prog_12_method_4_code
def yX10_hasThing : MethodName := ⟨RX10, "hasThing", "(I)Z"⟩
abbrev cX10_wordOf : ByteArray := prog_12_method_5_code
def yX10_wordOf : MethodName := ⟨RX10, "wordOf", "(J)I"⟩
abbrev cX10_thingOf : ByteArray := prog_12_method_6_code
def yX10_thingOf : MethodName := ⟨RX10, "thingOf", "(I)I"⟩
def RX11 : String := "Lorewick"
def TX11 : u_T := fun k => match k with
  | 0 => ("Lorewick", "typed", "LLorewick$Text;", true)
  | 1 => ("Lorewick", "world", "LLorewick$World;", true)
  | 2 => ("Lorewick", "rules", "LLorewick$Rules;", true)
  | 3 => ("Lorewick", "tree", "LLorewick$Tree;", true)
  | 4 => ("Lorewick", "shop", "LLorewick$Shop;", true)
  | 5 => ("Lorewick", "work", "LLorewick$State;", true)
  | _ => ("Lorewick", "line", "Ljava/lang/StringBuilder;", true)
def tyX11 : Nat → FieldType := fun k => match k with
  | 0 => .object "Lorewick$Text"
  | 1 => .object "Lorewick$World"
  | 2 => .object "Lorewick$Rules"
  | 3 => .object "Lorewick$Tree"
  | 4 => .object "Lorewick$Shop"
  | 5 => .object "Lorewick$State"
  | _ => .object "java/lang/StringBuilder"
abbrev wsX110 : List Cond := u_ws RX11 TX11 7
theorem nmX11 : ∀ a, a < 7 → ∀ b, b < 7 → a ≠ b → (TX11 a).2.1 ≠ (TX11 b).2.1 := by decide +kernel
theorem tyX11_ok : ∀ k, k < 7 → parseFieldDescriptor (TX11 k).2.2.1 = some (tyX11 k) := by decide +kernel
abbrev cX11_areOnOnePath : ByteArray := prog_1_method_1_code
def yX11_areOnOnePath : MethodName := ⟨RX11, "areOnOnePath", "(LLorewick$Node;LLorewick$Node;)Z"⟩
abbrev cX11_includes : ByteArray := prog_1_method_2_code
def yX11_includes : MethodName := ⟨RX11, "includes", "(JI)Z"⟩
abbrev cX11_init : ByteArray := prog_1_method_3_code
def yX11_init : MethodName := ⟨RX11, "<init>", "()V"⟩
abbrev cX11_type : ByteArray := prog_1_method_4_code
def yX11_type : MethodName := ⟨RX11, "type", "(C)I"⟩
abbrev cX11_clear : ByteArray := prog_1_method_5_code
def yX11_clear : MethodName := ⟨RX11, "clear", "()I"⟩
abbrev cX11_word : ByteArray := prog_1_method_6_code
def yX11_word : MethodName := ⟨RX11, "word", "()I"⟩
abbrev cX11_room : ByteArray := prog_1_method_7_code
def yX11_room : MethodName := ⟨RX11, "room", "(Z)I"⟩
abbrev cX11_show : ByteArray := prog_1_method_8_code
def yX11_show : MethodName := ⟨RX11, "show", "(II)I"⟩
abbrev cX11_exit : ByteArray := prog_1_method_9_code
def yX11_exit : MethodName := ⟨RX11, "exit", "(ICI)I"⟩
abbrev cX11_lock : ByteArray := prog_1_method_10_code
def yX11_lock : MethodName := ⟨RX11, "lock", "(ICI)I"⟩
abbrev cX11_thing : ByteArray := prog_1_method_11_code
def yX11_thing : MethodName := ⟨RX11, "thing", "(IIIC)I"⟩
abbrev cX11_fuel : ByteArray := prog_1_method_12_code
def yX11_fuel : MethodName := ⟨RX11, "fuel", "(II)I"⟩
abbrev cX11_tell : ByteArray := prog_1_method_13_code
def yX11_tell : MethodName := ⟨RX11, "tell", "(II)I"⟩
abbrev cX11_goal : ByteArray := prog_1_method_14_code
def yX11_goal : MethodName := ⟨RX11, "goal", "(II)I"⟩
abbrev cX11_hint : ByteArray := prog_1_method_15_code
def yX11_hint : MethodName := ⟨RX11, "hint", "(I)I"⟩
abbrev cX11_teach : ByteArray := prog_1_method_16_code
def yX11_teach : MethodName := ⟨RX11, "teach", "(II)I"⟩
abbrev cX11_begin : ByteArray := prog_1_method_17_code
def yX11_begin : MethodName := ⟨RX11, "begin", "(I)I"⟩
abbrev cX11_say : ByteArray := prog_1_method_18_code
def yX11_say : MethodName := ⟨RX11, "say", "()C"⟩
abbrev cX11_at : ByteArray := prog_1_method_19_code
def yX11_at : MethodName := ⟨RX11, "at", "()I"⟩
abbrev cX11_place : ByteArray := prog_1_method_20_code
def yX11_place : MethodName := ⟨RX11, "place", "(I)I"⟩
abbrev cX11_isOpen : ByteArray := prog_1_method_21_code
def yX11_isOpen : MethodName := ⟨RX11, "isOpen", "(I)Z"⟩
abbrev cX11_lit : ByteArray := prog_1_method_22_code
def yX11_lit : MethodName := ⟨RX11, "lit", "(I)I"⟩
abbrev cX11_isBright : ByteArray := prog_1_method_23_code
def yX11_isBright : MethodName := ⟨RX11, "isBright", "()Z"⟩
abbrev cX11_weight : ByteArray := prog_1_method_24_code
def yX11_weight : MethodName := ⟨RX11, "weight", "()I"⟩
abbrev cX11_node : ByteArray := prog_1_method_25_code
def yX11_node : MethodName := ⟨RX11, "node", "()I"⟩
abbrev cX11_nodes : ByteArray := prog_1_method_26_code
def yX11_nodes : MethodName := ⟨RX11, "nodes", "()I"⟩
abbrev cX11_parent : ByteArray := prog_1_method_27_code
def yX11_parent : MethodName := ⟨RX11, "parent", "(I)I"⟩
abbrev cX11_depth : ByteArray := prog_1_method_28_code
def yX11_depth : MethodName := ⟨RX11, "depth", "(I)I"⟩
abbrev cX11_children : ByteArray := prog_1_method_29_code
def yX11_children : MethodName := ⟨RX11, "children", "(I)I"⟩
abbrev cX11_common : ByteArray := prog_1_method_30_code
def yX11_common : MethodName := ⟨RX11, "common", "(II)I"⟩
abbrev cX11_undo : ByteArray := prog_1_method_31_code
def yX11_undo : MethodName := ⟨RX11, "undo", "()I"⟩
abbrev cX11_redo : ByteArray := prog_1_method_32_code
def yX11_redo : MethodName := ⟨RX11, "redo", "(I)I"⟩
abbrev cX11_name : ByteArray := prog_1_method_33_code
def yX11_name : MethodName := ⟨RX11, "name", "()I"⟩
abbrev cX11_jump : ByteArray := prog_1_method_34_code
def yX11_jump : MethodName := ⟨RX11, "jump", "()I"⟩
abbrev cX11_isKnown : ByteArray := prog_1_method_35_code
def yX11_isKnown : MethodName := ⟨RX11, "isKnown", "(I)Z"⟩
abbrev cX11_known : ByteArray := prog_1_method_36_code
def yX11_known : MethodName := ⟨RX11, "known", "()I"⟩
abbrev cX11_learnt : ByteArray := prog_1_method_37_code
def yX11_learnt : MethodName := ⟨RX11, "learnt", "(I)I"⟩
abbrev cX11_postings : ByteArray := prog_1_method_38_code
def yX11_postings : MethodName := ⟨RX11, "postings", "(I)I"⟩
abbrev cX11_posting : ByteArray := prog_1_method_39_code
def yX11_posting : MethodName := ⟨RX11, "posting", "(II)I"⟩
abbrev cX11_rare : ByteArray := prog_1_method_40_code
def yX11_rare : MethodName := ⟨RX11, "rare", "(I)I"⟩
abbrev cX11_price : ByteArray := prog_1_method_41_code
def yX11_price : MethodName := ⟨RX11, "price", "(I)I"⟩
abbrev cX11_buy : ByteArray := prog_1_method_42_code
def yX11_buy : MethodName := ⟨RX11, "buy", "(I)I"⟩
abbrev cX11_isOwned : ByteArray := prog_1_method_43_code
def yX11_isOwned : MethodName := ⟨RX11, "isOwned", "(I)Z"⟩
abbrev cX11_read : ByteArray := prog_1_method_44_code
def yX11_read : MethodName := ⟨RX11, "read", "(I)I"⟩
abbrev cX11_coins : ByteArray := prog_1_method_45_code
def yX11_coins : MethodName := ⟨RX11, "coins", "()I"⟩
abbrev cX11_earn : ByteArray := prog_1_method_46_code
def yX11_earn : MethodName := ⟨RX11, "earn", "(I)I"⟩
abbrev cX11_sales : ByteArray := prog_1_method_47_code
def yX11_sales : MethodName := ⟨RX11, "sales", "()I"⟩
abbrev cX11_sale : ByteArray := prog_1_method_48_code
def yX11_sale : MethodName := ⟨RX11, "sale", "(IC)I"⟩
abbrev cX11_merge : ByteArray := prog_1_method_49_code
def yX11_merge : MethodName := ⟨RX11, "merge", "(I)I"⟩
abbrev cX11_score : ByteArray := prog_1_method_50_code
def yX11_score : MethodName := ⟨RX11, "score", "()I"⟩
abbrev cX11_steps : ByteArray := prog_1_method_51_code
def yX11_steps : MethodName := ⟨RX11, "steps", "(I)I"⟩
abbrev cX11_line : ByteArray := prog_1_method_52_code
def yX11_line : MethodName := ⟨RX11, "line", "()I"⟩
abbrev cX11_signOf : ByteArray := prog_1_method_53_code
def yX11_signOf : MethodName := ⟨RX11, "signOf", "(I)C"⟩
abbrev cX11_checksum : ByteArray := prog_1_method_54_code
def yX11_checksum : MethodName := ⟨RX11, "checksum", "()J"⟩
abbrev cX11_knownShare : ByteArray := prog_1_method_55_code
def yX11_knownShare : MethodName := ⟨RX11, "knownShare", "()F"⟩
abbrev cX11_meanPrice : ByteArray := prog_1_method_56_code
def yX11_meanPrice : MethodName := ⟨RX11, "meanPrice", "()D"⟩
abbrev cX11_isSound : ByteArray := prog_1_method_57_code
def yX11_isSound : MethodName := ⟨RX11, "isSound", "()Z"⟩
abbrev cX11_needWord : ByteArray := prog_1_method_58_code
def yX11_needWord : MethodName := ⟨RX11, "needWord", "(I)V"⟩
abbrev cX11_needRoom : ByteArray := prog_1_method_59_code
def yX11_needRoom : MethodName := ⟨RX11, "needRoom", "(I)V"⟩
abbrev cX11_needThing : ByteArray := prog_1_method_60_code
def yX11_needThing : MethodName := ⟨RX11, "needThing", "(I)V"⟩
abbrev cX11_needHint : ByteArray := prog_1_method_61_code
def yX11_needHint : MethodName := ⟨RX11, "needHint", "(I)V"⟩
abbrev cX11_needKind : ByteArray := prog_1_method_62_code
def yX11_needKind : MethodName := ⟨RX11, "needKind", "(IC)V"⟩
abbrev cX11_needNoPlay : ByteArray := prog_1_method_63_code
def yX11_needNoPlay : MethodName := ⟨RX11, "needNoPlay", "()V"⟩
abbrev cX11_needPlay : ByteArray := prog_1_method_64_code
def yX11_needPlay : MethodName := ⟨RX11, "needPlay", "()V"⟩
abbrev cX11_needNodeFor : ByteArray := prog_1_method_65_code
def yX11_needNodeFor : MethodName := ⟨RX11, "needNodeFor", "(LLorewick$Command;)V"⟩
abbrev cX11_needNotOwned : ByteArray := prog_1_method_66_code
def yX11_needNotOwned : MethodName := ⟨RX11, "needNotOwned", "(I)V"⟩
abbrev cX11_exitIn : ByteArray := prog_1_method_67_code
def yX11_exitIn : MethodName := ⟨RX11, "exitIn", "(IC)I"⟩
abbrev cX11_nodeOf : ByteArray := prog_1_method_68_code
def yX11_nodeOf : MethodName := ⟨RX11, "nodeOf", "(I)LLorewick$Node;"⟩
abbrev cX11_stateHere : ByteArray := prog_1_method_69_code
def yX11_stateHere : MethodName := ⟨RX11, "stateHere", "()LLorewick$State;"⟩
abbrev cX11_wordsKnown : ByteArray := prog_1_method_70_code
def yX11_wordsKnown : MethodName := ⟨RX11, "wordsKnown", "()I"⟩
abbrev cX11_understood : ByteArray := prog_1_method_71_code
def yX11_understood : MethodName := ⟨RX11, "understood", "()LLorewick$Command;"⟩
abbrev cX11_completed : ByteArray := prog_1_method_72_code
def yX11_completed : MethodName := ⟨RX11, "completed", "(LLorewick$Verb;)LLorewick$Command;"⟩
abbrev cX11_tried : ByteArray := prog_1_method_73_code
def yX11_tried : MethodName := ⟨RX11, "tried", "(LLorewick$Command;)C"⟩
abbrev cX11_usesKnownWords : ByteArray := prog_1_method_74_code
def yX11_usesKnownWords : MethodName := ⟨RX11, "usesKnownWords", "(LLorewick$Command;LLorewick$Node;)Z"⟩
abbrev cX11_follow : ByteArray := prog_1_method_75_code
def yX11_follow : MethodName := ⟨RX11, "follow", "(LLorewick$Command;)V"⟩
abbrev cX11_wordsBeside : ByteArray := prog_1_method_76_code
def yX11_wordsBeside : MethodName := ⟨RX11, "wordsBeside", "(LLorewick$Command;)J"⟩
abbrev cX11_writeLine : ByteArray := prog_1_method_77_code
def yX11_writeLine : MethodName := ⟨RX11, "writeLine", "()V"⟩
abbrev cX11_writeCommand : ByteArray := prog_1_method_78_code
def yX11_writeCommand : MethodName := ⟨RX11, "writeCommand", "(LLorewick$Command;)V"⟩
abbrev cX11_writeWord : ByteArray := prog_1_method_79_code
def yX11_writeWord : MethodName := ⟨RX11, "writeWord", "(I)V"⟩
abbrev cX11_isSameAnew : ByteArray := prog_1_method_80_code
def yX11_isSameAnew : MethodName := ⟨RX11, "isSameAnew", "(LLorewick$Node;)Z"⟩
abbrev cX11_canDoAnew : ByteArray := prog_1_method_81_code
def yX11_canDoAnew : MethodName := ⟨RX11, "canDoAnew", "(LLorewick$Command;)Z"⟩
def RJx145de : String := "java/io/Serializable"
def TJx145de : u_T := fun k => match k with
  | _ => ("", "", "", false)
def tyJx145de : Nat → FieldType := fun k => match k with
  | _ => .int
abbrev wsJx145de0 : List Cond := u_ws RJx145de TJx145de 0
theorem nmJx145de : ∀ a, a < 0 → ∀ b, b < 0 → a ≠ b → (TJx145de a).2.1 ≠ (TJx145de b).2.1 := by decide +kernel
theorem tyJx145de_ok : ∀ k, k < 0 → parseFieldDescriptor (TJx145de k).2.2.1 = some (tyJx145de k) := by decide +kernel
def RJ5 : String := "java/lang/AbstractStringBuilder"
def TJ5 : u_T := fun k => match k with
  | _ => ("", "", "", false)
def tyJ5 : Nat → FieldType := fun k => match k with
  | _ => .int
abbrev wsJ50 : List Cond := u_ws RJ5 TJ5 0
theorem nmJ5 : ∀ a, a < 0 → ∀ b, b < 0 → a ≠ b → (TJ5 a).2.1 ≠ (TJ5 b).2.1 := by decide +kernel
theorem tyJ5_ok : ∀ k, k < 0 → parseFieldDescriptor (TJ5 k).2.2.1 = some (tyJ5 k) := by decide +kernel
abbrev cJ5_init_d00df : ByteArray := prog_16_method_2_code
def yJ5_init_d00df : MethodName := ⟨RJ5, "<init>", "(I)V"⟩
abbrev cJ5_length_8abf5 : ByteArray := prog_16_method_6_code
def yJ5_length_8abf5 : MethodName := ⟨RJ5, "length", "()I"⟩
abbrev cJ5_ensureCapacityInternal_d00df : ByteArray := prog_16_method_9_code
def yJ5_ensureCapacityInternal_d00df : MethodName := ⟨RJ5, "ensureCapacityInternal", "(I)V"⟩
abbrev cJ5_newCapacity_0f7a4 : ByteArray := prog_16_method_10_code
def yJ5_newCapacity_0f7a4 : MethodName := ⟨RJ5, "newCapacity", "(I)I"⟩
abbrev cJ5_inflate_da8c8 : ByteArray := prog_16_method_11_code
def yJ5_inflate_da8c8 : MethodName := ⟨RJ5, "inflate", "()V"⟩
abbrev cJ5_setLength_d00df : ByteArray := prog_16_method_13_code
def yJ5_setLength_d00df : MethodName := ⟨RJ5, "setLength", "(I)V"⟩
abbrev cJ5_charAt_5068e : ByteArray := prog_16_method_14_code
def yJ5_charAt_5068e : MethodName := ⟨RJ5, "charAt", "(I)C"⟩
abbrev cJ5_append_cf1ce : ByteArray := prog_16_method_22_code
def yJ5_append_cf1ce : MethodName := ⟨RJ5, "append", "(Ljava/lang/String;)Ljava/lang/AbstractStringBuilder;"⟩
abbrev cJ5_appendNull_278bc : ByteArray := prog_16_method_26_code
def yJ5_appendNull_278bc : MethodName := ⟨RJ5, "appendNull", "()Ljava/lang/AbstractStringBuilder;"⟩
abbrev cJ5_append_3fe6f : ByteArray := prog_16_method_31_code
def yJ5_append_3fe6f : MethodName := ⟨RJ5, "append", "(C)Ljava/lang/AbstractStringBuilder;"⟩
abbrev cJ5_append_c97b9 : ByteArray := prog_16_method_32_code
def yJ5_append_c97b9 : MethodName := ⟨RJ5, "append", "(I)Ljava/lang/AbstractStringBuilder;"⟩
abbrev cJ5_getValue_6d5f1 : ByteArray := prog_16_method_64_code
def yJ5_getValue_6d5f1 : MethodName := ⟨RJ5, "getValue", "()[B"⟩
abbrev cJ5_isLatin1_aae02 : ByteArray := prog_16_method_68_code
def yJ5_isLatin1_aae02 : MethodName := ⟨RJ5, "isLatin1", "()Z"⟩
abbrev cJ5_inflateIfNeededFor_a7421 : ByteArray := prog_16_method_71_code
def yJ5_inflateIfNeededFor_a7421 : MethodName := ⟨RJ5, "inflateIfNeededFor", "(Ljava/lang/String;)V"⟩
abbrev cJ5_putStringAt_47b60 : ByteArray := prog_16_method_73_code
def yJ5_putStringAt_47b60 : MethodName := ⟨RJ5, "putStringAt", "(ILjava/lang/String;)V"⟩
def RJx2cfe8 : String := "java/lang/Appendable"
def TJx2cfe8 : u_T := fun k => match k with
  | _ => ("", "", "", false)
def tyJx2cfe8 : Nat → FieldType := fun k => match k with
  | _ => .int
abbrev wsJx2cfe80 : List Cond := u_ws RJx2cfe8 TJx2cfe8 0
theorem nmJx2cfe8 : ∀ a, a < 0 → ∀ b, b < 0 → a ≠ b → (TJx2cfe8 a).2.1 ≠ (TJx2cfe8 b).2.1 := by decide +kernel
theorem tyJx2cfe8_ok : ∀ k, k < 0 → parseFieldDescriptor (TJx2cfe8 k).2.2.1 = some (tyJx2cfe8 k) := by decide +kernel
def RJx00060 : String := "java/lang/ArrayIndexOutOfBoundsException"
def TJx00060 : u_T := fun k => match k with
  | 0 => ("java/lang/Throwable", "backtrace", "Ljava/lang/Object;", false)
  | 1 => ("java/lang/Throwable", "detailMessage", "Ljava/lang/String;", false)
  | 2 => ("java/lang/Throwable", "cause", "Ljava/lang/Throwable;", false)
  | 3 => ("java/lang/Throwable", "stackTrace", "[Ljava/lang/StackTraceElement;", false)
  | 4 => ("java/lang/Throwable", "depth", "I", false)
  | _ => ("java/lang/Throwable", "suppressedExceptions", "Ljava/util/List;", false)
def tyJx00060 : Nat → FieldType := fun k => match k with
  | 0 => .object "java/lang/Object"
  | 1 => .object "java/lang/String"
  | 2 => .object "java/lang/Throwable"
  | 3 => .array (.object "java/lang/StackTraceElement")
  | 4 => .int
  | _ => .object "java/util/List"
abbrev wsJx000600 : List Cond := u_ws RJx00060 TJx00060 6
theorem nmJx00060 : ∀ a, a < 6 → ∀ b, b < 6 → a ≠ b → (TJx00060 a).2.1 ≠ (TJx00060 b).2.1 := by decide +kernel
theorem tyJx00060_ok : ∀ k, k < 6 → parseFieldDescriptor (TJx00060 k).2.2.1 = some (tyJx00060 k) := by decide +kernel
abbrev cJx00060_init_a7421 : ByteArray := prog_19_method_2_code
def yJx00060_init_a7421 : MethodName := ⟨RJx00060, "<init>", "(Ljava/lang/String;)V"⟩
abbrev cJx00060_init_d00df : ByteArray := prog_19_method_3_code
def yJx00060_init_d00df : MethodName := ⟨RJx00060, "<init>", "(I)V"⟩
def RJx9f9b0 : String := "java/lang/CharSequence"
def TJx9f9b0 : u_T := fun k => match k with
  | _ => ("", "", "", false)
def tyJx9f9b0 : Nat → FieldType := fun k => match k with
  | _ => .int
abbrev wsJx9f9b00 : List Cond := u_ws RJx9f9b0 TJx9f9b0 0
theorem nmJx9f9b0 : ∀ a, a < 0 → ∀ b, b < 0 → a ≠ b → (TJx9f9b0 a).2.1 ≠ (TJx9f9b0 b).2.1 := by decide +kernel
theorem tyJx9f9b0_ok : ∀ k, k < 0 → parseFieldDescriptor (TJx9f9b0 k).2.2.1 = some (tyJx9f9b0 k) := by decide +kernel
def RJ11 : String := "java/lang/Character"
def TJ11 : u_T := fun k => match k with
  | _ => ("", "", "", false)
def tyJ11 : Nat → FieldType := fun k => match k with
  | _ => .int
abbrev wsJ110 : List Cond := u_ws RJ11 TJ11 0
theorem nmJ11 : ∀ a, a < 0 → ∀ b, b < 0 → a ≠ b → (TJ11 a).2.1 ≠ (TJ11 b).2.1 := by decide +kernel
theorem tyJ11_ok : ∀ k, k < 0 → parseFieldDescriptor (TJ11 k).2.2.1 = some (tyJ11 k) := by decide +kernel
abbrev cJ11_isValidCodePoint_9a6ad : ByteArray := prog_21_method_11_code
def yJ11_isValidCodePoint_9a6ad : MethodName := ⟨RJ11, "isValidCodePoint", "(I)Z"⟩
abbrev cJ11_highSurrogate_5068e : ByteArray := prog_21_method_28_code
def yJ11_highSurrogate_5068e : MethodName := ⟨RJ11, "highSurrogate", "(I)C"⟩
abbrev cJ11_lowSurrogate_5068e : ByteArray := prog_21_method_29_code
def yJ11_lowSurrogate_5068e : MethodName := ⟨RJ11, "lowSurrogate", "(I)C"⟩
def RJx8e188 : String := "java/lang/Cloneable"
def TJx8e188 : u_T := fun k => match k with
  | _ => ("", "", "", false)
def tyJx8e188 : Nat → FieldType := fun k => match k with
  | _ => .int
abbrev wsJx8e1880 : List Cond := u_ws RJx8e188 TJx8e188 0
theorem nmJx8e188 : ∀ a, a < 0 → ∀ b, b < 0 → a ≠ b → (TJx8e188 a).2.1 ≠ (TJx8e188 b).2.1 := by decide +kernel
theorem tyJx8e188_ok : ∀ k, k < 0 → parseFieldDescriptor (TJx8e188 k).2.2.1 = some (tyJx8e188 k) := by decide +kernel
def RJxb160c : String := "java/lang/Comparable"
def TJxb160c : u_T := fun k => match k with
  | _ => ("", "", "", false)
def tyJxb160c : Nat → FieldType := fun k => match k with
  | _ => .int
abbrev wsJxb160c0 : List Cond := u_ws RJxb160c TJxb160c 0
theorem nmJxb160c : ∀ a, a < 0 → ∀ b, b < 0 → a ≠ b → (TJxb160c a).2.1 ≠ (TJxb160c b).2.1 := by decide +kernel
theorem tyJxb160c_ok : ∀ k, k < 0 → parseFieldDescriptor (TJxb160c k).2.2.1 = some (tyJxb160c k) := by decide +kernel
def RJx29ce0 : String := "java/lang/Enum"
def TJx29ce0 : u_T := fun k => match k with
  | _ => ("", "", "", false)
def tyJx29ce0 : Nat → FieldType := fun k => match k with
  | _ => .int
abbrev wsJx29ce00 : List Cond := u_ws RJx29ce0 TJx29ce0 0
theorem nmJx29ce0 : ∀ a, a < 0 → ∀ b, b < 0 → a ≠ b → (TJx29ce0 a).2.1 ≠ (TJx29ce0 b).2.1 := by decide +kernel
theorem tyJx29ce0_ok : ∀ k, k < 0 → parseFieldDescriptor (TJx29ce0 k).2.2.1 = some (tyJx29ce0 k) := by decide +kernel
abbrev cJx29ce0_ordinal_8abf5 : ByteArray := prog_24_method_2_code
def yJx29ce0_ordinal_8abf5 : MethodName := ⟨RJx29ce0, "ordinal", "()I"⟩
def RJ6 : String := "java/lang/Integer"
def TJ6 : u_T := fun k => match k with
  | _ => ("", "", "", false)
def tyJ6 : Nat → FieldType := fun k => match k with
  | _ => .int
abbrev wsJ60 : List Cond := u_ws RJ6 TJ6 0
theorem nmJ6 : ∀ a, a < 0 → ∀ b, b < 0 → a ≠ b → (TJ6 a).2.1 ≠ (TJ6 b).2.1 := by decide +kernel
theorem tyJ6_ok : ∀ k, k < 0 → parseFieldDescriptor (TJ6 k).2.2.1 = some (tyJ6 k) := by decide +kernel
abbrev cJ6_getChars_ba4f3 : ByteArray := prog_29_method_12_code
def yJ6_getChars_ba4f3 : MethodName := ⟨RJ6, "getChars", "(II[B)I"⟩
abbrev cJ6_stringSize_0f7a4 : ByteArray := prog_29_method_13_code
def yJ6_stringSize_0f7a4 : MethodName := ⟨RJ6, "stringSize", "(I)I"⟩
def RJxab1ab : String := "java/lang/Iterable"
def TJxab1ab : u_T := fun k => match k with
  | _ => ("", "", "", false)
def tyJxab1ab : Nat → FieldType := fun k => match k with
  | _ => .int
abbrev wsJxab1ab0 : List Cond := u_ws RJxab1ab TJxab1ab 0
theorem nmJxab1ab : ∀ a, a < 0 → ∀ b, b < 0 → a ≠ b → (TJxab1ab a).2.1 ≠ (TJxab1ab b).2.1 := by decide +kernel
theorem tyJxab1ab_ok : ∀ k, k < 0 → parseFieldDescriptor (TJxab1ab k).2.2.1 = some (tyJxab1ab k) := by decide +kernel
def RJ13 : String := "java/lang/Long"
def TJ13 : u_T := fun k => match k with
  | _ => ("", "", "", false)
def tyJ13 : Nat → FieldType := fun k => match k with
  | _ => .int
abbrev wsJ130 : List Cond := u_ws RJ13 TJ13 0
theorem nmJ13 : ∀ a, a < 0 → ∀ b, b < 0 → a ≠ b → (TJ13 a).2.1 ≠ (TJ13 b).2.1 := by decide +kernel
theorem tyJ13_ok : ∀ k, k < 0 → parseFieldDescriptor (TJ13 k).2.2.1 = some (tyJ13 k) := by decide +kernel
abbrev cJ13_bitCount_95d88 : ByteArray := prog_31_method_50_code
def yJ13_bitCount_95d88 : MethodName := ⟨RJ13, "bitCount", "(J)I"⟩
def RJ9 : String := "java/lang/Math"
def TJ9 : u_T := fun k => match k with
  | _ => ("", "", "", false)
def tyJ9 : Nat → FieldType := fun k => match k with
  | _ => .int
abbrev wsJ90 : List Cond := u_ws RJ9 TJ9 0
theorem nmJ9 : ∀ a, a < 0 → ∀ b, b < 0 → a ≠ b → (TJ9 a).2.1 ≠ (TJ9 b).2.1 := by decide +kernel
theorem tyJ9_ok : ∀ k, k < 0 → parseFieldDescriptor (TJ9 k).2.2.1 = some (tyJ9 k) := by decide +kernel
abbrev cJ9_max_7cf53 : ByteArray := prog_32_method_65_code
def yJ9_max_7cf53 : MethodName := ⟨RJ9, "max", "(II)I"⟩
abbrev cJ9_min_7cf53 : ByteArray := prog_32_method_69_code
def yJ9_min_7cf53 : MethodName := ⟨RJ9, "min", "(II)I"⟩
def RJxd2413 : String := "java/lang/Number"
def TJxd2413 : u_T := fun k => match k with
  | _ => ("", "", "", false)
def tyJxd2413 : Nat → FieldType := fun k => match k with
  | _ => .int
abbrev wsJxd24130 : List Cond := u_ws RJxd2413 TJxd2413 0
theorem nmJxd2413 : ∀ a, a < 0 → ∀ b, b < 0 → a ≠ b → (TJxd2413 a).2.1 ≠ (TJxd2413 b).2.1 := by decide +kernel
theorem tyJxd2413_ok : ∀ k, k < 0 → parseFieldDescriptor (TJxd2413 k).2.2.1 = some (tyJxd2413 k) := by decide +kernel
def RJ0 : String := "java/lang/String"
def TJ0 : u_T := fun k => match k with
  | 0 => ("java/lang/String", "value", "[B", true)
  | 1 => ("java/lang/String", "coder", "B", true)
  | 2 => ("java/lang/String", "hash", "I", false)
  | _ => ("java/lang/String", "hashIsZero", "Z", false)
def tyJ0 : Nat → FieldType := fun k => match k with
  | 0 => .array .byte
  | 1 => .byte
  | 2 => .int
  | _ => .boolean
abbrev wsJ00 : List Cond := u_ws RJ0 TJ0 4
theorem nmJ0 : ∀ a, a < 4 → ∀ b, b < 4 → a ≠ b → (TJ0 a).2.1 ≠ (TJ0 b).2.1 := by decide +kernel
theorem tyJ0_ok : ∀ k, k < 4 → parseFieldDescriptor (TJ0 k).2.2.1 = some (tyJ0 k) := by decide +kernel
abbrev cJ0_init_81219 : ByteArray := prog_35_method_53_code
def yJ0_init_81219 : MethodName := ⟨RJ0, "<init>", "(Ljava/lang/StringBuilder;)V"⟩
abbrev cJ0_length_8abf5 : ByteArray := prog_35_method_54_code
def yJ0_length_8abf5 : MethodName := ⟨RJ0, "length", "()I"⟩
abbrev cJ0_charAt_5068e : ByteArray := prog_35_method_56_code
def yJ0_charAt_5068e : MethodName := ⟨RJ0, "charAt", "(I)C"⟩
abbrev cJ0_indexOf_0f7a4 : ByteArray := prog_35_method_79_code
def yJ0_indexOf_0f7a4 : MethodName := ⟨RJ0, "indexOf", "(I)I"⟩
abbrev cJ0_indexOf_7cf53 : ByteArray := prog_35_method_80_code
def yJ0_indexOf_7cf53 : MethodName := ⟨RJ0, "indexOf", "(II)I"⟩
abbrev cJ0_getBytes_840e7 : ByteArray := prog_35_method_147_code
def yJ0_getBytes_840e7 : MethodName := ⟨RJ0, "getBytes", "([BIB)V"⟩
abbrev cJ0_init_db425 : ByteArray := prog_35_method_150_code
def yJ0_init_db425 : MethodName := ⟨RJ0, "<init>", "(Ljava/lang/AbstractStringBuilder;Ljava/lang/Void;)V"⟩
abbrev cJ0_coder_7d493 : ByteArray := prog_35_method_152_code
def yJ0_coder_7d493 : MethodName := ⟨RJ0, "coder", "()B"⟩
abbrev cJ0_isLatin1_aae02 : ByteArray := prog_35_method_154_code
def yJ0_isLatin1_aae02 : MethodName := ⟨RJ0, "isLatin1", "()Z"⟩
abbrev cJ0_checkIndex_df160 : ByteArray := prog_35_method_155_code
def yJ0_checkIndex_df160 : MethodName := ⟨RJ0, "checkIndex", "(II)V"⟩
abbrev cJ0_checkBoundsOffCount_cabcc : ByteArray := prog_35_method_157_code
def yJ0_checkBoundsOffCount_cabcc : MethodName := ⟨RJ0, "checkBoundsOffCount", "(III)I"⟩
abbrev cJ0_checkBoundsBeginEnd_23922 : ByteArray := prog_35_method_158_code
def yJ0_checkBoundsBeginEnd_23922 : MethodName := ⟨RJ0, "checkBoundsBeginEnd", "(III)V"⟩
def RJ4 : String := "java/lang/StringBuilder"
def TJ4 : u_T := fun k => match k with
  | 0 => ("java/lang/AbstractStringBuilder", "value", "[B", false)
  | 1 => ("java/lang/AbstractStringBuilder", "coder", "B", false)
  | 2 => ("java/lang/AbstractStringBuilder", "maybeLatin1", "Z", false)
  | _ => ("java/lang/AbstractStringBuilder", "count", "I", false)
def tyJ4 : Nat → FieldType := fun k => match k with
  | 0 => .array .byte
  | 1 => .byte
  | 2 => .boolean
  | _ => .int
abbrev wsJ40 : List Cond := u_ws RJ4 TJ4 4
theorem nmJ4 : ∀ a, a < 4 → ∀ b, b < 4 → a ≠ b → (TJ4 a).2.1 ≠ (TJ4 b).2.1 := by decide +kernel
theorem tyJ4_ok : ∀ k, k < 4 → parseFieldDescriptor (TJ4 k).2.2.1 = some (tyJ4 k) := by decide +kernel
abbrev cJ4_init_da8c8 : ByteArray := prog_36_method_1_code
def yJ4_init_da8c8 : MethodName := ⟨RJ4, "<init>", "()V"⟩
abbrev cJ4_append_15ec4 : ByteArray := prog_36_method_7_code
def yJ4_append_15ec4 : MethodName := ⟨RJ4, "append", "(Ljava/lang/String;)Ljava/lang/StringBuilder;"⟩
abbrev cJ4_append_cf468 : ByteArray := prog_36_method_14_code
def yJ4_append_cf468 : MethodName := ⟨RJ4, "append", "(C)Ljava/lang/StringBuilder;"⟩
abbrev cJ4_append_bf812 : ByteArray := prog_36_method_15_code
def yJ4_append_bf812 : MethodName := ⟨RJ4, "append", "(I)Ljava/lang/StringBuilder;"⟩
abbrev cJ4_toString_0e30d : ByteArray := prog_36_method_42_code
def yJ4_toString_0e30d : MethodName := ⟨RJ4, "toString", "()Ljava/lang/String;"⟩
abbrev cJ4_charAt_5068e : ByteArray := prog_36_method_88_code
def yJ4_charAt_5068e : MethodName := ⟨RJ4, "charAt", "(I)C"⟩
abbrev cJ4_setLength_d00df : ByteArray := prog_36_method_89_code
def yJ4_setLength_d00df : MethodName := ⟨RJ4, "setLength", "(I)V"⟩
abbrev cJ4_length_8abf5 : ByteArray := prog_36_method_93_code
def yJ4_length_8abf5 : MethodName := ⟨RJ4, "length", "()I"⟩
def RJx7c733 : String := "java/lang/StringIndexOutOfBoundsException"
def TJx7c733 : u_T := fun k => match k with
  | 0 => ("java/lang/Throwable", "backtrace", "Ljava/lang/Object;", false)
  | 1 => ("java/lang/Throwable", "detailMessage", "Ljava/lang/String;", false)
  | 2 => ("java/lang/Throwable", "cause", "Ljava/lang/Throwable;", false)
  | 3 => ("java/lang/Throwable", "stackTrace", "[Ljava/lang/StackTraceElement;", false)
  | 4 => ("java/lang/Throwable", "depth", "I", false)
  | _ => ("java/lang/Throwable", "suppressedExceptions", "Ljava/util/List;", false)
def tyJx7c733 : Nat → FieldType := fun k => match k with
  | 0 => .object "java/lang/Object"
  | 1 => .object "java/lang/String"
  | 2 => .object "java/lang/Throwable"
  | 3 => .array (.object "java/lang/StackTraceElement")
  | 4 => .int
  | _ => .object "java/util/List"
abbrev wsJx7c7330 : List Cond := u_ws RJx7c733 TJx7c733 6
theorem nmJx7c733 : ∀ a, a < 6 → ∀ b, b < 6 → a ≠ b → (TJx7c733 a).2.1 ≠ (TJx7c733 b).2.1 := by decide +kernel
theorem tyJx7c733_ok : ∀ k, k < 6 → parseFieldDescriptor (TJx7c733 k).2.2.1 = some (tyJx7c733 k) := by decide +kernel
abbrev cJx7c733_init_d00df : ByteArray := prog_37_method_3_code
def yJx7c733_init_d00df : MethodName := ⟨RJx7c733, "<init>", "(I)V"⟩
def RJ1 : String := "java/lang/StringLatin1"
def TJ1 : u_T := fun k => match k with
  | _ => ("", "", "", false)
def tyJ1 : Nat → FieldType := fun k => match k with
  | _ => .int
abbrev wsJ10 : List Cond := u_ws RJ1 TJ1 0
theorem nmJ1 : ∀ a, a < 0 → ∀ b, b < 0 → a ≠ b → (TJ1 a).2.1 ≠ (TJ1 b).2.1 := by decide +kernel
theorem tyJ1_ok : ∀ k, k < 0 → parseFieldDescriptor (TJ1 k).2.2.1 = some (tyJ1 k) := by decide +kernel
abbrev cJ1_charAt_3b067 : ByteArray := prog_38_method_2_code
def yJ1_charAt_3b067 : MethodName := ⟨RJ1, "charAt", "([BI)C"⟩
abbrev cJ1_canEncode_fc78d : ByteArray := prog_38_method_3_code
def yJ1_canEncode_fc78d : MethodName := ⟨RJ1, "canEncode", "(C)Z"⟩
abbrev cJ1_canEncode_9a6ad : ByteArray := prog_38_method_4_code
def yJ1_canEncode_9a6ad : MethodName := ⟨RJ1, "canEncode", "(I)Z"⟩
abbrev cJ1_indexOf_4cfef : ByteArray := prog_38_method_22_code
def yJ1_indexOf_4cfef : MethodName := ⟨RJ1, "indexOf", "([BIII)I"⟩
abbrev cJ1_indexOfChar_4cfef : ByteArray := prog_38_method_23_code
def yJ1_indexOfChar_4cfef : MethodName := ⟨RJ1, "indexOfChar", "([BIII)I"⟩
abbrev cJ1_fillNull_b72d1 : ByteArray := prog_38_method_48_code
def yJ1_fillNull_b72d1 : MethodName := ⟨RJ1, "fillNull", "([BII)V"⟩
abbrev cJ1_inflate_0e8fd : ByteArray := prog_38_method_50_code
def yJ1_inflate_0e8fd : MethodName := ⟨RJ1, "inflate", "([BI[BII)V"⟩
def RJ2 : String := "java/lang/StringUTF16"
def TJ2 : u_T := fun k => match k with
  | _ => ("", "", "", false)
def tyJ2 : Nat → FieldType := fun k => match k with
  | _ => .int
abbrev wsJ20 : List Cond := u_ws RJ2 TJ2 0
theorem nmJ2 : ∀ a, a < 0 → ∀ b, b < 0 → a ≠ b → (TJ2 a).2.1 ≠ (TJ2 b).2.1 := by decide +kernel
theorem tyJ2_ok : ∀ k, k < 0 → parseFieldDescriptor (TJ2 k).2.2.1 = some (tyJ2 k) := by decide +kernel
abbrev cJ2_newBytesFor_77867 : ByteArray := prog_39_method_2_code
def yJ2_newBytesFor_77867 : MethodName := ⟨RJ2, "newBytesFor", "(I)[B"⟩
abbrev cJ2_newBytesLength_0f7a4 : ByteArray := prog_39_method_3_code
def yJ2_newBytesLength_0f7a4 : MethodName := ⟨RJ2, "newBytesLength", "(I)I"⟩
abbrev cJ2_putChar_b72d1 : ByteArray := prog_39_method_4_code
def yJ2_putChar_b72d1 : MethodName := ⟨RJ2, "putChar", "([BII)V"⟩
abbrev cJ2_getChar_3b067 : ByteArray := prog_39_method_5_code
def yJ2_getChar_3b067 : MethodName := ⟨RJ2, "getChar", "([BI)C"⟩
abbrev cJ2_length_9d52b : ByteArray := prog_39_method_6_code
def yJ2_length_9d52b : MethodName := ⟨RJ2, "length", "([B)I"⟩
abbrev cJ2_coderFromArrayLen_85cad : ByteArray := prog_39_method_15_code
def yJ2_coderFromArrayLen_85cad : MethodName := ⟨RJ2, "coderFromArrayLen", "([BI)B"⟩
abbrev cJ2_compress_39247 : ByteArray := prog_39_method_17_code
def yJ2_compress_39247 : MethodName := ⟨RJ2, "compress", "([BII)[B"⟩
abbrev cJ2_compress_5af95 : ByteArray := prog_39_method_22_code
def yJ2_compress_5af95 : MethodName := ⟨RJ2, "compress", "([BI[BII)I"⟩
abbrev cJ2_indexOf_4cfef : ByteArray := prog_39_method_40_code
def yJ2_indexOf_4cfef : MethodName := ⟨RJ2, "indexOf", "([BIII)I"⟩
abbrev cJ2_indexOfChar_4cfef : ByteArray := prog_39_method_47_code
def yJ2_indexOfChar_4cfef : MethodName := ⟨RJ2, "indexOfChar", "([BIII)I"⟩
abbrev cJ2_indexOfCharUnsafe_4cfef : ByteArray := prog_39_method_48_code
def yJ2_indexOfCharUnsafe_4cfef : MethodName := ⟨RJ2, "indexOfCharUnsafe", "([BIII)I"⟩
abbrev cJ2_indexOfSupplementary_4cfef : ByteArray := prog_39_method_49_code
def yJ2_indexOfSupplementary_4cfef : MethodName := ⟨RJ2, "indexOfSupplementary", "([BIII)I"⟩
abbrev cJ2_fillNull_b72d1 : ByteArray := prog_39_method_70_code
def yJ2_fillNull_b72d1 : MethodName := ⟨RJ2, "fillNull", "([BII)V"⟩
abbrev cJ2_putCharSB_b72d1 : ByteArray := prog_39_method_71_code
def yJ2_putCharSB_b72d1 : MethodName := ⟨RJ2, "putCharSB", "([BII)V"⟩
abbrev cJ2_getChars_46870 : ByteArray := prog_39_method_77_code
def yJ2_getChars_46870 : MethodName := ⟨RJ2, "getChars", "(III[B)I"⟩
abbrev cJ2_putCharsAt_cd4e5 : ByteArray := prog_39_method_81_code
def yJ2_putCharsAt_cd4e5 : MethodName := ⟨RJ2, "putCharsAt", "([BICCCC)I"⟩
abbrev cJ2_charAt_3b067 : ByteArray := prog_39_method_83_code
def yJ2_charAt_3b067 : MethodName := ⟨RJ2, "charAt", "([BI)C"⟩
abbrev cJ2_inflate_0e8fd : ByteArray := prog_39_method_86_code
def yJ2_inflate_0e8fd : MethodName := ⟨RJ2, "inflate", "([BI[BII)V"⟩
abbrev cJ2_getChars_ba4f3 : ByteArray := prog_39_method_89_code
def yJ2_getChars_ba4f3 : MethodName := ⟨RJ2, "getChars", "(II[B)I"⟩
abbrev cJ2_checkIndex_2214a : ByteArray := prog_39_method_91_code
def yJ2_checkIndex_2214a : MethodName := ⟨RJ2, "checkIndex", "(I[B)V"⟩
abbrev cJ2_checkBoundsBeginEnd_d044e : ByteArray := prog_39_method_93_code
def yJ2_checkBoundsBeginEnd_d044e : MethodName := ⟨RJ2, "checkBoundsBeginEnd", "(II[B)V"⟩
abbrev cJ2_checkBoundsOffCount_d044e : ByteArray := prog_39_method_94_code
def yJ2_checkBoundsOffCount_d044e : MethodName := ⟨RJ2, "checkBoundsOffCount", "(II[B)V"⟩
def RJ10 : String := "java/lang/System"
def TJ10 : u_T := fun k => match k with
  | _ => ("", "", "", false)
def tyJ10 : Nat → FieldType := fun k => match k with
  | _ => .int
abbrev wsJ100 : List Cond := u_ws RJ10 TJ10 0
theorem nmJ10 : ∀ a, a < 0 → ∀ b, b < 0 → a ≠ b → (TJ10 a).2.1 ≠ (TJ10 b).2.1 := by decide +kernel
theorem tyJ10_ok : ∀ k, k < 0 → parseFieldDescriptor (TJ10 k).2.2.1 = some (tyJ10 k) := by decide +kernel
def RJxfd54e : String := "java/lang/constant/Constable"
def TJxfd54e : u_T := fun k => match k with
  | _ => ("", "", "", false)
def tyJxfd54e : Nat → FieldType := fun k => match k with
  | _ => .int
abbrev wsJxfd54e0 : List Cond := u_ws RJxfd54e TJxfd54e 0
theorem nmJxfd54e : ∀ a, a < 0 → ∀ b, b < 0 → a ≠ b → (TJxfd54e a).2.1 ≠ (TJxfd54e b).2.1 := by decide +kernel
theorem tyJxfd54e_ok : ∀ k, k < 0 → parseFieldDescriptor (TJxfd54e k).2.2.1 = some (tyJxfd54e k) := by decide +kernel
def RJx3cf43 : String := "java/lang/constant/ConstantDesc"
def TJx3cf43 : u_T := fun k => match k with
  | _ => ("", "", "", false)
def tyJx3cf43 : Nat → FieldType := fun k => match k with
  | _ => .int
abbrev wsJx3cf430 : List Cond := u_ws RJx3cf43 TJx3cf43 0
theorem nmJx3cf43 : ∀ a, a < 0 → ∀ b, b < 0 → a ≠ b → (TJx3cf43 a).2.1 ≠ (TJx3cf43 b).2.1 := by decide +kernel
theorem tyJx3cf43_ok : ∀ k, k < 0 → parseFieldDescriptor (TJx3cf43 k).2.2.1 = some (tyJx3cf43 k) := by decide +kernel
def RJxa1e45 : String := "java/util/AbstractCollection"
def TJxa1e45 : u_T := fun k => match k with
  | _ => ("", "", "", false)
def tyJxa1e45 : Nat → FieldType := fun k => match k with
  | _ => .int
abbrev wsJxa1e450 : List Cond := u_ws RJxa1e45 TJxa1e45 0
theorem nmJxa1e45 : ∀ a, a < 0 → ∀ b, b < 0 → a ≠ b → (TJxa1e45 a).2.1 ≠ (TJxa1e45 b).2.1 := by decide +kernel
theorem tyJxa1e45_ok : ∀ k, k < 0 → parseFieldDescriptor (TJxa1e45 k).2.2.1 = some (tyJxa1e45 k) := by decide +kernel
abbrev cJxa1e45_init_da8c8 : ByteArray := prog_45_method_1_code
def yJxa1e45_init_da8c8 : MethodName := ⟨RJxa1e45, "<init>", "()V"⟩
def RJxc12de : String := "java/util/AbstractList"
def TJxc12de : u_T := fun k => match k with
  | _ => ("", "", "", false)
def tyJxc12de : Nat → FieldType := fun k => match k with
  | _ => .int
abbrev wsJxc12de0 : List Cond := u_ws RJxc12de TJxc12de 0
theorem nmJxc12de : ∀ a, a < 0 → ∀ b, b < 0 → a ≠ b → (TJxc12de a).2.1 ≠ (TJxc12de b).2.1 := by decide +kernel
theorem tyJxc12de_ok : ∀ k, k < 0 → parseFieldDescriptor (TJxc12de k).2.2.1 = some (tyJxc12de k) := by decide +kernel
abbrev cJxc12de_init_da8c8 : ByteArray := prog_46_method_1_code
def yJxc12de_init_da8c8 : MethodName := ⟨RJxc12de, "<init>", "()V"⟩
def RJx4a65c : String := "java/util/ArrayList"
def TJx4a65c : u_T := fun k => match k with
  | 0 => ("java/util/AbstractList", "modCount", "I", false)
  | 1 => ("java/util/ArrayList", "elementData", "[Ljava/lang/Object;", false)
  | _ => ("java/util/ArrayList", "size", "I", false)
def tyJx4a65c : Nat → FieldType := fun k => match k with
  | 0 => .int
  | 1 => .array (.object "java/lang/Object")
  | _ => .int
abbrev wsJx4a65c0 : List Cond := u_ws RJx4a65c TJx4a65c 3
theorem nmJx4a65c : ∀ a, a < 3 → ∀ b, b < 3 → a ≠ b → (TJx4a65c a).2.1 ≠ (TJx4a65c b).2.1 := by decide +kernel
theorem tyJx4a65c_ok : ∀ k, k < 3 → parseFieldDescriptor (TJx4a65c k).2.2.1 = some (tyJx4a65c k) := by decide +kernel
abbrev cJx4a65c_init_da8c8 : ByteArray := prog_47_method_2_code
def yJx4a65c_init_da8c8 : MethodName := ⟨RJx4a65c, "<init>", "()V"⟩
abbrev cJx4a65c_grow_92f84 : ByteArray := prog_47_method_6_code
def yJx4a65c_grow_92f84 : MethodName := ⟨RJx4a65c, "grow", "(I)[Ljava/lang/Object;"⟩
abbrev cJx4a65c_grow_d5877 : ByteArray := prog_47_method_7_code
def yJx4a65c_grow_d5877 : MethodName := ⟨RJx4a65c, "grow", "()[Ljava/lang/Object;"⟩
abbrev cJx4a65c_size_8abf5 : ByteArray := prog_47_method_8_code
def yJx4a65c_size_8abf5 : MethodName := ⟨RJx4a65c, "size", "()I"⟩
abbrev cJx4a65c_isEmpty_aae02 : ByteArray := prog_47_method_9_code
def yJx4a65c_isEmpty_aae02 : MethodName := ⟨RJx4a65c, "isEmpty", "()Z"⟩
abbrev cJx4a65c_elementData_915e3 : ByteArray := prog_47_method_18_code
def yJx4a65c_elementData_915e3 : MethodName := ⟨RJx4a65c, "elementData", "(I)Ljava/lang/Object;"⟩
abbrev cJx4a65c_get_915e3 : ByteArray := prog_47_method_20_code
def yJx4a65c_get_915e3 : MethodName := ⟨RJx4a65c, "get", "(I)Ljava/lang/Object;"⟩
abbrev cJx4a65c_add_72be8 : ByteArray := prog_47_method_24_code
def yJx4a65c_add_72be8 : MethodName := ⟨RJx4a65c, "add", "(Ljava/lang/Object;[Ljava/lang/Object;I)V"⟩
abbrev cJx4a65c_add_9ea2d : ByteArray := prog_47_method_25_code
def yJx4a65c_add_9ea2d : MethodName := ⟨RJx4a65c, "add", "(Ljava/lang/Object;)Z"⟩
def RJ7 : String := "java/util/Arrays"
def TJ7 : u_T := fun k => match k with
  | _ => ("", "", "", false)
def tyJ7 : Nat → FieldType := fun k => match k with
  | _ => .int
abbrev wsJ70 : List Cond := u_ws RJ7 TJ7 0
theorem nmJ7 : ∀ a, a < 0 → ∀ b, b < 0 → a ≠ b → (TJ7 a).2.1 ≠ (TJ7 b).2.1 := by decide +kernel
theorem tyJ7_ok : ∀ k, k < 0 → parseFieldDescriptor (TJ7 k).2.2.1 = some (tyJ7 k) := by decide +kernel
abbrev cJ7_rangeCheck_23922 : ByteArray := prog_48_method_30_code
def yJ7_rangeCheck_23922 : MethodName := ⟨RJ7, "rangeCheck", "(III)V"⟩
abbrev cJ7_fill_53178 : ByteArray := prog_48_method_103_code
def yJ7_fill_53178 : MethodName := ⟨RJ7, "fill", "([II)V"⟩
abbrev cJ7_fill_eb02e : ByteArray := prog_48_method_110_code
def yJ7_fill_eb02e : MethodName := ⟨RJ7, "fill", "([BIIB)V"⟩
abbrev cJ7_copyOf_1904c : ByteArray := prog_48_method_119_code
def yJ7_copyOf_1904c : MethodName := ⟨RJ7, "copyOf", "([Ljava/lang/Object;I)[Ljava/lang/Object;"⟩
abbrev cJ7_copyOf_6403c : ByteArray := prog_48_method_120_code
def yJ7_copyOf_6403c : MethodName := ⟨RJ7, "copyOf", "([Ljava/lang/Object;ILjava/lang/Class;)[Ljava/lang/Object;"⟩
abbrev cJ7_copyOf_9075b : ByteArray := prog_48_method_121_code
def yJ7_copyOf_9075b : MethodName := ⟨RJ7, "copyOf", "([BI)[B"⟩
abbrev cJ7_checkLength_df160 : ByteArray := prog_48_method_131_code
def yJ7_checkLength_df160 : MethodName := ⟨RJ7, "checkLength", "(II)V"⟩
abbrev cJ7_copyOfRange_39247 : ByteArray := prog_48_method_132_code
def yJ7_copyOfRange_39247 : MethodName := ⟨RJ7, "copyOfRange", "([BII)[B"⟩
abbrev cJ7_copyOfRangeByte_39247 : ByteArray := prog_48_method_133_code
def yJ7_copyOfRangeByte_39247 : MethodName := ⟨RJ7, "copyOfRangeByte", "([BII)[B"⟩
def RJx5ef63 : String := "java/util/Collection"
def TJx5ef63 : u_T := fun k => match k with
  | _ => ("", "", "", false)
def tyJx5ef63 : Nat → FieldType := fun k => match k with
  | _ => .int
abbrev wsJx5ef630 : List Cond := u_ws RJx5ef63 TJx5ef63 0
theorem nmJx5ef63 : ∀ a, a < 0 → ∀ b, b < 0 → a ≠ b → (TJx5ef63 a).2.1 ≠ (TJx5ef63 b).2.1 := by decide +kernel
theorem tyJx5ef63_ok : ∀ k, k < 0 → parseFieldDescriptor (TJx5ef63 k).2.2.1 = some (tyJx5ef63 k) := by decide +kernel
def RJxbd725 : String := "java/util/List"
def TJxbd725 : u_T := fun k => match k with
  | _ => ("", "", "", false)
def tyJxbd725 : Nat → FieldType := fun k => match k with
  | _ => .int
abbrev wsJxbd7250 : List Cond := u_ws RJxbd725 TJxbd725 0
theorem nmJxbd725 : ∀ a, a < 0 → ∀ b, b < 0 → a ≠ b → (TJxbd725 a).2.1 ≠ (TJxbd725 b).2.1 := by decide +kernel
theorem tyJxbd725_ok : ∀ k, k < 0 → parseFieldDescriptor (TJxbd725 k).2.2.1 = some (tyJxbd725 k) := by decide +kernel
def RJ15 : String := "java/util/Objects"
def TJ15 : u_T := fun k => match k with
  | _ => ("", "", "", false)
def tyJ15 : Nat → FieldType := fun k => match k with
  | _ => .int
abbrev wsJ150 : List Cond := u_ws RJ15 TJ15 0
theorem nmJ15 : ∀ a, a < 0 → ∀ b, b < 0 → a ≠ b → (TJ15 a).2.1 ≠ (TJ15 b).2.1 := by decide +kernel
theorem tyJ15_ok : ∀ k, k < 0 → parseFieldDescriptor (TJ15 k).2.2.1 = some (tyJ15 k) := by decide +kernel
abbrev cJ15_checkIndex_7cf53 : ByteArray := prog_52_method_17_code
def yJ15_checkIndex_7cf53 : MethodName := ⟨RJ15, "checkIndex", "(II)I"⟩
def RJxf0a74 : String := "java/util/RandomAccess"
def TJxf0a74 : u_T := fun k => match k with
  | _ => ("", "", "", false)
def tyJxf0a74 : Nat → FieldType := fun k => match k with
  | _ => .int
abbrev wsJxf0a740 : List Cond := u_ws RJxf0a74 TJxf0a74 0
theorem nmJxf0a74 : ∀ a, a < 0 → ∀ b, b < 0 → a ≠ b → (TJxf0a74 a).2.1 ≠ (TJxf0a74 b).2.1 := by decide +kernel
theorem tyJxf0a74_ok : ∀ k, k < 0 → parseFieldDescriptor (TJxf0a74 k).2.2.1 = some (tyJxf0a74 k) := by decide +kernel
def RJxa66e6 : String := "java/util/SequencedCollection"
def TJxa66e6 : u_T := fun k => match k with
  | _ => ("", "", "", false)
def tyJxa66e6 : Nat → FieldType := fun k => match k with
  | _ => .int
abbrev wsJxa66e60 : List Cond := u_ws RJxa66e6 TJxa66e6 0
theorem nmJxa66e6 : ∀ a, a < 0 → ∀ b, b < 0 → a ≠ b → (TJxa66e6 a).2.1 ≠ (TJxa66e6 b).2.1 := by decide +kernel
theorem tyJxa66e6_ok : ∀ k, k < 0 → parseFieldDescriptor (TJxa66e6 k).2.2.1 = some (tyJxa66e6 k) := by decide +kernel
def RJ8 : String := "jdk/internal/util/ArraysSupport"
def TJ8 : u_T := fun k => match k with
  | _ => ("", "", "", false)
def tyJ8 : Nat → FieldType := fun k => match k with
  | _ => .int
abbrev wsJ80 : List Cond := u_ws RJ8 TJ8 0
theorem nmJ8 : ∀ a, a < 0 → ∀ b, b < 0 → a ≠ b → (TJ8 a).2.1 ≠ (TJ8 b).2.1 := by decide +kernel
theorem tyJ8_ok : ∀ k, k < 0 → parseFieldDescriptor (TJ8 k).2.2.1 = some (tyJ8 k) := by decide +kernel
abbrev cJ8_newLength_cabcc : ByteArray := prog_55_method_27_code
def yJ8_newLength_cabcc : MethodName := ⟨RJ8, "newLength", "(III)I"⟩
abbrev cJ8_hugeLength_7cf53 : ByteArray := prog_55_method_28_code
def yJ8_hugeLength_7cf53 : MethodName := ⟨RJ8, "hugeLength", "(II)I"⟩
def RJ3 : String := "jdk/internal/util/Preconditions"
def TJ3 : u_T := fun k => match k with
  | _ => ("", "", "", false)
def tyJ3 : Nat → FieldType := fun k => match k with
  | _ => .int
abbrev wsJ30 : List Cond := u_ws RJ3 TJ3 0
theorem nmJ3 : ∀ a, a < 0 → ∀ b, b < 0 → a ≠ b → (TJ3 a).2.1 ≠ (TJ3 b).2.1 := by decide +kernel
theorem tyJ3_ok : ∀ k, k < 0 → parseFieldDescriptor (TJ3 k).2.2.1 = some (tyJ3 k) := by decide +kernel
abbrev cJ3_checkIndex_8e157 : ByteArray := prog_56_method_11_code
def yJ3_checkIndex_8e157 : MethodName := ⟨RJ3, "checkIndex", "(IILjava/util/function/BiFunction;)I"⟩
abbrev cJ3_checkFromToIndex_8c36e : ByteArray := prog_56_method_12_code
def yJ3_checkFromToIndex_8c36e : MethodName := ⟨RJ3, "checkFromToIndex", "(IIILjava/util/function/BiFunction;)I"⟩
abbrev cJ3_checkFromIndexSize_8c36e : ByteArray := prog_56_method_13_code
def yJ3_checkFromIndexSize_8c36e : MethodName := ⟨RJ3, "checkFromIndexSize", "(IIILjava/util/function/BiFunction;)I"⟩
def RL : String := "LorewickLaw"
theorem dX1_init_0 : decode cX1_init 0 = .ok (.aload_n 0, 1) := by decide +kernel
theorem dX1_init_1 : decode cX1_init 1 = .ok (.invokespecial 1, 3) := by decide +kernel
theorem dX1_init_4 : decode cX1_init 4 = .ok (.aload_n 0, 1) := by decide +kernel
theorem dX1_init_5 : decode cX1_init 5 = .ok (.aload_n 1, 1) := by decide +kernel
theorem dX1_init_6 : decode cX1_init 6 = .ok (.putfield 7, 3) := by decide +kernel
theorem dX1_init_9 : decode cX1_init 9 = .ok (.aload_n 0, 1) := by decide +kernel
theorem dX1_init_10 : decode cX1_init 10 = .ok (.iload_n 2, 1) := by decide +kernel
theorem dX1_init_11 : decode cX1_init 11 = .ok (.putfield 13, 3) := by decide +kernel
theorem dX1_init_14 : decode cX1_init 14 = .ok (.aload_n 0, 1) := by decide +kernel
theorem dX1_init_15 : decode cX1_init 15 = .ok (.iload_n 3, 1) := by decide +kernel
theorem dX1_init_16 : decode cX1_init 16 = .ok (.putfield 17, 3) := by decide +kernel
theorem dX1_init_19 : decode cX1_init 19 = .ok (.return_, 1) := by decide +kernel
theorem dX1_isSame_0 : decode cX1_isSame 0 = .ok (.aload_n 0, 1) := by decide +kernel
theorem dX1_isSame_1 : decode cX1_isSame 1 = .ok (.getfield 7, 3) := by decide +kernel
theorem dX1_isSame_4 : decode cX1_isSame 4 = .ok (.aload_n 1, 1) := by decide +kernel
theorem dX1_isSame_5 : decode cX1_isSame 5 = .ok (.getfield 7, 3) := by decide +kernel
theorem dX1_isSame_8 : decode cX1_isSame 8 = .ok (.if_acmp .ne 29, 3) := by decide +kernel
theorem dX1_isSame_11 : decode cX1_isSame 11 = .ok (.aload_n 0, 1) := by decide +kernel
theorem dX1_isSame_12 : decode cX1_isSame 12 = .ok (.getfield 13, 3) := by decide +kernel
theorem dX1_isSame_15 : decode cX1_isSame 15 = .ok (.aload_n 1, 1) := by decide +kernel
theorem dX1_isSame_16 : decode cX1_isSame 16 = .ok (.getfield 13, 3) := by decide +kernel
theorem dX1_isSame_19 : decode cX1_isSame 19 = .ok (.if_icmp .ne 18, 3) := by decide +kernel
theorem dX1_isSame_22 : decode cX1_isSame 22 = .ok (.aload_n 0, 1) := by decide +kernel
theorem dX1_isSame_23 : decode cX1_isSame 23 = .ok (.getfield 17, 3) := by decide +kernel
theorem dX1_isSame_26 : decode cX1_isSame 26 = .ok (.aload_n 1, 1) := by decide +kernel
theorem dX1_isSame_27 : decode cX1_isSame 27 = .ok (.getfield 17, 3) := by decide +kernel
theorem dX1_isSame_30 : decode cX1_isSame 30 = .ok (.if_icmp .ne 7, 3) := by decide +kernel
theorem dX1_isSame_33 : decode cX1_isSame 33 = .ok (.iconst 1, 1) := by decide +kernel
theorem dX1_isSame_34 : decode cX1_isSame 34 = .ok (.goto 4, 3) := by decide +kernel
theorem dX1_isSame_37 : decode cX1_isSame 37 = .ok (.iconst 0, 1) := by decide +kernel
theorem dX1_isSame_38 : decode cX1_isSame 38 = .ok (.ireturn, 1) := by decide +kernel
theorem dX2_init_0 : decode cX2_init 0 = .ok (.aload_n 0, 1) := by decide +kernel
theorem dX2_init_1 : decode cX2_init 1 = .ok (.invokespecial 3, 3) := by decide +kernel
theorem dX2_init_4 : decode cX2_init 4 = .ok (.aload_n 0, 1) := by decide +kernel
theorem dX2_init_5 : decode cX2_init 5 = .ok (.new 9, 3) := by decide +kernel
theorem dX2_init_8 : decode cX2_init 8 = .ok (.dup, 1) := by decide +kernel
theorem dX2_init_9 : decode cX2_init 9 = .ok (.invokespecial 11, 3) := by decide +kernel
theorem dX2_init_12 : decode cX2_init 12 = .ok (.putfield 12, 3) := by decide +kernel
theorem dX2_init_15 : decode cX2_init 15 = .ok (.aload_n 0, 1) := by decide +kernel
theorem dX2_init_16 : decode cX2_init 16 = .ok (.iload_n 1, 1) := by decide +kernel
theorem dX2_init_17 : decode cX2_init 17 = .ok (.putfield 18, 3) := by decide +kernel
theorem dX2_init_20 : decode cX2_init 20 = .ok (.aload_n 0, 1) := by decide +kernel
theorem dX2_init_21 : decode cX2_init 21 = .ok (.aload_n 2, 1) := by decide +kernel
theorem dX2_init_22 : decode cX2_init 22 = .ok (.putfield 22, 3) := by decide +kernel
theorem dX2_init_25 : decode cX2_init 25 = .ok (.aload_n 0, 1) := by decide +kernel
theorem dX2_init_26 : decode cX2_init 26 = .ok (.aload_n 3, 1) := by decide +kernel
theorem dX2_init_27 : decode cX2_init 27 = .ok (.putfield 26, 3) := by decide +kernel
theorem dX2_init_30 : decode cX2_init 30 = .ok (.aload_n 0, 1) := by decide +kernel
theorem dX2_init_31 : decode cX2_init 31 = .ok (.getfield 12, 3) := by decide +kernel
theorem dX2_init_34 : decode cX2_init 34 = .ok (.aload 4, 2) := by decide +kernel
theorem dX2_init_36 : decode cX2_init 36 = .ok (.invokevirtual 30, 3) := by decide +kernel
theorem dX2_init_39 : decode cX2_init 39 = .ok (.aload_n 0, 1) := by decide +kernel
theorem dX2_init_40 : decode cX2_init 40 = .ok (.lload 5, 2) := by decide +kernel
theorem dX2_init_42 : decode cX2_init 42 = .ok (.putfield 34, 3) := by decide +kernel
theorem dX2_init_45 : decode cX2_init 45 = .ok (.return_, 1) := by decide +kernel
theorem dX2_isOnPathOf_0 : decode cX2_isOnPathOf 0 = .ok (.aload_n 1, 1) := by decide +kernel
theorem dX2_isOnPathOf_1 : decode cX2_isOnPathOf 1 = .ok (.astore_n 2, 1) := by decide +kernel
theorem dX2_isOnPathOf_2 : decode cX2_isOnPathOf 2 = .ok (.aload_n 2, 1) := by decide +kernel
theorem dX2_isOnPathOf_3 : decode cX2_isOnPathOf 3 = .ok (.ifnull 18, 3) := by decide +kernel
theorem dX2_isOnPathOf_6 : decode cX2_isOnPathOf 6 = .ok (.aload_n 2, 1) := by decide +kernel
theorem dX2_isOnPathOf_7 : decode cX2_isOnPathOf 7 = .ok (.aload_n 0, 1) := by decide +kernel
theorem dX2_isOnPathOf_8 : decode cX2_isOnPathOf 8 = .ok (.if_acmp .ne 5, 3) := by decide +kernel
theorem dX2_isOnPathOf_11 : decode cX2_isOnPathOf 11 = .ok (.iconst 1, 1) := by decide +kernel
theorem dX2_isOnPathOf_12 : decode cX2_isOnPathOf 12 = .ok (.ireturn, 1) := by decide +kernel
theorem dX2_isOnPathOf_13 : decode cX2_isOnPathOf 13 = .ok (.aload_n 2, 1) := by decide +kernel
theorem dX2_isOnPathOf_14 : decode cX2_isOnPathOf 14 = .ok (.getfield 22, 3) := by decide +kernel
theorem dX2_isOnPathOf_17 : decode cX2_isOnPathOf 17 = .ok (.astore_n 2, 1) := by decide +kernel
theorem dX2_isOnPathOf_18 : decode cX2_isOnPathOf 18 = .ok (.goto (-16), 3) := by decide +kernel
theorem dX2_isOnPathOf_21 : decode cX2_isOnPathOf 21 = .ok (.iconst 0, 1) := by decide +kernel
theorem dX2_isOnPathOf_22 : decode cX2_isOnPathOf 22 = .ok (.ireturn, 1) := by decide +kernel
theorem dX2_pathLength_0 : decode cX2_pathLength 0 = .ok (.iconst 0, 1) := by decide +kernel
theorem dX2_pathLength_1 : decode cX2_pathLength 1 = .ok (.istore_n 1, 1) := by decide +kernel
theorem dX2_pathLength_2 : decode cX2_pathLength 2 = .ok (.aload_n 0, 1) := by decide +kernel
theorem dX2_pathLength_3 : decode cX2_pathLength 3 = .ok (.getfield 22, 3) := by decide +kernel
theorem dX2_pathLength_6 : decode cX2_pathLength 6 = .ok (.astore_n 2, 1) := by decide +kernel
theorem dX2_pathLength_7 : decode cX2_pathLength 7 = .ok (.aload_n 2, 1) := by decide +kernel
theorem dX2_pathLength_8 : decode cX2_pathLength 8 = .ok (.ifnull 14, 3) := by decide +kernel
theorem dX2_pathLength_11 : decode cX2_pathLength 11 = .ok (.iinc 1 1, 3) := by decide +kernel
theorem dX2_pathLength_14 : decode cX2_pathLength 14 = .ok (.aload_n 2, 1) := by decide +kernel
theorem dX2_pathLength_15 : decode cX2_pathLength 15 = .ok (.getfield 22, 3) := by decide +kernel
theorem dX2_pathLength_18 : decode cX2_pathLength 18 = .ok (.astore_n 2, 1) := by decide +kernel
theorem dX2_pathLength_19 : decode cX2_pathLength 19 = .ok (.goto (-12), 3) := by decide +kernel
theorem dX2_pathLength_22 : decode cX2_pathLength 22 = .ok (.iload_n 1, 1) := by decide +kernel
theorem dX2_pathLength_23 : decode cX2_pathLength 23 = .ok (.ireturn, 1) := by decide +kernel
theorem dX2_wordsOfPath_0 : decode cX2_wordsOfPath 0 = .ok (.lconst 0, 1) := by decide +kernel
theorem dX2_wordsOfPath_1 : decode cX2_wordsOfPath 1 = .ok (.lstore_n 1, 1) := by decide +kernel
theorem dX2_wordsOfPath_2 : decode cX2_wordsOfPath 2 = .ok (.aload_n 0, 1) := by decide +kernel
theorem dX2_wordsOfPath_3 : decode cX2_wordsOfPath 3 = .ok (.astore_n 3, 1) := by decide +kernel
theorem dX2_wordsOfPath_4 : decode cX2_wordsOfPath 4 = .ok (.aload_n 3, 1) := by decide +kernel
theorem dX2_wordsOfPath_5 : decode cX2_wordsOfPath 5 = .ok (.ifnull 18, 3) := by decide +kernel
theorem dX2_wordsOfPath_8 : decode cX2_wordsOfPath 8 = .ok (.lload_n 1, 1) := by decide +kernel
theorem dX2_wordsOfPath_9 : decode cX2_wordsOfPath 9 = .ok (.aload_n 3, 1) := by decide +kernel
theorem dX2_wordsOfPath_10 : decode cX2_wordsOfPath 10 = .ok (.getfield 34, 3) := by decide +kernel
theorem dX2_wordsOfPath_13 : decode cX2_wordsOfPath 13 = .ok (.lor, 1) := by decide +kernel
theorem dX2_wordsOfPath_14 : decode cX2_wordsOfPath 14 = .ok (.lstore_n 1, 1) := by decide +kernel
theorem dX2_wordsOfPath_15 : decode cX2_wordsOfPath 15 = .ok (.aload_n 3, 1) := by decide +kernel
theorem dX2_wordsOfPath_16 : decode cX2_wordsOfPath 16 = .ok (.getfield 22, 3) := by decide +kernel
theorem dX2_wordsOfPath_19 : decode cX2_wordsOfPath 19 = .ok (.astore_n 3, 1) := by decide +kernel
theorem dX2_wordsOfPath_20 : decode cX2_wordsOfPath 20 = .ok (.goto (-16), 3) := by decide +kernel
theorem dX2_wordsOfPath_23 : decode cX2_wordsOfPath 23 = .ok (.lload_n 1, 1) := by decide +kernel
theorem dX2_wordsOfPath_24 : decode cX2_wordsOfPath 24 = .ok (.lreturn, 1) := by decide +kernel
theorem dX2_firstToShow_0 : decode cX2_firstToShow 0 = .ok (.iconst (-1), 1) := by decide +kernel
theorem dX2_firstToShow_1 : decode cX2_firstToShow 1 = .ok (.istore_n 2, 1) := by decide +kernel
theorem dX2_firstToShow_2 : decode cX2_firstToShow 2 = .ok (.aload_n 0, 1) := by decide +kernel
theorem dX2_firstToShow_3 : decode cX2_firstToShow 3 = .ok (.astore_n 3, 1) := by decide +kernel
theorem dX2_firstToShow_4 : decode cX2_firstToShow 4 = .ok (.aload_n 3, 1) := by decide +kernel
theorem dX2_firstToShow_5 : decode cX2_firstToShow 5 = .ok (.ifnull 27, 3) := by decide +kernel
theorem dX2_firstToShow_8 : decode cX2_firstToShow 8 = .ok (.aload_n 3, 1) := by decide +kernel
theorem dX2_firstToShow_9 : decode cX2_firstToShow 9 = .ok (.getfield 34, 3) := by decide +kernel
theorem dX2_firstToShow_12 : decode cX2_firstToShow 12 = .ok (.iload_n 1, 1) := by decide +kernel
theorem dX2_firstToShow_13 : decode cX2_firstToShow 13 = .ok (.invokestatic 38, 3) := by decide +kernel
theorem dX2_firstToShow_16 : decode cX2_firstToShow 16 = .ok (.ifCond .eq 8, 3) := by decide +kernel
theorem dX2_firstToShow_19 : decode cX2_firstToShow 19 = .ok (.aload_n 3, 1) := by decide +kernel
theorem dX2_firstToShow_20 : decode cX2_firstToShow 20 = .ok (.getfield 18, 3) := by decide +kernel
theorem dX2_firstToShow_23 : decode cX2_firstToShow 23 = .ok (.istore_n 2, 1) := by decide +kernel
theorem dX2_firstToShow_24 : decode cX2_firstToShow 24 = .ok (.aload_n 3, 1) := by decide +kernel
theorem dX2_firstToShow_25 : decode cX2_firstToShow 25 = .ok (.getfield 22, 3) := by decide +kernel
theorem dX2_firstToShow_28 : decode cX2_firstToShow 28 = .ok (.astore_n 3, 1) := by decide +kernel
theorem dX2_firstToShow_29 : decode cX2_firstToShow 29 = .ok (.goto (-25), 3) := by decide +kernel
theorem dX2_firstToShow_32 : decode cX2_firstToShow 32 = .ok (.iload_n 2, 1) := by decide +kernel
theorem dX2_firstToShow_33 : decode cX2_firstToShow 33 = .ok (.ireturn, 1) := by decide +kernel
theorem dX2_lastInCommon_0 : decode cX2_lastInCommon 0 = .ok (.aload_n 0, 1) := by decide +kernel
theorem dX2_lastInCommon_1 : decode cX2_lastInCommon 1 = .ok (.astore_n 2, 1) := by decide +kernel
theorem dX2_lastInCommon_2 : decode cX2_lastInCommon 2 = .ok (.aload_n 2, 1) := by decide +kernel
theorem dX2_lastInCommon_3 : decode cX2_lastInCommon 3 = .ok (.ifnull 24, 3) := by decide +kernel
theorem dX2_lastInCommon_6 : decode cX2_lastInCommon 6 = .ok (.aload_n 2, 1) := by decide +kernel
theorem dX2_lastInCommon_7 : decode cX2_lastInCommon 7 = .ok (.aload_n 1, 1) := by decide +kernel
theorem dX2_lastInCommon_8 : decode cX2_lastInCommon 8 = .ok (.invokevirtual 42, 3) := by decide +kernel
theorem dX2_lastInCommon_11 : decode cX2_lastInCommon 11 = .ok (.ifCond .eq 8, 3) := by decide +kernel
theorem dX2_lastInCommon_14 : decode cX2_lastInCommon 14 = .ok (.aload_n 2, 1) := by decide +kernel
theorem dX2_lastInCommon_15 : decode cX2_lastInCommon 15 = .ok (.getfield 18, 3) := by decide +kernel
theorem dX2_lastInCommon_18 : decode cX2_lastInCommon 18 = .ok (.ireturn, 1) := by decide +kernel
theorem dX2_lastInCommon_19 : decode cX2_lastInCommon 19 = .ok (.aload_n 2, 1) := by decide +kernel
theorem dX2_lastInCommon_20 : decode cX2_lastInCommon 20 = .ok (.getfield 22, 3) := by decide +kernel
theorem dX2_lastInCommon_23 : decode cX2_lastInCommon 23 = .ok (.astore_n 2, 1) := by decide +kernel
theorem dX2_lastInCommon_24 : decode cX2_lastInCommon 24 = .ok (.goto (-22), 3) := by decide +kernel
theorem dX2_lastInCommon_27 : decode cX2_lastInCommon 27 = .ok (.iconst (-1), 1) := by decide +kernel
theorem dX2_lastInCommon_28 : decode cX2_lastInCommon 28 = .ok (.ireturn, 1) := by decide +kernel
theorem dX3_init_0 : decode cX3_init 0 = .ok (.aload_n 0, 1) := by decide +kernel
theorem dX3_init_1 : decode cX3_init 1 = .ok (.invokespecial 3, 3) := by decide +kernel
theorem dX3_init_4 : decode cX3_init 4 = .ok (.aload_n 0, 1) := by decide +kernel
theorem dX3_init_5 : decode cX3_init 5 = .ok (.bipush 12, 2) := by decide +kernel
theorem dX3_init_7 : decode cX3_init 7 = .ok (.newarray .int, 2) := by decide +kernel
theorem dX3_init_9 : decode cX3_init 9 = .ok (.putfield 9, 3) := by decide +kernel
theorem dX3_init_12 : decode cX3_init 12 = .ok (.aload_n 0, 1) := by decide +kernel
theorem dX3_init_13 : decode cX3_init 13 = .ok (.aload_n 1, 1) := by decide +kernel
theorem dX3_init_14 : decode cX3_init 14 = .ok (.putfield 15, 3) := by decide +kernel
theorem dX3_init_17 : decode cX3_init 17 = .ok (.return_, 1) := by decide +kernel
theorem dX3_setUp_0 : decode cX3_setUp 0 = .ok (.aload_n 1, 1) := by decide +kernel
theorem dX3_setUp_1 : decode cX3_setUp 1 = .ok (.iload_n 2, 1) := by decide +kernel
theorem dX3_setUp_2 : decode cX3_setUp 2 = .ok (.putfield 19, 3) := by decide +kernel
theorem dX3_setUp_5 : decode cX3_setUp 5 = .ok (.iconst 0, 1) := by decide +kernel
theorem dX3_setUp_6 : decode cX3_setUp 6 = .ok (.istore_n 3, 1) := by decide +kernel
theorem dX3_setUp_7 : decode cX3_setUp 7 = .ok (.iload_n 3, 1) := by decide +kernel
theorem dX3_setUp_8 : decode cX3_setUp 8 = .ok (.bipush 12, 2) := by decide +kernel
theorem dX3_setUp_10 : decode cX3_setUp 10 = .ok (.if_icmp .ge 46, 3) := by decide +kernel
theorem dX3_setUp_13 : decode cX3_setUp 13 = .ok (.aload_n 1, 1) := by decide +kernel
theorem dX3_setUp_14 : decode cX3_setUp 14 = .ok (.getfield 25, 3) := by decide +kernel
theorem dX3_setUp_17 : decode cX3_setUp 17 = .ok (.iload_n 3, 1) := by decide +kernel
theorem dX3_setUp_18 : decode cX3_setUp 18 = .ok (.aload_n 0, 1) := by decide +kernel
theorem dX3_setUp_19 : decode cX3_setUp 19 = .ok (.getfield 15, 3) := by decide +kernel
theorem dX3_setUp_22 : decode cX3_setUp 22 = .ok (.getfield 28, 3) := by decide +kernel
theorem dX3_setUp_25 : decode cX3_setUp 25 = .ok (.iload_n 3, 1) := by decide +kernel
theorem dX3_setUp_26 : decode cX3_setUp 26 = .ok (.iaload, 1) := by decide +kernel
theorem dX3_setUp_27 : decode cX3_setUp 27 = .ok (.iastore, 1) := by decide +kernel
theorem dX3_setUp_28 : decode cX3_setUp 28 = .ok (.aload_n 1, 1) := by decide +kernel
theorem dX3_setUp_29 : decode cX3_setUp 29 = .ok (.getfield 33, 3) := by decide +kernel
theorem dX3_setUp_32 : decode cX3_setUp 32 = .ok (.iload_n 3, 1) := by decide +kernel
theorem dX3_setUp_33 : decode cX3_setUp 33 = .ok (.aload_n 0, 1) := by decide +kernel
theorem dX3_setUp_34 : decode cX3_setUp 34 = .ok (.getfield 15, 3) := by decide +kernel
theorem dX3_setUp_37 : decode cX3_setUp 37 = .ok (.getfield 36, 3) := by decide +kernel
theorem dX3_setUp_40 : decode cX3_setUp 40 = .ok (.iload_n 3, 1) := by decide +kernel
theorem dX3_setUp_41 : decode cX3_setUp 41 = .ok (.iaload, 1) := by decide +kernel
theorem dX3_setUp_42 : decode cX3_setUp 42 = .ok (.iastore, 1) := by decide +kernel
theorem dX3_setUp_43 : decode cX3_setUp 43 = .ok (.aload_n 1, 1) := by decide +kernel
theorem dX3_setUp_44 : decode cX3_setUp 44 = .ok (.getfield 37, 3) := by decide +kernel
theorem dX3_setUp_47 : decode cX3_setUp 47 = .ok (.iload_n 3, 1) := by decide +kernel
theorem dX3_setUp_48 : decode cX3_setUp 48 = .ok (.iconst 0, 1) := by decide +kernel
theorem dX3_setUp_49 : decode cX3_setUp 49 = .ok (.bastore, 1) := by decide +kernel
theorem dX3_setUp_50 : decode cX3_setUp 50 = .ok (.iinc 3 1, 3) := by decide +kernel
theorem dX3_setUp_53 : decode cX3_setUp 53 = .ok (.goto (-46), 3) := by decide +kernel
theorem dX3_setUp_56 : decode cX3_setUp 56 = .ok (.return_, 1) := by decide +kernel
theorem dX3_openBoxOf_0 : decode cX3_openBoxOf 0 = .ok (.aload_n 1, 1) := by decide +kernel
theorem dX3_openBoxOf_1 : decode cX3_openBoxOf 1 = .ok (.getfield 25, 3) := by decide +kernel
theorem dX3_openBoxOf_4 : decode cX3_openBoxOf 4 = .ok (.iload_n 2, 1) := by decide +kernel
theorem dX3_openBoxOf_5 : decode cX3_openBoxOf 5 = .ok (.iaload, 1) := by decide +kernel
theorem dX3_openBoxOf_6 : decode cX3_openBoxOf 6 = .ok (.sipush 200, 3) := by decide +kernel
theorem dX3_openBoxOf_9 : decode cX3_openBoxOf 9 = .ok (.isub, 1) := by decide +kernel
theorem dX3_openBoxOf_10 : decode cX3_openBoxOf 10 = .ok (.istore_n 3, 1) := by decide +kernel
theorem dX3_openBoxOf_11 : decode cX3_openBoxOf 11 = .ok (.iload_n 3, 1) := by decide +kernel
theorem dX3_openBoxOf_12 : decode cX3_openBoxOf 12 = .ok (.ifCond .lt 27, 3) := by decide +kernel
theorem dX3_openBoxOf_15 : decode cX3_openBoxOf 15 = .ok (.iload_n 3, 1) := by decide +kernel
theorem dX3_openBoxOf_16 : decode cX3_openBoxOf 16 = .ok (.aload_n 0, 1) := by decide +kernel
theorem dX3_openBoxOf_17 : decode cX3_openBoxOf 17 = .ok (.getfield 15, 3) := by decide +kernel
theorem dX3_openBoxOf_20 : decode cX3_openBoxOf 20 = .ok (.getfield 41, 3) := by decide +kernel
theorem dX3_openBoxOf_23 : decode cX3_openBoxOf 23 = .ok (.if_icmp .ge 16, 3) := by decide +kernel
theorem dX3_openBoxOf_26 : decode cX3_openBoxOf 26 = .ok (.aload_n 1, 1) := by decide +kernel
theorem dX3_openBoxOf_27 : decode cX3_openBoxOf 27 = .ok (.getfield 37, 3) := by decide +kernel
theorem dX3_openBoxOf_30 : decode cX3_openBoxOf 30 = .ok (.iload_n 3, 1) := by decide +kernel
theorem dX3_openBoxOf_31 : decode cX3_openBoxOf 31 = .ok (.baload, 1) := by decide +kernel
theorem dX3_openBoxOf_32 : decode cX3_openBoxOf 32 = .ok (.ifCond .eq 7, 3) := by decide +kernel
theorem dX3_openBoxOf_35 : decode cX3_openBoxOf 35 = .ok (.iload_n 3, 1) := by decide +kernel
theorem dX3_openBoxOf_36 : decode cX3_openBoxOf 36 = .ok (.goto 4, 3) := by decide +kernel
theorem dX3_openBoxOf_39 : decode cX3_openBoxOf 39 = .ok (.iconst (-1), 1) := by decide +kernel
theorem dX3_openBoxOf_40 : decode cX3_openBoxOf 40 = .ok (.ireturn, 1) := by decide +kernel
theorem dX3_isHeld_0 : decode cX3_isHeld 0 = .ok (.aload_n 0, 1) := by decide +kernel
theorem dX3_isHeld_1 : decode cX3_isHeld 1 = .ok (.aload_n 1, 1) := by decide +kernel
theorem dX3_isHeld_2 : decode cX3_isHeld 2 = .ok (.iload_n 2, 1) := by decide +kernel
theorem dX3_isHeld_3 : decode cX3_isHeld 3 = .ok (.invokevirtual 44, 3) := by decide +kernel
theorem dX3_isHeld_6 : decode cX3_isHeld 6 = .ok (.istore_n 3, 1) := by decide +kernel
theorem dX3_isHeld_7 : decode cX3_isHeld 7 = .ok (.aload_n 1, 1) := by decide +kernel
theorem dX3_isHeld_8 : decode cX3_isHeld 8 = .ok (.getfield 25, 3) := by decide +kernel
theorem dX3_isHeld_11 : decode cX3_isHeld 11 = .ok (.iload_n 3, 1) := by decide +kernel
theorem dX3_isHeld_12 : decode cX3_isHeld 12 = .ok (.iconst (-1), 1) := by decide +kernel
theorem dX3_isHeld_13 : decode cX3_isHeld 13 = .ok (.if_icmp .ne 7, 3) := by decide +kernel
theorem dX3_isHeld_16 : decode cX3_isHeld 16 = .ok (.iload_n 2, 1) := by decide +kernel
theorem dX3_isHeld_17 : decode cX3_isHeld 17 = .ok (.goto 4, 3) := by decide +kernel
theorem dX3_isHeld_20 : decode cX3_isHeld 20 = .ok (.iload_n 3, 1) := by decide +kernel
theorem dX3_isHeld_21 : decode cX3_isHeld 21 = .ok (.iaload, 1) := by decide +kernel
theorem dX3_isHeld_22 : decode cX3_isHeld 22 = .ok (.bipush 100, 2) := by decide +kernel
theorem dX3_isHeld_24 : decode cX3_isHeld 24 = .ok (.if_icmp .ne 7, 3) := by decide +kernel
theorem dX3_isHeld_27 : decode cX3_isHeld 27 = .ok (.iconst 1, 1) := by decide +kernel
theorem dX3_isHeld_28 : decode cX3_isHeld 28 = .ok (.goto 4, 3) := by decide +kernel
theorem dX3_isHeld_31 : decode cX3_isHeld 31 = .ok (.iconst 0, 1) := by decide +kernel
theorem dX3_isHeld_32 : decode cX3_isHeld 32 = .ok (.ireturn, 1) := by decide +kernel
theorem dX3_isAtHand_0 : decode cX3_isAtHand 0 = .ok (.aload_n 0, 1) := by decide +kernel
theorem dX3_isAtHand_1 : decode cX3_isAtHand 1 = .ok (.aload_n 1, 1) := by decide +kernel
theorem dX3_isAtHand_2 : decode cX3_isAtHand 2 = .ok (.iload_n 2, 1) := by decide +kernel
theorem dX3_isAtHand_3 : decode cX3_isAtHand 3 = .ok (.invokevirtual 44, 3) := by decide +kernel
theorem dX3_isAtHand_6 : decode cX3_isAtHand 6 = .ok (.istore_n 3, 1) := by decide +kernel
theorem dX3_isAtHand_7 : decode cX3_isAtHand 7 = .ok (.aload_n 1, 1) := by decide +kernel
theorem dX3_isAtHand_8 : decode cX3_isAtHand 8 = .ok (.getfield 25, 3) := by decide +kernel
theorem dX3_isAtHand_11 : decode cX3_isAtHand 11 = .ok (.iload_n 3, 1) := by decide +kernel
theorem dX3_isAtHand_12 : decode cX3_isAtHand 12 = .ok (.iconst (-1), 1) := by decide +kernel
theorem dX3_isAtHand_13 : decode cX3_isAtHand 13 = .ok (.if_icmp .ne 7, 3) := by decide +kernel
theorem dX3_isAtHand_16 : decode cX3_isAtHand 16 = .ok (.iload_n 2, 1) := by decide +kernel
theorem dX3_isAtHand_17 : decode cX3_isAtHand 17 = .ok (.goto 4, 3) := by decide +kernel
theorem dX3_isAtHand_20 : decode cX3_isAtHand 20 = .ok (.iload_n 3, 1) := by decide +kernel
theorem dX3_isAtHand_21 : decode cX3_isAtHand 21 = .ok (.iaload, 1) := by decide +kernel
theorem dX3_isAtHand_22 : decode cX3_isAtHand 22 = .ok (.istore 4, 2) := by decide +kernel
theorem dX3_isAtHand_24 : decode cX3_isAtHand 24 = .ok (.iload 4, 2) := by decide +kernel
theorem dX3_isAtHand_26 : decode cX3_isAtHand 26 = .ok (.bipush 100, 2) := by decide +kernel
theorem dX3_isAtHand_28 : decode cX3_isAtHand 28 = .ok (.if_icmp .eq 12, 3) := by decide +kernel
theorem dX3_isAtHand_31 : decode cX3_isAtHand 31 = .ok (.iload 4, 2) := by decide +kernel
theorem dX3_isAtHand_33 : decode cX3_isAtHand 33 = .ok (.aload_n 1, 1) := by decide +kernel
theorem dX3_isAtHand_34 : decode cX3_isAtHand 34 = .ok (.getfield 19, 3) := by decide +kernel
theorem dX3_isAtHand_37 : decode cX3_isAtHand 37 = .ok (.if_icmp .ne 7, 3) := by decide +kernel
theorem dX3_isAtHand_40 : decode cX3_isAtHand 40 = .ok (.iconst 1, 1) := by decide +kernel
theorem dX3_isAtHand_41 : decode cX3_isAtHand 41 = .ok (.goto 4, 3) := by decide +kernel
theorem dX3_isAtHand_44 : decode cX3_isAtHand 44 = .ok (.iconst 0, 1) := by decide +kernel
theorem dX3_isAtHand_45 : decode cX3_isAtHand 45 = .ok (.ireturn, 1) := by decide +kernel
theorem dX3_hasLight_0 : decode cX3_hasLight 0 = .ok (.aload_n 0, 1) := by decide +kernel
theorem dX3_hasLight_1 : decode cX3_hasLight 1 = .ok (.getfield 15, 3) := by decide +kernel
theorem dX3_hasLight_4 : decode cX3_hasLight 4 = .ok (.getfield 48, 3) := by decide +kernel
theorem dX3_hasLight_7 : decode cX3_hasLight 7 = .ok (.aload_n 1, 1) := by decide +kernel
theorem dX3_hasLight_8 : decode cX3_hasLight 8 = .ok (.getfield 19, 3) := by decide +kernel
theorem dX3_hasLight_11 : decode cX3_hasLight 11 = .ok (.baload, 1) := by decide +kernel
theorem dX3_hasLight_12 : decode cX3_hasLight 12 = .ok (.ifCond .ne 5, 3) := by decide +kernel
theorem dX3_hasLight_15 : decode cX3_hasLight 15 = .ok (.iconst 1, 1) := by decide +kernel
theorem dX3_hasLight_16 : decode cX3_hasLight 16 = .ok (.ireturn, 1) := by decide +kernel
theorem dX3_hasLight_17 : decode cX3_hasLight 17 = .ok (.iconst 0, 1) := by decide +kernel
theorem dX3_hasLight_18 : decode cX3_hasLight 18 = .ok (.istore_n 2, 1) := by decide +kernel
theorem dX3_hasLight_19 : decode cX3_hasLight 19 = .ok (.iload_n 2, 1) := by decide +kernel
theorem dX3_hasLight_20 : decode cX3_hasLight 20 = .ok (.aload_n 0, 1) := by decide +kernel
theorem dX3_hasLight_21 : decode cX3_hasLight 21 = .ok (.getfield 15, 3) := by decide +kernel
theorem dX3_hasLight_24 : decode cX3_hasLight 24 = .ok (.getfield 41, 3) := by decide +kernel
theorem dX3_hasLight_27 : decode cX3_hasLight 27 = .ok (.if_icmp .ge 43, 3) := by decide +kernel
theorem dX3_hasLight_30 : decode cX3_hasLight 30 = .ok (.aload_n 0, 1) := by decide +kernel
theorem dX3_hasLight_31 : decode cX3_hasLight 31 = .ok (.getfield 15, 3) := by decide +kernel
theorem dX3_hasLight_34 : decode cX3_hasLight 34 = .ok (.getfield 51, 3) := by decide +kernel
theorem dX3_hasLight_37 : decode cX3_hasLight 37 = .ok (.iload_n 2, 1) := by decide +kernel
theorem dX3_hasLight_38 : decode cX3_hasLight 38 = .ok (.caload, 1) := by decide +kernel
theorem dX3_hasLight_39 : decode cX3_hasLight 39 = .ok (.bipush 108, 2) := by decide +kernel
theorem dX3_hasLight_41 : decode cX3_hasLight 41 = .ok (.if_icmp .ne 23, 3) := by decide +kernel
theorem dX3_hasLight_44 : decode cX3_hasLight 44 = .ok (.aload_n 1, 1) := by decide +kernel
theorem dX3_hasLight_45 : decode cX3_hasLight 45 = .ok (.getfield 37, 3) := by decide +kernel
theorem dX3_hasLight_48 : decode cX3_hasLight 48 = .ok (.iload_n 2, 1) := by decide +kernel
theorem dX3_hasLight_49 : decode cX3_hasLight 49 = .ok (.baload, 1) := by decide +kernel
theorem dX3_hasLight_50 : decode cX3_hasLight 50 = .ok (.ifCond .eq 14, 3) := by decide +kernel
theorem dX3_hasLight_53 : decode cX3_hasLight 53 = .ok (.aload_n 0, 1) := by decide +kernel
theorem dX3_hasLight_54 : decode cX3_hasLight 54 = .ok (.aload_n 1, 1) := by decide +kernel
theorem dX3_hasLight_55 : decode cX3_hasLight 55 = .ok (.iload_n 2, 1) := by decide +kernel
theorem dX3_hasLight_56 : decode cX3_hasLight 56 = .ok (.invokevirtual 55, 3) := by decide +kernel
theorem dX3_hasLight_59 : decode cX3_hasLight 59 = .ok (.ifCond .eq 5, 3) := by decide +kernel
theorem dX3_hasLight_62 : decode cX3_hasLight 62 = .ok (.iconst 1, 1) := by decide +kernel
theorem dX3_hasLight_63 : decode cX3_hasLight 63 = .ok (.ireturn, 1) := by decide +kernel
theorem dX3_hasLight_64 : decode cX3_hasLight 64 = .ok (.iinc 2 1, 3) := by decide +kernel
theorem dX3_hasLight_67 : decode cX3_hasLight 67 = .ok (.goto (-48), 3) := by decide +kernel
theorem dX3_hasLight_70 : decode cX3_hasLight 70 = .ok (.iconst 0, 1) := by decide +kernel
theorem dX3_hasLight_71 : decode cX3_hasLight 71 = .ok (.ireturn, 1) := by decide +kernel
theorem dX3_isInReach_0 : decode cX3_isInReach 0 = .ok (.iload_n 3, 1) := by decide +kernel
theorem dX3_isInReach_1 : decode cX3_isInReach 1 = .ok (.ifCond .eq 12, 3) := by decide +kernel
theorem dX3_isInReach_4 : decode cX3_isInReach 4 = .ok (.aload_n 0, 1) := by decide +kernel
theorem dX3_isInReach_5 : decode cX3_isInReach 5 = .ok (.aload_n 1, 1) := by decide +kernel
theorem dX3_isInReach_6 : decode cX3_isInReach 6 = .ok (.iload_n 2, 1) := by decide +kernel
theorem dX3_isInReach_7 : decode cX3_isInReach 7 = .ok (.invokevirtual 55, 3) := by decide +kernel
theorem dX3_isInReach_10 : decode cX3_isInReach 10 = .ok (.goto 9, 3) := by decide +kernel
theorem dX3_isInReach_13 : decode cX3_isInReach 13 = .ok (.aload_n 0, 1) := by decide +kernel
theorem dX3_isInReach_14 : decode cX3_isInReach 14 = .ok (.aload_n 1, 1) := by decide +kernel
theorem dX3_isInReach_15 : decode cX3_isInReach 15 = .ok (.iload_n 2, 1) := by decide +kernel
theorem dX3_isInReach_16 : decode cX3_isInReach 16 = .ok (.invokevirtual 59, 3) := by decide +kernel
theorem dX3_isInReach_19 : decode cX3_isInReach 19 = .ok (.ireturn, 1) := by decide +kernel
theorem dX3_wordsShown_0 : decode cX3_wordsShown 0 = .ok (.aload_n 0, 1) := by decide +kernel
theorem dX3_wordsShown_1 : decode cX3_wordsShown 1 = .ok (.aload_n 1, 1) := by decide +kernel
theorem dX3_wordsShown_2 : decode cX3_wordsShown 2 = .ok (.invokevirtual 62, 3) := by decide +kernel
theorem dX3_wordsShown_5 : decode cX3_wordsShown 5 = .ok (.istore_n 2, 1) := by decide +kernel
theorem dX3_wordsShown_6 : decode cX3_wordsShown 6 = .ok (.iload_n 2, 1) := by decide +kernel
theorem dX3_wordsShown_7 : decode cX3_wordsShown 7 = .ok (.ifCond .eq 18, 3) := by decide +kernel
theorem dX3_wordsShown_10 : decode cX3_wordsShown 10 = .ok (.aload_n 0, 1) := by decide +kernel
theorem dX3_wordsShown_11 : decode cX3_wordsShown 11 = .ok (.getfield 15, 3) := by decide +kernel
theorem dX3_wordsShown_14 : decode cX3_wordsShown 14 = .ok (.getfield 66, 3) := by decide +kernel
theorem dX3_wordsShown_17 : decode cX3_wordsShown 17 = .ok (.aload_n 1, 1) := by decide +kernel
theorem dX3_wordsShown_18 : decode cX3_wordsShown 18 = .ok (.getfield 19, 3) := by decide +kernel
theorem dX3_wordsShown_21 : decode cX3_wordsShown 21 = .ok (.laload, 1) := by decide +kernel
theorem dX3_wordsShown_22 : decode cX3_wordsShown 22 = .ok (.goto 4, 3) := by decide +kernel
theorem dX3_wordsShown_25 : decode cX3_wordsShown 25 = .ok (.lconst 0, 1) := by decide +kernel
theorem dX3_wordsShown_26 : decode cX3_wordsShown 26 = .ok (.lstore_n 3, 1) := by decide +kernel
theorem dX3_wordsShown_27 : decode cX3_wordsShown 27 = .ok (.iconst 0, 1) := by decide +kernel
theorem dX3_wordsShown_28 : decode cX3_wordsShown 28 = .ok (.istore 5, 2) := by decide +kernel
theorem dX3_wordsShown_30 : decode cX3_wordsShown 30 = .ok (.iload 5, 2) := by decide +kernel
theorem dX3_wordsShown_32 : decode cX3_wordsShown 32 = .ok (.aload_n 0, 1) := by decide +kernel
theorem dX3_wordsShown_33 : decode cX3_wordsShown 33 = .ok (.getfield 15, 3) := by decide +kernel
theorem dX3_wordsShown_36 : decode cX3_wordsShown 36 = .ok (.getfield 41, 3) := by decide +kernel
theorem dX3_wordsShown_39 : decode cX3_wordsShown 39 = .ok (.if_icmp .ge 35, 3) := by decide +kernel
theorem dX3_wordsShown_42 : decode cX3_wordsShown 42 = .ok (.aload_n 0, 1) := by decide +kernel
theorem dX3_wordsShown_43 : decode cX3_wordsShown 43 = .ok (.aload_n 1, 1) := by decide +kernel
theorem dX3_wordsShown_44 : decode cX3_wordsShown 44 = .ok (.iload 5, 2) := by decide +kernel
theorem dX3_wordsShown_46 : decode cX3_wordsShown 46 = .ok (.iload_n 2, 1) := by decide +kernel
theorem dX3_wordsShown_47 : decode cX3_wordsShown 47 = .ok (.invokevirtual 70, 3) := by decide +kernel
theorem dX3_wordsShown_50 : decode cX3_wordsShown 50 = .ok (.ifCond .eq 18, 3) := by decide +kernel
theorem dX3_wordsShown_53 : decode cX3_wordsShown 53 = .ok (.lload_n 3, 1) := by decide +kernel
theorem dX3_wordsShown_54 : decode cX3_wordsShown 54 = .ok (.lconst 1, 1) := by decide +kernel
theorem dX3_wordsShown_55 : decode cX3_wordsShown 55 = .ok (.aload_n 0, 1) := by decide +kernel
theorem dX3_wordsShown_56 : decode cX3_wordsShown 56 = .ok (.getfield 15, 3) := by decide +kernel
theorem dX3_wordsShown_59 : decode cX3_wordsShown 59 = .ok (.getfield 74, 3) := by decide +kernel
theorem dX3_wordsShown_62 : decode cX3_wordsShown 62 = .ok (.iload 5, 2) := by decide +kernel
theorem dX3_wordsShown_64 : decode cX3_wordsShown 64 = .ok (.iaload, 1) := by decide +kernel
theorem dX3_wordsShown_65 : decode cX3_wordsShown 65 = .ok (.lshl, 1) := by decide +kernel
theorem dX3_wordsShown_66 : decode cX3_wordsShown 66 = .ok (.lor, 1) := by decide +kernel
theorem dX3_wordsShown_67 : decode cX3_wordsShown 67 = .ok (.lstore_n 3, 1) := by decide +kernel
theorem dX3_wordsShown_68 : decode cX3_wordsShown 68 = .ok (.iinc 5 1, 3) := by decide +kernel
theorem dX3_wordsShown_71 : decode cX3_wordsShown 71 = .ok (.goto (-41), 3) := by decide +kernel
theorem dX3_wordsShown_74 : decode cX3_wordsShown 74 = .ok (.lload_n 3, 1) := by decide +kernel
theorem dX3_wordsShown_75 : decode cX3_wordsShown 75 = .ok (.lreturn, 1) := by decide +kernel
theorem dX3_carriedWeight_0 : decode cX3_carriedWeight 0 = .ok (.iconst 0, 1) := by decide +kernel
theorem dX3_carriedWeight_1 : decode cX3_carriedWeight 1 = .ok (.istore_n 2, 1) := by decide +kernel
theorem dX3_carriedWeight_2 : decode cX3_carriedWeight 2 = .ok (.iconst 0, 1) := by decide +kernel
theorem dX3_carriedWeight_3 : decode cX3_carriedWeight 3 = .ok (.istore_n 3, 1) := by decide +kernel
theorem dX3_carriedWeight_4 : decode cX3_carriedWeight 4 = .ok (.iload_n 3, 1) := by decide +kernel
theorem dX3_carriedWeight_5 : decode cX3_carriedWeight 5 = .ok (.aload_n 0, 1) := by decide +kernel
theorem dX3_carriedWeight_6 : decode cX3_carriedWeight 6 = .ok (.getfield 15, 3) := by decide +kernel
theorem dX3_carriedWeight_9 : decode cX3_carriedWeight 9 = .ok (.getfield 41, 3) := by decide +kernel
theorem dX3_carriedWeight_12 : decode cX3_carriedWeight 12 = .ok (.if_icmp .ge 61, 3) := by decide +kernel
theorem dX3_carriedWeight_15 : decode cX3_carriedWeight 15 = .ok (.aload_n 1, 1) := by decide +kernel
theorem dX3_carriedWeight_16 : decode cX3_carriedWeight 16 = .ok (.getfield 25, 3) := by decide +kernel
theorem dX3_carriedWeight_19 : decode cX3_carriedWeight 19 = .ok (.iload_n 3, 1) := by decide +kernel
theorem dX3_carriedWeight_20 : decode cX3_carriedWeight 20 = .ok (.iaload, 1) := by decide +kernel
theorem dX3_carriedWeight_21 : decode cX3_carriedWeight 21 = .ok (.sipush 200, 3) := by decide +kernel
theorem dX3_carriedWeight_24 : decode cX3_carriedWeight 24 = .ok (.isub, 1) := by decide +kernel
theorem dX3_carriedWeight_25 : decode cX3_carriedWeight 25 = .ok (.istore 4, 2) := by decide +kernel
theorem dX3_carriedWeight_27 : decode cX3_carriedWeight 27 = .ok (.aload_n 1, 1) := by decide +kernel
theorem dX3_carriedWeight_28 : decode cX3_carriedWeight 28 = .ok (.getfield 25, 3) := by decide +kernel
theorem dX3_carriedWeight_31 : decode cX3_carriedWeight 31 = .ok (.aload_n 0, 1) := by decide +kernel
theorem dX3_carriedWeight_32 : decode cX3_carriedWeight 32 = .ok (.getfield 15, 3) := by decide +kernel
theorem dX3_carriedWeight_35 : decode cX3_carriedWeight 35 = .ok (.iload 4, 2) := by decide +kernel
theorem dX3_carriedWeight_37 : decode cX3_carriedWeight 37 = .ok (.invokevirtual 77, 3) := by decide +kernel
theorem dX3_carriedWeight_40 : decode cX3_carriedWeight 40 = .ok (.ifCond .eq 8, 3) := by decide +kernel
theorem dX3_carriedWeight_43 : decode cX3_carriedWeight 43 = .ok (.iload 4, 2) := by decide +kernel
theorem dX3_carriedWeight_45 : decode cX3_carriedWeight 45 = .ok (.goto 4, 3) := by decide +kernel
theorem dX3_carriedWeight_48 : decode cX3_carriedWeight 48 = .ok (.iload_n 3, 1) := by decide +kernel
theorem dX3_carriedWeight_49 : decode cX3_carriedWeight 49 = .ok (.iaload, 1) := by decide +kernel
theorem dX3_carriedWeight_50 : decode cX3_carriedWeight 50 = .ok (.bipush 100, 2) := by decide +kernel
theorem dX3_carriedWeight_52 : decode cX3_carriedWeight 52 = .ok (.if_icmp .ne 15, 3) := by decide +kernel
theorem dX3_carriedWeight_55 : decode cX3_carriedWeight 55 = .ok (.iload_n 2, 1) := by decide +kernel
theorem dX3_carriedWeight_56 : decode cX3_carriedWeight 56 = .ok (.aload_n 0, 1) := by decide +kernel
theorem dX3_carriedWeight_57 : decode cX3_carriedWeight 57 = .ok (.getfield 15, 3) := by decide +kernel
theorem dX3_carriedWeight_60 : decode cX3_carriedWeight 60 = .ok (.getfield 81, 3) := by decide +kernel
theorem dX3_carriedWeight_63 : decode cX3_carriedWeight 63 = .ok (.iload_n 3, 1) := by decide +kernel
theorem dX3_carriedWeight_64 : decode cX3_carriedWeight 64 = .ok (.iaload, 1) := by decide +kernel
theorem dX3_carriedWeight_65 : decode cX3_carriedWeight 65 = .ok (.iadd, 1) := by decide +kernel
theorem dX3_carriedWeight_66 : decode cX3_carriedWeight 66 = .ok (.istore_n 2, 1) := by decide +kernel
theorem dX3_carriedWeight_67 : decode cX3_carriedWeight 67 = .ok (.iinc 3 1, 3) := by decide +kernel
theorem dX3_carriedWeight_70 : decode cX3_carriedWeight 70 = .ok (.goto (-66), 3) := by decide +kernel
theorem dX3_carriedWeight_73 : decode cX3_carriedWeight 73 = .ok (.iload_n 2, 1) := by decide +kernel
theorem dX3_carriedWeight_74 : decode cX3_carriedWeight 74 = .ok (.ireturn, 1) := by decide +kernel
theorem dX3_countIn_0 : decode cX3_countIn 0 = .ok (.iconst 0, 1) := by decide +kernel
theorem dX3_countIn_1 : decode cX3_countIn 1 = .ok (.istore_n 3, 1) := by decide +kernel
theorem dX3_countIn_2 : decode cX3_countIn 2 = .ok (.iconst 0, 1) := by decide +kernel
theorem dX3_countIn_3 : decode cX3_countIn 3 = .ok (.istore 4, 2) := by decide +kernel
theorem dX3_countIn_5 : decode cX3_countIn 5 = .ok (.iload 4, 2) := by decide +kernel
theorem dX3_countIn_7 : decode cX3_countIn 7 = .ok (.aload_n 0, 1) := by decide +kernel
theorem dX3_countIn_8 : decode cX3_countIn 8 = .ok (.getfield 15, 3) := by decide +kernel
theorem dX3_countIn_11 : decode cX3_countIn 11 = .ok (.getfield 41, 3) := by decide +kernel
theorem dX3_countIn_14 : decode cX3_countIn 14 = .ok (.if_icmp .ge 27, 3) := by decide +kernel
theorem dX3_countIn_17 : decode cX3_countIn 17 = .ok (.aload_n 1, 1) := by decide +kernel
theorem dX3_countIn_18 : decode cX3_countIn 18 = .ok (.getfield 25, 3) := by decide +kernel
theorem dX3_countIn_21 : decode cX3_countIn 21 = .ok (.iload 4, 2) := by decide +kernel
theorem dX3_countIn_23 : decode cX3_countIn 23 = .ok (.iaload, 1) := by decide +kernel
theorem dX3_countIn_24 : decode cX3_countIn 24 = .ok (.sipush 200, 3) := by decide +kernel
theorem dX3_countIn_27 : decode cX3_countIn 27 = .ok (.iload_n 2, 1) := by decide +kernel
theorem dX3_countIn_28 : decode cX3_countIn 28 = .ok (.iadd, 1) := by decide +kernel
theorem dX3_countIn_29 : decode cX3_countIn 29 = .ok (.if_icmp .ne 6, 3) := by decide +kernel
theorem dX3_countIn_32 : decode cX3_countIn 32 = .ok (.iinc 3 1, 3) := by decide +kernel
theorem dX3_countIn_35 : decode cX3_countIn 35 = .ok (.iinc 4 1, 3) := by decide +kernel
theorem dX3_countIn_38 : decode cX3_countIn 38 = .ok (.goto (-33), 3) := by decide +kernel
theorem dX3_countIn_41 : decode cX3_countIn 41 = .ok (.iload_n 3, 1) := by decide +kernel
theorem dX3_countIn_42 : decode cX3_countIn 42 = .ok (.ireturn, 1) := by decide +kernel
theorem dX3_goalsReached_0 : decode cX3_goalsReached 0 = .ok (.iconst 0, 1) := by decide +kernel
theorem dX3_goalsReached_1 : decode cX3_goalsReached 1 = .ok (.istore_n 2, 1) := by decide +kernel
theorem dX3_goalsReached_2 : decode cX3_goalsReached 2 = .ok (.iconst 0, 1) := by decide +kernel
theorem dX3_goalsReached_3 : decode cX3_goalsReached 3 = .ok (.istore_n 3, 1) := by decide +kernel
theorem dX3_goalsReached_4 : decode cX3_goalsReached 4 = .ok (.iload_n 3, 1) := by decide +kernel
theorem dX3_goalsReached_5 : decode cX3_goalsReached 5 = .ok (.aload_n 0, 1) := by decide +kernel
theorem dX3_goalsReached_6 : decode cX3_goalsReached 6 = .ok (.getfield 15, 3) := by decide +kernel
theorem dX3_goalsReached_9 : decode cX3_goalsReached 9 = .ok (.getfield 84, 3) := by decide +kernel
theorem dX3_goalsReached_12 : decode cX3_goalsReached 12 = .ok (.if_icmp .ge 38, 3) := by decide +kernel
theorem dX3_goalsReached_15 : decode cX3_goalsReached 15 = .ok (.aload_n 1, 1) := by decide +kernel
theorem dX3_goalsReached_16 : decode cX3_goalsReached 16 = .ok (.getfield 25, 3) := by decide +kernel
theorem dX3_goalsReached_19 : decode cX3_goalsReached 19 = .ok (.aload_n 0, 1) := by decide +kernel
theorem dX3_goalsReached_20 : decode cX3_goalsReached 20 = .ok (.getfield 15, 3) := by decide +kernel
theorem dX3_goalsReached_23 : decode cX3_goalsReached 23 = .ok (.getfield 87, 3) := by decide +kernel
theorem dX3_goalsReached_26 : decode cX3_goalsReached 26 = .ok (.iload_n 3, 1) := by decide +kernel
theorem dX3_goalsReached_27 : decode cX3_goalsReached 27 = .ok (.iaload, 1) := by decide +kernel
theorem dX3_goalsReached_28 : decode cX3_goalsReached 28 = .ok (.iaload, 1) := by decide +kernel
theorem dX3_goalsReached_29 : decode cX3_goalsReached 29 = .ok (.aload_n 0, 1) := by decide +kernel
theorem dX3_goalsReached_30 : decode cX3_goalsReached 30 = .ok (.getfield 15, 3) := by decide +kernel
theorem dX3_goalsReached_33 : decode cX3_goalsReached 33 = .ok (.getfield 90, 3) := by decide +kernel
theorem dX3_goalsReached_36 : decode cX3_goalsReached 36 = .ok (.iload_n 3, 1) := by decide +kernel
theorem dX3_goalsReached_37 : decode cX3_goalsReached 37 = .ok (.iaload, 1) := by decide +kernel
theorem dX3_goalsReached_38 : decode cX3_goalsReached 38 = .ok (.if_icmp .ne 6, 3) := by decide +kernel
theorem dX3_goalsReached_41 : decode cX3_goalsReached 41 = .ok (.iinc 2 1, 3) := by decide +kernel
theorem dX3_goalsReached_44 : decode cX3_goalsReached 44 = .ok (.iinc 3 1, 3) := by decide +kernel
theorem dX3_goalsReached_47 : decode cX3_goalsReached 47 = .ok (.goto (-43), 3) := by decide +kernel
theorem dX3_goalsReached_50 : decode cX3_goalsReached 50 = .ok (.iload_n 2, 1) := by decide +kernel
theorem dX3_goalsReached_51 : decode cX3_goalsReached 51 = .ok (.ireturn, 1) := by decide +kernel
theorem dX3_roomBehind_0 : decode cX3_roomBehind 0 = .ok (.iload_n 2, 1) := by decide +kernel
theorem dX3_roomBehind_1 : decode cX3_roomBehind 1 = .ok (.bipush 6, 2) := by decide +kernel
theorem dX3_roomBehind_3 : decode cX3_roomBehind 3 = .ok (.imul, 1) := by decide +kernel
theorem dX3_roomBehind_4 : decode cX3_roomBehind 4 = .ok (.iload_n 3, 1) := by decide +kernel
theorem dX3_roomBehind_5 : decode cX3_roomBehind 5 = .ok (.iadd, 1) := by decide +kernel
theorem dX3_roomBehind_6 : decode cX3_roomBehind 6 = .ok (.istore 4, 2) := by decide +kernel
theorem dX3_roomBehind_8 : decode cX3_roomBehind 8 = .ok (.aload_n 0, 1) := by decide +kernel
theorem dX3_roomBehind_9 : decode cX3_roomBehind 9 = .ok (.getfield 15, 3) := by decide +kernel
theorem dX3_roomBehind_12 : decode cX3_roomBehind 12 = .ok (.getfield 93, 3) := by decide +kernel
theorem dX3_roomBehind_15 : decode cX3_roomBehind 15 = .ok (.iload 4, 2) := by decide +kernel
theorem dX3_roomBehind_17 : decode cX3_roomBehind 17 = .ok (.iaload, 1) := by decide +kernel
theorem dX3_roomBehind_18 : decode cX3_roomBehind 18 = .ok (.istore 5, 2) := by decide +kernel
theorem dX3_roomBehind_20 : decode cX3_roomBehind 20 = .ok (.iload 5, 2) := by decide +kernel
theorem dX3_roomBehind_22 : decode cX3_roomBehind 22 = .ok (.iconst (-1), 1) := by decide +kernel
theorem dX3_roomBehind_23 : decode cX3_roomBehind 23 = .ok (.if_icmp .eq 15, 3) := by decide +kernel
theorem dX3_roomBehind_26 : decode cX3_roomBehind 26 = .ok (.aload_n 1, 1) := by decide +kernel
theorem dX3_roomBehind_27 : decode cX3_roomBehind 27 = .ok (.getfield 25, 3) := by decide +kernel
theorem dX3_roomBehind_30 : decode cX3_roomBehind 30 = .ok (.iload 5, 2) := by decide +kernel
theorem dX3_roomBehind_32 : decode cX3_roomBehind 32 = .ok (.iaload, 1) := by decide +kernel
theorem dX3_roomBehind_33 : decode cX3_roomBehind 33 = .ok (.bipush 100, 2) := by decide +kernel
theorem dX3_roomBehind_35 : decode cX3_roomBehind 35 = .ok (.if_icmp .ne 16, 3) := by decide +kernel
theorem dX3_roomBehind_38 : decode cX3_roomBehind 38 = .ok (.aload_n 0, 1) := by decide +kernel
theorem dX3_roomBehind_39 : decode cX3_roomBehind 39 = .ok (.getfield 15, 3) := by decide +kernel
theorem dX3_roomBehind_42 : decode cX3_roomBehind 42 = .ok (.getfield 96, 3) := by decide +kernel
theorem dX3_roomBehind_45 : decode cX3_roomBehind 45 = .ok (.iload 4, 2) := by decide +kernel
theorem dX3_roomBehind_47 : decode cX3_roomBehind 47 = .ok (.iaload, 1) := by decide +kernel
theorem dX3_roomBehind_48 : decode cX3_roomBehind 48 = .ok (.goto 4, 3) := by decide +kernel
theorem dX3_roomBehind_51 : decode cX3_roomBehind 51 = .ok (.iconst (-1), 1) := by decide +kernel
theorem dX3_roomBehind_52 : decode cX3_roomBehind 52 = .ok (.ireturn, 1) := by decide +kernel
theorem dX3_distanceTo_0 : decode cX3_distanceTo 0 = .ok (.aload_n 0, 1) := by decide +kernel
theorem dX3_distanceTo_1 : decode cX3_distanceTo 1 = .ok (.getfield 9, 3) := by decide +kernel
theorem dX3_distanceTo_4 : decode cX3_distanceTo 4 = .ok (.iconst (-1), 1) := by decide +kernel
theorem dX3_distanceTo_5 : decode cX3_distanceTo 5 = .ok (.invokestatic 99, 3) := by decide +kernel
theorem dX3_distanceTo_8 : decode cX3_distanceTo 8 = .ok (.aload_n 0, 1) := by decide +kernel
theorem dX3_distanceTo_9 : decode cX3_distanceTo 9 = .ok (.getfield 9, 3) := by decide +kernel
theorem dX3_distanceTo_12 : decode cX3_distanceTo 12 = .ok (.aload_n 1, 1) := by decide +kernel
theorem dX3_distanceTo_13 : decode cX3_distanceTo 13 = .ok (.getfield 19, 3) := by decide +kernel
theorem dX3_distanceTo_16 : decode cX3_distanceTo 16 = .ok (.iconst 0, 1) := by decide +kernel
theorem dX3_distanceTo_17 : decode cX3_distanceTo 17 = .ok (.iastore, 1) := by decide +kernel
theorem dX3_distanceTo_18 : decode cX3_distanceTo 18 = .ok (.iconst 0, 1) := by decide +kernel
theorem dX3_distanceTo_19 : decode cX3_distanceTo 19 = .ok (.istore_n 3, 1) := by decide +kernel
theorem dX3_distanceTo_20 : decode cX3_distanceTo 20 = .ok (.iload_n 3, 1) := by decide +kernel
theorem dX3_distanceTo_21 : decode cX3_distanceTo 21 = .ok (.aload_n 0, 1) := by decide +kernel
theorem dX3_distanceTo_22 : decode cX3_distanceTo 22 = .ok (.getfield 15, 3) := by decide +kernel
theorem dX3_distanceTo_25 : decode cX3_distanceTo 25 = .ok (.getfield 105, 3) := by decide +kernel
theorem dX3_distanceTo_28 : decode cX3_distanceTo 28 = .ok (.if_icmp .ge 25, 3) := by decide +kernel
theorem dX3_distanceTo_31 : decode cX3_distanceTo 31 = .ok (.aload_n 0, 1) := by decide +kernel
theorem dX3_distanceTo_32 : decode cX3_distanceTo 32 = .ok (.getfield 9, 3) := by decide +kernel
theorem dX3_distanceTo_35 : decode cX3_distanceTo 35 = .ok (.iload_n 2, 1) := by decide +kernel
theorem dX3_distanceTo_36 : decode cX3_distanceTo 36 = .ok (.iaload, 1) := by decide +kernel
theorem dX3_distanceTo_37 : decode cX3_distanceTo 37 = .ok (.iconst (-1), 1) := by decide +kernel
theorem dX3_distanceTo_38 : decode cX3_distanceTo 38 = .ok (.if_icmp .ne 15, 3) := by decide +kernel
theorem dX3_distanceTo_41 : decode cX3_distanceTo 41 = .ok (.aload_n 0, 1) := by decide +kernel
theorem dX3_distanceTo_42 : decode cX3_distanceTo 42 = .ok (.aload_n 1, 1) := by decide +kernel
theorem dX3_distanceTo_43 : decode cX3_distanceTo 43 = .ok (.iload_n 3, 1) := by decide +kernel
theorem dX3_distanceTo_44 : decode cX3_distanceTo 44 = .ok (.invokevirtual 108, 3) := by decide +kernel
theorem dX3_distanceTo_47 : decode cX3_distanceTo 47 = .ok (.iinc 3 1, 3) := by decide +kernel
theorem dX3_distanceTo_50 : decode cX3_distanceTo 50 = .ok (.goto (-30), 3) := by decide +kernel
theorem dX3_distanceTo_53 : decode cX3_distanceTo 53 = .ok (.aload_n 0, 1) := by decide +kernel
theorem dX3_distanceTo_54 : decode cX3_distanceTo 54 = .ok (.getfield 9, 3) := by decide +kernel
theorem dX3_distanceTo_57 : decode cX3_distanceTo 57 = .ok (.iload_n 2, 1) := by decide +kernel
theorem dX3_distanceTo_58 : decode cX3_distanceTo 58 = .ok (.iaload, 1) := by decide +kernel
theorem dX3_distanceTo_59 : decode cX3_distanceTo 59 = .ok (.ireturn, 1) := by decide +kernel
theorem dX3_goFurther_0 : decode cX3_goFurther 0 = .ok (.iconst 0, 1) := by decide +kernel
theorem dX3_goFurther_1 : decode cX3_goFurther 1 = .ok (.istore_n 3, 1) := by decide +kernel
theorem dX3_goFurther_2 : decode cX3_goFurther 2 = .ok (.iload_n 3, 1) := by decide +kernel
theorem dX3_goFurther_3 : decode cX3_goFurther 3 = .ok (.aload_n 0, 1) := by decide +kernel
theorem dX3_goFurther_4 : decode cX3_goFurther 4 = .ok (.getfield 15, 3) := by decide +kernel
theorem dX3_goFurther_7 : decode cX3_goFurther 7 = .ok (.getfield 105, 3) := by decide +kernel
theorem dX3_goFurther_10 : decode cX3_goFurther 10 = .ok (.if_icmp .ge 72, 3) := by decide +kernel
theorem dX3_goFurther_13 : decode cX3_goFurther 13 = .ok (.iconst 0, 1) := by decide +kernel
theorem dX3_goFurther_14 : decode cX3_goFurther 14 = .ok (.istore 4, 2) := by decide +kernel
theorem dX3_goFurther_16 : decode cX3_goFurther 16 = .ok (.iload 4, 2) := by decide +kernel
theorem dX3_goFurther_18 : decode cX3_goFurther 18 = .ok (.bipush 6, 2) := by decide +kernel
theorem dX3_goFurther_20 : decode cX3_goFurther 20 = .ok (.if_icmp .ge 56, 3) := by decide +kernel
theorem dX3_goFurther_23 : decode cX3_goFurther 23 = .ok (.aload_n 0, 1) := by decide +kernel
theorem dX3_goFurther_24 : decode cX3_goFurther 24 = .ok (.getfield 9, 3) := by decide +kernel
theorem dX3_goFurther_27 : decode cX3_goFurther 27 = .ok (.iload_n 3, 1) := by decide +kernel
theorem dX3_goFurther_28 : decode cX3_goFurther 28 = .ok (.iaload, 1) := by decide +kernel
theorem dX3_goFurther_29 : decode cX3_goFurther 29 = .ok (.iload_n 2, 1) := by decide +kernel
theorem dX3_goFurther_30 : decode cX3_goFurther 30 = .ok (.if_icmp .ne 46, 3) := by decide +kernel
theorem dX3_goFurther_33 : decode cX3_goFurther 33 = .ok (.aload_n 0, 1) := by decide +kernel
theorem dX3_goFurther_34 : decode cX3_goFurther 34 = .ok (.aload_n 1, 1) := by decide +kernel
theorem dX3_goFurther_35 : decode cX3_goFurther 35 = .ok (.iload_n 3, 1) := by decide +kernel
theorem dX3_goFurther_36 : decode cX3_goFurther 36 = .ok (.iload 4, 2) := by decide +kernel
theorem dX3_goFurther_38 : decode cX3_goFurther 38 = .ok (.invokevirtual 112, 3) := by decide +kernel
theorem dX3_goFurther_41 : decode cX3_goFurther 41 = .ok (.istore 5, 2) := by decide +kernel
theorem dX3_goFurther_43 : decode cX3_goFurther 43 = .ok (.iload 5, 2) := by decide +kernel
theorem dX3_goFurther_45 : decode cX3_goFurther 45 = .ok (.iconst (-1), 1) := by decide +kernel
theorem dX3_goFurther_46 : decode cX3_goFurther 46 = .ok (.if_icmp .eq 24, 3) := by decide +kernel
theorem dX3_goFurther_49 : decode cX3_goFurther 49 = .ok (.aload_n 0, 1) := by decide +kernel
theorem dX3_goFurther_50 : decode cX3_goFurther 50 = .ok (.getfield 9, 3) := by decide +kernel
theorem dX3_goFurther_53 : decode cX3_goFurther 53 = .ok (.iload 5, 2) := by decide +kernel
theorem dX3_goFurther_55 : decode cX3_goFurther 55 = .ok (.iaload, 1) := by decide +kernel
theorem dX3_goFurther_56 : decode cX3_goFurther 56 = .ok (.iconst (-1), 1) := by decide +kernel
theorem dX3_goFurther_57 : decode cX3_goFurther 57 = .ok (.if_icmp .ne 13, 3) := by decide +kernel
theorem dX3_goFurther_60 : decode cX3_goFurther 60 = .ok (.aload_n 0, 1) := by decide +kernel
theorem dX3_goFurther_61 : decode cX3_goFurther 61 = .ok (.getfield 9, 3) := by decide +kernel
theorem dX3_goFurther_64 : decode cX3_goFurther 64 = .ok (.iload 5, 2) := by decide +kernel
theorem dX3_goFurther_66 : decode cX3_goFurther 66 = .ok (.iload_n 2, 1) := by decide +kernel
theorem dX3_goFurther_67 : decode cX3_goFurther 67 = .ok (.iconst 1, 1) := by decide +kernel
theorem dX3_goFurther_68 : decode cX3_goFurther 68 = .ok (.iadd, 1) := by decide +kernel
theorem dX3_goFurther_69 : decode cX3_goFurther 69 = .ok (.iastore, 1) := by decide +kernel
theorem dX3_goFurther_70 : decode cX3_goFurther 70 = .ok (.iinc 4 1, 3) := by decide +kernel
theorem dX3_goFurther_73 : decode cX3_goFurther 73 = .ok (.goto (-57), 3) := by decide +kernel
theorem dX3_goFurther_76 : decode cX3_goFurther 76 = .ok (.iinc 3 1, 3) := by decide +kernel
theorem dX3_goFurther_79 : decode cX3_goFurther 79 = .ok (.goto (-77), 3) := by decide +kernel
theorem dX3_goFurther_82 : decode cX3_goFurther 82 = .ok (.return_, 1) := by decide +kernel
theorem dX3_perform_0 : decode cX3_perform 0 = .ok (.aload_n 2, 1) := by decide +kernel
theorem dX3_perform_1 : decode cX3_perform 1 = .ok (.getfield 116, 3) := by decide +kernel
theorem dX3_perform_4 : decode cX3_perform 4 = .ok (.getstatic 122, 3) := by decide +kernel
theorem dX3_perform_7 : decode cX3_perform 7 = .ok (.if_acmp .ne 13, 3) := by decide +kernel
theorem dX3_perform_10 : decode cX3_perform 10 = .ok (.aload_n 0, 1) := by decide +kernel
theorem dX3_perform_11 : decode cX3_perform 11 = .ok (.aload_n 1, 1) := by decide +kernel
theorem dX3_perform_12 : decode cX3_perform 12 = .ok (.aload_n 2, 1) := by decide +kernel
theorem dX3_perform_13 : decode cX3_perform 13 = .ok (.getfield 127, 3) := by decide +kernel
theorem dX3_perform_16 : decode cX3_perform 16 = .ok (.invokevirtual 130, 3) := by decide +kernel
theorem dX3_perform_19 : decode cX3_perform 19 = .ok (.ireturn, 1) := by decide +kernel
theorem dX3_perform_20 : decode cX3_perform 20 = .ok (.aload_n 2, 1) := by decide +kernel
theorem dX3_perform_21 : decode cX3_perform 21 = .ok (.getfield 116, 3) := by decide +kernel
theorem dX3_perform_24 : decode cX3_perform 24 = .ok (.getfield 133, 3) := by decide +kernel
theorem dX3_perform_27 : decode cX3_perform 27 = .ok (.ifCond .ne 5, 3) := by decide +kernel
theorem dX3_perform_30 : decode cX3_perform 30 = .ok (.iconst 1, 1) := by decide +kernel
theorem dX3_perform_31 : decode cX3_perform 31 = .ok (.ireturn, 1) := by decide +kernel
theorem dX3_perform_32 : decode cX3_perform 32 = .ok (.aload_n 0, 1) := by decide +kernel
theorem dX3_perform_33 : decode cX3_perform 33 = .ok (.aload_n 1, 1) := by decide +kernel
theorem dX3_perform_34 : decode cX3_perform 34 = .ok (.invokevirtual 62, 3) := by decide +kernel
theorem dX3_perform_37 : decode cX3_perform 37 = .ok (.istore_n 3, 1) := by decide +kernel
theorem dX3_perform_38 : decode cX3_perform 38 = .ok (.aload_n 0, 1) := by decide +kernel
theorem dX3_perform_39 : decode cX3_perform 39 = .ok (.getfield 15, 3) := by decide +kernel
theorem dX3_perform_42 : decode cX3_perform 42 = .ok (.aload_n 2, 1) := by decide +kernel
theorem dX3_perform_43 : decode cX3_perform 43 = .ok (.getfield 127, 3) := by decide +kernel
theorem dX3_perform_46 : decode cX3_perform 46 = .ok (.invokevirtual 135, 3) := by decide +kernel
theorem dX3_perform_49 : decode cX3_perform 49 = .ok (.istore 4, 2) := by decide +kernel
theorem dX3_perform_51 : decode cX3_perform 51 = .ok (.iload 4, 2) := by decide +kernel
theorem dX3_perform_53 : decode cX3_perform 53 = .ok (.iconst (-1), 1) := by decide +kernel
theorem dX3_perform_54 : decode cX3_perform 54 = .ok (.if_icmp .eq 14, 3) := by decide +kernel
theorem dX3_perform_57 : decode cX3_perform 57 = .ok (.aload_n 0, 1) := by decide +kernel
theorem dX3_perform_58 : decode cX3_perform 58 = .ok (.aload_n 1, 1) := by decide +kernel
theorem dX3_perform_59 : decode cX3_perform 59 = .ok (.iload 4, 2) := by decide +kernel
theorem dX3_perform_61 : decode cX3_perform 61 = .ok (.iload_n 3, 1) := by decide +kernel
theorem dX3_perform_62 : decode cX3_perform 62 = .ok (.invokevirtual 70, 3) := by decide +kernel
theorem dX3_perform_65 : decode cX3_perform 65 = .ok (.ifCond .ne 5, 3) := by decide +kernel
theorem dX3_perform_68 : decode cX3_perform 68 = .ok (.iconst 0, 1) := by decide +kernel
theorem dX3_perform_69 : decode cX3_perform 69 = .ok (.ireturn, 1) := by decide +kernel
theorem dX3_perform_70 : decode cX3_perform 70 = .ok (.aload_n 2, 1) := by decide +kernel
theorem dX3_perform_71 : decode cX3_perform 71 = .ok (.getfield 116, 3) := by decide +kernel
theorem dX3_perform_74 : decode cX3_perform 74 = .ok (.getfield 133, 3) := by decide +kernel
theorem dX3_perform_77 : decode cX3_perform 77 = .ok (.iconst 1, 1) := by decide +kernel
theorem dX3_perform_78 : decode cX3_perform 78 = .ok (.if_icmp .ne 15, 3) := by decide +kernel
theorem dX3_perform_81 : decode cX3_perform 81 = .ok (.aload_n 0, 1) := by decide +kernel
theorem dX3_perform_82 : decode cX3_perform 82 = .ok (.aload_n 1, 1) := by decide +kernel
theorem dX3_perform_83 : decode cX3_perform 83 = .ok (.aload_n 2, 1) := by decide +kernel
theorem dX3_perform_84 : decode cX3_perform 84 = .ok (.getfield 116, 3) := by decide +kernel
theorem dX3_perform_87 : decode cX3_perform 87 = .ok (.iload 4, 2) := by decide +kernel
theorem dX3_perform_89 : decode cX3_perform 89 = .ok (.invokevirtual 139, 3) := by decide +kernel
theorem dX3_perform_92 : decode cX3_perform 92 = .ok (.ireturn, 1) := by decide +kernel
theorem dX3_perform_93 : decode cX3_perform 93 = .ok (.aload_n 0, 1) := by decide +kernel
theorem dX3_perform_94 : decode cX3_perform 94 = .ok (.getfield 15, 3) := by decide +kernel
theorem dX3_perform_97 : decode cX3_perform 97 = .ok (.aload_n 2, 1) := by decide +kernel
theorem dX3_perform_98 : decode cX3_perform 98 = .ok (.getfield 143, 3) := by decide +kernel
theorem dX3_perform_101 : decode cX3_perform 101 = .ok (.invokevirtual 135, 3) := by decide +kernel
theorem dX3_perform_104 : decode cX3_perform 104 = .ok (.istore 5, 2) := by decide +kernel
theorem dX3_perform_106 : decode cX3_perform 106 = .ok (.iload 5, 2) := by decide +kernel
theorem dX3_perform_108 : decode cX3_perform 108 = .ok (.iconst (-1), 1) := by decide +kernel
theorem dX3_perform_109 : decode cX3_perform 109 = .ok (.if_icmp .eq 30, 3) := by decide +kernel
theorem dX3_perform_112 : decode cX3_perform 112 = .ok (.aload_n 0, 1) := by decide +kernel
theorem dX3_perform_113 : decode cX3_perform 113 = .ok (.aload_n 1, 1) := by decide +kernel
theorem dX3_perform_114 : decode cX3_perform 114 = .ok (.iload 5, 2) := by decide +kernel
theorem dX3_perform_116 : decode cX3_perform 116 = .ok (.iload_n 3, 1) := by decide +kernel
theorem dX3_perform_117 : decode cX3_perform 117 = .ok (.invokevirtual 70, 3) := by decide +kernel
theorem dX3_perform_120 : decode cX3_perform 120 = .ok (.ifCond .eq 19, 3) := by decide +kernel
theorem dX3_perform_123 : decode cX3_perform 123 = .ok (.aload_n 0, 1) := by decide +kernel
theorem dX3_perform_124 : decode cX3_perform 124 = .ok (.aload_n 1, 1) := by decide +kernel
theorem dX3_perform_125 : decode cX3_perform 125 = .ok (.iload 4, 2) := by decide +kernel
theorem dX3_perform_127 : decode cX3_perform 127 = .ok (.iload 5, 2) := by decide +kernel
theorem dX3_perform_129 : decode cX3_perform 129 = .ok (.invokevirtual 146, 3) := by decide +kernel
theorem dX3_perform_132 : decode cX3_perform 132 = .ok (.ifCond .eq 7, 3) := by decide +kernel
theorem dX3_perform_135 : decode cX3_perform 135 = .ok (.iconst 1, 1) := by decide +kernel
theorem dX3_perform_136 : decode cX3_perform 136 = .ok (.goto 4, 3) := by decide +kernel
theorem dX3_perform_139 : decode cX3_perform 139 = .ok (.iconst 0, 1) := by decide +kernel
theorem dX3_perform_140 : decode cX3_perform 140 = .ok (.ireturn, 1) := by decide +kernel
theorem dX3_move_0 : decode cX3_move 0 = .ok (.aload_n 0, 1) := by decide +kernel
theorem dX3_move_1 : decode cX3_move 1 = .ok (.aload_n 1, 1) := by decide +kernel
theorem dX3_move_2 : decode cX3_move 2 = .ok (.aload_n 1, 1) := by decide +kernel
theorem dX3_move_3 : decode cX3_move 3 = .ok (.getfield 19, 3) := by decide +kernel
theorem dX3_move_6 : decode cX3_move 6 = .ok (.iload_n 2, 1) := by decide +kernel
theorem dX3_move_7 : decode cX3_move 7 = .ok (.invokevirtual 112, 3) := by decide +kernel
theorem dX3_move_10 : decode cX3_move 10 = .ok (.istore_n 3, 1) := by decide +kernel
theorem dX3_move_11 : decode cX3_move 11 = .ok (.iload_n 3, 1) := by decide +kernel
theorem dX3_move_12 : decode cX3_move 12 = .ok (.iconst (-1), 1) := by decide +kernel
theorem dX3_move_13 : decode cX3_move 13 = .ok (.if_icmp .ne 5, 3) := by decide +kernel
theorem dX3_move_16 : decode cX3_move 16 = .ok (.iconst 0, 1) := by decide +kernel
theorem dX3_move_17 : decode cX3_move 17 = .ok (.ireturn, 1) := by decide +kernel
theorem dX3_move_18 : decode cX3_move 18 = .ok (.aload_n 1, 1) := by decide +kernel
theorem dX3_move_19 : decode cX3_move 19 = .ok (.iload_n 3, 1) := by decide +kernel
theorem dX3_move_20 : decode cX3_move 20 = .ok (.putfield 19, 3) := by decide +kernel
theorem dX3_move_23 : decode cX3_move 23 = .ok (.iconst 1, 1) := by decide +kernel
theorem dX3_move_24 : decode cX3_move 24 = .ok (.ireturn, 1) := by decide +kernel
theorem dX3_handle_0 : decode cX3_handle 0 = .ok (.getstatic 150, 3) := by decide +kernel
theorem dX3_handle_3 : decode cX3_handle 3 = .ok (.aload_n 2, 1) := by decide +kernel
theorem dX3_handle_4 : decode cX3_handle 4 = .ok (.invokevirtual 155, 3) := by decide +kernel
theorem dX3_handle_7 : decode cX3_handle 7 = .ok (.iaload, 1) := by decide +kernel
theorem dX3_handle_8 : decode cX3_handle 8 = .ok (.tableswitch 111 1 6 #[40, 47, 54, 64, 74, 101], 40) := by decide +kernel
theorem dX3_handle_48 : decode cX3_handle 48 = .ok (.aload_n 0, 1) := by decide +kernel
theorem dX3_handle_49 : decode cX3_handle 49 = .ok (.aload_n 1, 1) := by decide +kernel
theorem dX3_handle_50 : decode cX3_handle 50 = .ok (.iload_n 3, 1) := by decide +kernel
theorem dX3_handle_51 : decode cX3_handle 51 = .ok (.invokevirtual 159, 3) := by decide +kernel
theorem dX3_handle_54 : decode cX3_handle 54 = .ok (.ireturn, 1) := by decide +kernel
theorem dX3_handle_55 : decode cX3_handle 55 = .ok (.aload_n 0, 1) := by decide +kernel
theorem dX3_handle_56 : decode cX3_handle 56 = .ok (.aload_n 1, 1) := by decide +kernel
theorem dX3_handle_57 : decode cX3_handle 57 = .ok (.iload_n 3, 1) := by decide +kernel
theorem dX3_handle_58 : decode cX3_handle 58 = .ok (.invokevirtual 162, 3) := by decide +kernel
theorem dX3_handle_61 : decode cX3_handle 61 = .ok (.ireturn, 1) := by decide +kernel
theorem dX3_handle_62 : decode cX3_handle 62 = .ok (.aload_n 0, 1) := by decide +kernel
theorem dX3_handle_63 : decode cX3_handle 63 = .ok (.aload_n 1, 1) := by decide +kernel
theorem dX3_handle_64 : decode cX3_handle 64 = .ok (.iload_n 3, 1) := by decide +kernel
theorem dX3_handle_65 : decode cX3_handle 65 = .ok (.bipush 98, 2) := by decide +kernel
theorem dX3_handle_67 : decode cX3_handle 67 = .ok (.iconst 1, 1) := by decide +kernel
theorem dX3_handle_68 : decode cX3_handle 68 = .ok (.invokevirtual 165, 3) := by decide +kernel
theorem dX3_handle_71 : decode cX3_handle 71 = .ok (.ireturn, 1) := by decide +kernel
theorem dX3_handle_72 : decode cX3_handle 72 = .ok (.aload_n 0, 1) := by decide +kernel
theorem dX3_handle_73 : decode cX3_handle 73 = .ok (.aload_n 1, 1) := by decide +kernel
theorem dX3_handle_74 : decode cX3_handle 74 = .ok (.iload_n 3, 1) := by decide +kernel
theorem dX3_handle_75 : decode cX3_handle 75 = .ok (.bipush 98, 2) := by decide +kernel
theorem dX3_handle_77 : decode cX3_handle 77 = .ok (.iconst 0, 1) := by decide +kernel
theorem dX3_handle_78 : decode cX3_handle 78 = .ok (.invokevirtual 165, 3) := by decide +kernel
theorem dX3_handle_81 : decode cX3_handle 81 = .ok (.ireturn, 1) := by decide +kernel
theorem dX3_handle_82 : decode cX3_handle 82 = .ok (.aload_n 1, 1) := by decide +kernel
theorem dX3_handle_83 : decode cX3_handle 83 = .ok (.getfield 33, 3) := by decide +kernel
theorem dX3_handle_86 : decode cX3_handle 86 = .ok (.iload_n 3, 1) := by decide +kernel
theorem dX3_handle_87 : decode cX3_handle 87 = .ok (.iaload, 1) := by decide +kernel
theorem dX3_handle_88 : decode cX3_handle 88 = .ok (.ifCond .le 19, 3) := by decide +kernel
theorem dX3_handle_91 : decode cX3_handle 91 = .ok (.aload_n 0, 1) := by decide +kernel
theorem dX3_handle_92 : decode cX3_handle 92 = .ok (.aload_n 1, 1) := by decide +kernel
theorem dX3_handle_93 : decode cX3_handle 93 = .ok (.iload_n 3, 1) := by decide +kernel
theorem dX3_handle_94 : decode cX3_handle 94 = .ok (.bipush 108, 2) := by decide +kernel
theorem dX3_handle_96 : decode cX3_handle 96 = .ok (.iconst 1, 1) := by decide +kernel
theorem dX3_handle_97 : decode cX3_handle 97 = .ok (.invokevirtual 165, 3) := by decide +kernel
theorem dX3_handle_100 : decode cX3_handle 100 = .ok (.ifCond .eq 7, 3) := by decide +kernel
theorem dX3_handle_103 : decode cX3_handle 103 = .ok (.iconst 1, 1) := by decide +kernel
theorem dX3_handle_104 : decode cX3_handle 104 = .ok (.goto 4, 3) := by decide +kernel
theorem dX3_handle_107 : decode cX3_handle 107 = .ok (.iconst 0, 1) := by decide +kernel
theorem dX3_handle_108 : decode cX3_handle 108 = .ok (.ireturn, 1) := by decide +kernel
theorem dX3_handle_109 : decode cX3_handle 109 = .ok (.aload_n 0, 1) := by decide +kernel
theorem dX3_handle_110 : decode cX3_handle 110 = .ok (.aload_n 1, 1) := by decide +kernel
theorem dX3_handle_111 : decode cX3_handle 111 = .ok (.iload_n 3, 1) := by decide +kernel
theorem dX3_handle_112 : decode cX3_handle 112 = .ok (.bipush 108, 2) := by decide +kernel
theorem dX3_handle_114 : decode cX3_handle 114 = .ok (.iconst 0, 1) := by decide +kernel
theorem dX3_handle_115 : decode cX3_handle 115 = .ok (.invokevirtual 165, 3) := by decide +kernel
theorem dX3_handle_118 : decode cX3_handle 118 = .ok (.ireturn, 1) := by decide +kernel
theorem dX3_handle_119 : decode cX3_handle 119 = .ok (.iconst 1, 1) := by decide +kernel
theorem dX3_handle_120 : decode cX3_handle 120 = .ok (.ireturn, 1) := by decide +kernel
theorem dX3_pickUp_0 : decode cX3_pickUp 0 = .ok (.aload_n 1, 1) := by decide +kernel
theorem dX3_pickUp_1 : decode cX3_pickUp 1 = .ok (.getfield 25, 3) := by decide +kernel
theorem dX3_pickUp_4 : decode cX3_pickUp 4 = .ok (.iload_n 2, 1) := by decide +kernel
theorem dX3_pickUp_5 : decode cX3_pickUp 5 = .ok (.iaload, 1) := by decide +kernel
theorem dX3_pickUp_6 : decode cX3_pickUp 6 = .ok (.istore_n 3, 1) := by decide +kernel
theorem dX3_pickUp_7 : decode cX3_pickUp 7 = .ok (.iload_n 3, 1) := by decide +kernel
theorem dX3_pickUp_8 : decode cX3_pickUp 8 = .ok (.bipush 100, 2) := by decide +kernel
theorem dX3_pickUp_10 : decode cX3_pickUp 10 = .ok (.if_icmp .ne 5, 3) := by decide +kernel
theorem dX3_pickUp_13 : decode cX3_pickUp 13 = .ok (.iconst 0, 1) := by decide +kernel
theorem dX3_pickUp_14 : decode cX3_pickUp 14 = .ok (.ireturn, 1) := by decide +kernel
theorem dX3_pickUp_15 : decode cX3_pickUp 15 = .ok (.aload_n 1, 1) := by decide +kernel
theorem dX3_pickUp_16 : decode cX3_pickUp 16 = .ok (.getfield 25, 3) := by decide +kernel
theorem dX3_pickUp_19 : decode cX3_pickUp 19 = .ok (.iload_n 2, 1) := by decide +kernel
theorem dX3_pickUp_20 : decode cX3_pickUp 20 = .ok (.bipush 100, 2) := by decide +kernel
theorem dX3_pickUp_22 : decode cX3_pickUp 22 = .ok (.iastore, 1) := by decide +kernel
theorem dX3_pickUp_23 : decode cX3_pickUp 23 = .ok (.aload_n 0, 1) := by decide +kernel
theorem dX3_pickUp_24 : decode cX3_pickUp 24 = .ok (.aload_n 1, 1) := by decide +kernel
theorem dX3_pickUp_25 : decode cX3_pickUp 25 = .ok (.invokevirtual 169, 3) := by decide +kernel
theorem dX3_pickUp_28 : decode cX3_pickUp 28 = .ok (.bipush 12, 2) := by decide +kernel
theorem dX3_pickUp_30 : decode cX3_pickUp 30 = .ok (.if_icmp .gt 5, 3) := by decide +kernel
theorem dX3_pickUp_33 : decode cX3_pickUp 33 = .ok (.iconst 1, 1) := by decide +kernel
theorem dX3_pickUp_34 : decode cX3_pickUp 34 = .ok (.ireturn, 1) := by decide +kernel
theorem dX3_pickUp_35 : decode cX3_pickUp 35 = .ok (.aload_n 1, 1) := by decide +kernel
theorem dX3_pickUp_36 : decode cX3_pickUp 36 = .ok (.getfield 25, 3) := by decide +kernel
theorem dX3_pickUp_39 : decode cX3_pickUp 39 = .ok (.iload_n 2, 1) := by decide +kernel
theorem dX3_pickUp_40 : decode cX3_pickUp 40 = .ok (.iload_n 3, 1) := by decide +kernel
theorem dX3_pickUp_41 : decode cX3_pickUp 41 = .ok (.iastore, 1) := by decide +kernel
theorem dX3_pickUp_42 : decode cX3_pickUp 42 = .ok (.iconst 0, 1) := by decide +kernel
theorem dX3_pickUp_43 : decode cX3_pickUp 43 = .ok (.ireturn, 1) := by decide +kernel
theorem dX3_layDown_0 : decode cX3_layDown 0 = .ok (.aload_n 1, 1) := by decide +kernel
theorem dX3_layDown_1 : decode cX3_layDown 1 = .ok (.getfield 25, 3) := by decide +kernel
theorem dX3_layDown_4 : decode cX3_layDown 4 = .ok (.iload_n 2, 1) := by decide +kernel
theorem dX3_layDown_5 : decode cX3_layDown 5 = .ok (.iaload, 1) := by decide +kernel
theorem dX3_layDown_6 : decode cX3_layDown 6 = .ok (.bipush 100, 2) := by decide +kernel
theorem dX3_layDown_8 : decode cX3_layDown 8 = .ok (.if_icmp .eq 5, 3) := by decide +kernel
theorem dX3_layDown_11 : decode cX3_layDown 11 = .ok (.iconst 0, 1) := by decide +kernel
theorem dX3_layDown_12 : decode cX3_layDown 12 = .ok (.ireturn, 1) := by decide +kernel
theorem dX3_layDown_13 : decode cX3_layDown 13 = .ok (.aload_n 1, 1) := by decide +kernel
theorem dX3_layDown_14 : decode cX3_layDown 14 = .ok (.getfield 25, 3) := by decide +kernel
theorem dX3_layDown_17 : decode cX3_layDown 17 = .ok (.iload_n 2, 1) := by decide +kernel
theorem dX3_layDown_18 : decode cX3_layDown 18 = .ok (.aload_n 1, 1) := by decide +kernel
theorem dX3_layDown_19 : decode cX3_layDown 19 = .ok (.getfield 19, 3) := by decide +kernel
theorem dX3_layDown_22 : decode cX3_layDown 22 = .ok (.iastore, 1) := by decide +kernel
theorem dX3_layDown_23 : decode cX3_layDown 23 = .ok (.iconst 1, 1) := by decide +kernel
theorem dX3_layDown_24 : decode cX3_layDown 24 = .ok (.ireturn, 1) := by decide +kernel
theorem dX3_turn_0 : decode cX3_turn 0 = .ok (.aload_n 0, 1) := by decide +kernel
theorem dX3_turn_1 : decode cX3_turn 1 = .ok (.getfield 15, 3) := by decide +kernel
theorem dX3_turn_4 : decode cX3_turn 4 = .ok (.getfield 51, 3) := by decide +kernel
theorem dX3_turn_7 : decode cX3_turn 7 = .ok (.iload_n 2, 1) := by decide +kernel
theorem dX3_turn_8 : decode cX3_turn 8 = .ok (.caload, 1) := by decide +kernel
theorem dX3_turn_9 : decode cX3_turn 9 = .ok (.iload_n 3, 1) := by decide +kernel
theorem dX3_turn_10 : decode cX3_turn 10 = .ok (.if_icmp .ne 14, 3) := by decide +kernel
theorem dX3_turn_13 : decode cX3_turn 13 = .ok (.aload_n 1, 1) := by decide +kernel
theorem dX3_turn_14 : decode cX3_turn 14 = .ok (.getfield 37, 3) := by decide +kernel
theorem dX3_turn_17 : decode cX3_turn 17 = .ok (.iload_n 2, 1) := by decide +kernel
theorem dX3_turn_18 : decode cX3_turn 18 = .ok (.baload, 1) := by decide +kernel
theorem dX3_turn_19 : decode cX3_turn 19 = .ok (.iload 4, 2) := by decide +kernel
theorem dX3_turn_21 : decode cX3_turn 21 = .ok (.if_icmp .ne 5, 3) := by decide +kernel
theorem dX3_turn_24 : decode cX3_turn 24 = .ok (.iconst 0, 1) := by decide +kernel
theorem dX3_turn_25 : decode cX3_turn 25 = .ok (.ireturn, 1) := by decide +kernel
theorem dX3_turn_26 : decode cX3_turn 26 = .ok (.aload_n 1, 1) := by decide +kernel
theorem dX3_turn_27 : decode cX3_turn 27 = .ok (.getfield 37, 3) := by decide +kernel
theorem dX3_turn_30 : decode cX3_turn 30 = .ok (.iload_n 2, 1) := by decide +kernel
theorem dX3_turn_31 : decode cX3_turn 31 = .ok (.iload 4, 2) := by decide +kernel
theorem dX3_turn_33 : decode cX3_turn 33 = .ok (.bastore, 1) := by decide +kernel
theorem dX3_turn_34 : decode cX3_turn 34 = .ok (.iconst 1, 1) := by decide +kernel
theorem dX3_turn_35 : decode cX3_turn 35 = .ok (.ireturn, 1) := by decide +kernel
theorem dX3_stow_0 : decode cX3_stow 0 = .ok (.aload_n 1, 1) := by decide +kernel
theorem dX3_stow_1 : decode cX3_stow 1 = .ok (.getfield 25, 3) := by decide +kernel
theorem dX3_stow_4 : decode cX3_stow 4 = .ok (.iload_n 2, 1) := by decide +kernel
theorem dX3_stow_5 : decode cX3_stow 5 = .ok (.iaload, 1) := by decide +kernel
theorem dX3_stow_6 : decode cX3_stow 6 = .ok (.bipush 100, 2) := by decide +kernel
theorem dX3_stow_8 : decode cX3_stow 8 = .ok (.if_icmp .ne 21, 3) := by decide +kernel
theorem dX3_stow_11 : decode cX3_stow 11 = .ok (.aload_n 0, 1) := by decide +kernel
theorem dX3_stow_12 : decode cX3_stow 12 = .ok (.getfield 15, 3) := by decide +kernel
theorem dX3_stow_15 : decode cX3_stow 15 = .ok (.getfield 51, 3) := by decide +kernel
theorem dX3_stow_18 : decode cX3_stow 18 = .ok (.iload_n 2, 1) := by decide +kernel
theorem dX3_stow_19 : decode cX3_stow 19 = .ok (.caload, 1) := by decide +kernel
theorem dX3_stow_20 : decode cX3_stow 20 = .ok (.bipush 98, 2) := by decide +kernel
theorem dX3_stow_22 : decode cX3_stow 22 = .ok (.if_icmp .eq 7, 3) := by decide +kernel
theorem dX3_stow_25 : decode cX3_stow 25 = .ok (.iconst 1, 1) := by decide +kernel
theorem dX3_stow_26 : decode cX3_stow 26 = .ok (.goto 4, 3) := by decide +kernel
theorem dX3_stow_29 : decode cX3_stow 29 = .ok (.iconst 0, 1) := by decide +kernel
theorem dX3_stow_30 : decode cX3_stow 30 = .ok (.istore 4, 2) := by decide +kernel
theorem dX3_stow_32 : decode cX3_stow 32 = .ok (.aload_n 0, 1) := by decide +kernel
theorem dX3_stow_33 : decode cX3_stow 33 = .ok (.getfield 15, 3) := by decide +kernel
theorem dX3_stow_36 : decode cX3_stow 36 = .ok (.getfield 51, 3) := by decide +kernel
theorem dX3_stow_39 : decode cX3_stow 39 = .ok (.iload_n 3, 1) := by decide +kernel
theorem dX3_stow_40 : decode cX3_stow 40 = .ok (.caload, 1) := by decide +kernel
theorem dX3_stow_41 : decode cX3_stow 41 = .ok (.bipush 98, 2) := by decide +kernel
theorem dX3_stow_43 : decode cX3_stow 43 = .ok (.if_icmp .ne 26, 3) := by decide +kernel
theorem dX3_stow_46 : decode cX3_stow 46 = .ok (.aload_n 1, 1) := by decide +kernel
theorem dX3_stow_47 : decode cX3_stow 47 = .ok (.getfield 37, 3) := by decide +kernel
theorem dX3_stow_50 : decode cX3_stow 50 = .ok (.iload_n 3, 1) := by decide +kernel
theorem dX3_stow_51 : decode cX3_stow 51 = .ok (.baload, 1) := by decide +kernel
theorem dX3_stow_52 : decode cX3_stow 52 = .ok (.ifCond .eq 17, 3) := by decide +kernel
theorem dX3_stow_55 : decode cX3_stow 55 = .ok (.aload_n 0, 1) := by decide +kernel
theorem dX3_stow_56 : decode cX3_stow 56 = .ok (.aload_n 1, 1) := by decide +kernel
theorem dX3_stow_57 : decode cX3_stow 57 = .ok (.iload_n 3, 1) := by decide +kernel
theorem dX3_stow_58 : decode cX3_stow 58 = .ok (.invokevirtual 173, 3) := by decide +kernel
theorem dX3_stow_61 : decode cX3_stow 61 = .ok (.iconst 3, 1) := by decide +kernel
theorem dX3_stow_62 : decode cX3_stow 62 = .ok (.if_icmp .ge 7, 3) := by decide +kernel
theorem dX3_stow_65 : decode cX3_stow 65 = .ok (.iconst 1, 1) := by decide +kernel
theorem dX3_stow_66 : decode cX3_stow 66 = .ok (.goto 4, 3) := by decide +kernel
theorem dX3_stow_69 : decode cX3_stow 69 = .ok (.iconst 0, 1) := by decide +kernel
theorem dX3_stow_70 : decode cX3_stow 70 = .ok (.istore 5, 2) := by decide +kernel
theorem dX3_stow_72 : decode cX3_stow 72 = .ok (.iload 4, 2) := by decide +kernel
theorem dX3_stow_74 : decode cX3_stow 74 = .ok (.ifCond .eq 8, 3) := by decide +kernel
theorem dX3_stow_77 : decode cX3_stow 77 = .ok (.iload 5, 2) := by decide +kernel
theorem dX3_stow_79 : decode cX3_stow 79 = .ok (.ifCond .ne 5, 3) := by decide +kernel
theorem dX3_stow_82 : decode cX3_stow 82 = .ok (.iconst 0, 1) := by decide +kernel
theorem dX3_stow_83 : decode cX3_stow 83 = .ok (.ireturn, 1) := by decide +kernel
theorem dX3_stow_84 : decode cX3_stow 84 = .ok (.aload_n 1, 1) := by decide +kernel
theorem dX3_stow_85 : decode cX3_stow 85 = .ok (.getfield 25, 3) := by decide +kernel
theorem dX3_stow_88 : decode cX3_stow 88 = .ok (.iload_n 2, 1) := by decide +kernel
theorem dX3_stow_89 : decode cX3_stow 89 = .ok (.sipush 200, 3) := by decide +kernel
theorem dX3_stow_92 : decode cX3_stow 92 = .ok (.iload_n 3, 1) := by decide +kernel
theorem dX3_stow_93 : decode cX3_stow 93 = .ok (.iadd, 1) := by decide +kernel
theorem dX3_stow_94 : decode cX3_stow 94 = .ok (.iastore, 1) := by decide +kernel
theorem dX3_stow_95 : decode cX3_stow 95 = .ok (.iconst 1, 1) := by decide +kernel
theorem dX3_stow_96 : decode cX3_stow 96 = .ok (.ireturn, 1) := by decide +kernel
theorem dX3_pickUpAsIn_0 : decode cX3_pickUpAsIn 0 = .ok (.iconst 0, 1) := by decide +kernel
theorem dX3_pickUpAsIn_1 : decode cX3_pickUpAsIn 1 = .ok (.istore_n 3, 1) := by decide +kernel
theorem dX3_pickUpAsIn_2 : decode cX3_pickUpAsIn 2 = .ok (.aload_n 0, 1) := by decide +kernel
theorem dX3_pickUpAsIn_3 : decode cX3_pickUpAsIn 3 = .ok (.aload_n 1, 1) := by decide +kernel
theorem dX3_pickUpAsIn_4 : decode cX3_pickUpAsIn 4 = .ok (.invokevirtual 62, 3) := by decide +kernel
theorem dX3_pickUpAsIn_7 : decode cX3_pickUpAsIn 7 = .ok (.istore 4, 2) := by decide +kernel
theorem dX3_pickUpAsIn_9 : decode cX3_pickUpAsIn 9 = .ok (.iconst 0, 1) := by decide +kernel
theorem dX3_pickUpAsIn_10 : decode cX3_pickUpAsIn 10 = .ok (.istore 5, 2) := by decide +kernel
theorem dX3_pickUpAsIn_12 : decode cX3_pickUpAsIn 12 = .ok (.iload 5, 2) := by decide +kernel
theorem dX3_pickUpAsIn_14 : decode cX3_pickUpAsIn 14 = .ok (.aload_n 0, 1) := by decide +kernel
theorem dX3_pickUpAsIn_15 : decode cX3_pickUpAsIn 15 = .ok (.getfield 15, 3) := by decide +kernel
theorem dX3_pickUpAsIn_18 : decode cX3_pickUpAsIn 18 = .ok (.getfield 41, 3) := by decide +kernel
theorem dX3_pickUpAsIn_21 : decode cX3_pickUpAsIn 21 = .ok (.if_icmp .ge 65, 3) := by decide +kernel
theorem dX3_pickUpAsIn_24 : decode cX3_pickUpAsIn 24 = .ok (.iload 4, 2) := by decide +kernel
theorem dX3_pickUpAsIn_26 : decode cX3_pickUpAsIn 26 = .ok (.ifCond .eq 33, 3) := by decide +kernel
theorem dX3_pickUpAsIn_29 : decode cX3_pickUpAsIn 29 = .ok (.aload_n 2, 1) := by decide +kernel
theorem dX3_pickUpAsIn_30 : decode cX3_pickUpAsIn 30 = .ok (.getfield 25, 3) := by decide +kernel
theorem dX3_pickUpAsIn_33 : decode cX3_pickUpAsIn 33 = .ok (.iload 5, 2) := by decide +kernel
theorem dX3_pickUpAsIn_35 : decode cX3_pickUpAsIn 35 = .ok (.iaload, 1) := by decide +kernel
theorem dX3_pickUpAsIn_36 : decode cX3_pickUpAsIn 36 = .ok (.bipush 100, 2) := by decide +kernel
theorem dX3_pickUpAsIn_38 : decode cX3_pickUpAsIn 38 = .ok (.if_icmp .ne 21, 3) := by decide +kernel
theorem dX3_pickUpAsIn_41 : decode cX3_pickUpAsIn 41 = .ok (.aload_n 1, 1) := by decide +kernel
theorem dX3_pickUpAsIn_42 : decode cX3_pickUpAsIn 42 = .ok (.getfield 25, 3) := by decide +kernel
theorem dX3_pickUpAsIn_45 : decode cX3_pickUpAsIn 45 = .ok (.iload 5, 2) := by decide +kernel
theorem dX3_pickUpAsIn_47 : decode cX3_pickUpAsIn 47 = .ok (.iaload, 1) := by decide +kernel
theorem dX3_pickUpAsIn_48 : decode cX3_pickUpAsIn 48 = .ok (.aload_n 1, 1) := by decide +kernel
theorem dX3_pickUpAsIn_49 : decode cX3_pickUpAsIn 49 = .ok (.getfield 19, 3) := by decide +kernel
theorem dX3_pickUpAsIn_52 : decode cX3_pickUpAsIn 52 = .ok (.if_icmp .ne 7, 3) := by decide +kernel
theorem dX3_pickUpAsIn_55 : decode cX3_pickUpAsIn 55 = .ok (.iconst 1, 1) := by decide +kernel
theorem dX3_pickUpAsIn_56 : decode cX3_pickUpAsIn 56 = .ok (.goto 4, 3) := by decide +kernel
theorem dX3_pickUpAsIn_59 : decode cX3_pickUpAsIn 59 = .ok (.iconst 0, 1) := by decide +kernel
theorem dX3_pickUpAsIn_60 : decode cX3_pickUpAsIn 60 = .ok (.istore 6, 2) := by decide +kernel
theorem dX3_pickUpAsIn_62 : decode cX3_pickUpAsIn 62 = .ok (.iload 6, 2) := by decide +kernel
theorem dX3_pickUpAsIn_64 : decode cX3_pickUpAsIn 64 = .ok (.ifCond .eq 16, 3) := by decide +kernel
theorem dX3_pickUpAsIn_67 : decode cX3_pickUpAsIn 67 = .ok (.aload_n 0, 1) := by decide +kernel
theorem dX3_pickUpAsIn_68 : decode cX3_pickUpAsIn 68 = .ok (.aload_n 1, 1) := by decide +kernel
theorem dX3_pickUpAsIn_69 : decode cX3_pickUpAsIn 69 = .ok (.iload 5, 2) := by decide +kernel
theorem dX3_pickUpAsIn_71 : decode cX3_pickUpAsIn 71 = .ok (.invokevirtual 159, 3) := by decide +kernel
theorem dX3_pickUpAsIn_74 : decode cX3_pickUpAsIn 74 = .ok (.ifCond .eq 6, 3) := by decide +kernel
theorem dX3_pickUpAsIn_77 : decode cX3_pickUpAsIn 77 = .ok (.iinc 3 1, 3) := by decide +kernel
theorem dX3_pickUpAsIn_80 : decode cX3_pickUpAsIn 80 = .ok (.iinc 5 1, 3) := by decide +kernel
theorem dX3_pickUpAsIn_83 : decode cX3_pickUpAsIn 83 = .ok (.goto (-71), 3) := by decide +kernel
theorem dX3_pickUpAsIn_86 : decode cX3_pickUpAsIn 86 = .ok (.iload_n 3, 1) := by decide +kernel
theorem dX3_pickUpAsIn_87 : decode cX3_pickUpAsIn 87 = .ok (.ireturn, 1) := by decide +kernel
theorem dX3_burn_0 : decode cX3_burn 0 = .ok (.iconst 0, 1) := by decide +kernel
theorem dX3_burn_1 : decode cX3_burn 1 = .ok (.istore_n 2, 1) := by decide +kernel
theorem dX3_burn_2 : decode cX3_burn 2 = .ok (.iload_n 2, 1) := by decide +kernel
theorem dX3_burn_3 : decode cX3_burn 3 = .ok (.aload_n 0, 1) := by decide +kernel
theorem dX3_burn_4 : decode cX3_burn 4 = .ok (.getfield 15, 3) := by decide +kernel
theorem dX3_burn_7 : decode cX3_burn 7 = .ok (.getfield 41, 3) := by decide +kernel
theorem dX3_burn_10 : decode cX3_burn 10 = .ok (.if_icmp .ge 62, 3) := by decide +kernel
theorem dX3_burn_13 : decode cX3_burn 13 = .ok (.aload_n 0, 1) := by decide +kernel
theorem dX3_burn_14 : decode cX3_burn 14 = .ok (.getfield 15, 3) := by decide +kernel
theorem dX3_burn_17 : decode cX3_burn 17 = .ok (.getfield 51, 3) := by decide +kernel
theorem dX3_burn_20 : decode cX3_burn 20 = .ok (.iload_n 2, 1) := by decide +kernel
theorem dX3_burn_21 : decode cX3_burn 21 = .ok (.caload, 1) := by decide +kernel
theorem dX3_burn_22 : decode cX3_burn 22 = .ok (.bipush 108, 2) := by decide +kernel
theorem dX3_burn_24 : decode cX3_burn 24 = .ok (.if_icmp .ne 42, 3) := by decide +kernel
theorem dX3_burn_27 : decode cX3_burn 27 = .ok (.aload_n 1, 1) := by decide +kernel
theorem dX3_burn_28 : decode cX3_burn 28 = .ok (.getfield 37, 3) := by decide +kernel
theorem dX3_burn_31 : decode cX3_burn 31 = .ok (.iload_n 2, 1) := by decide +kernel
theorem dX3_burn_32 : decode cX3_burn 32 = .ok (.baload, 1) := by decide +kernel
theorem dX3_burn_33 : decode cX3_burn 33 = .ok (.ifCond .eq 33, 3) := by decide +kernel
theorem dX3_burn_36 : decode cX3_burn 36 = .ok (.aload_n 1, 1) := by decide +kernel
theorem dX3_burn_37 : decode cX3_burn 37 = .ok (.getfield 33, 3) := by decide +kernel
theorem dX3_burn_40 : decode cX3_burn 40 = .ok (.iload_n 2, 1) := by decide +kernel
theorem dX3_burn_41 : decode cX3_burn 41 = .ok (.dup2, 1) := by decide +kernel
theorem dX3_burn_42 : decode cX3_burn 42 = .ok (.iaload, 1) := by decide +kernel
theorem dX3_burn_43 : decode cX3_burn 43 = .ok (.iconst 1, 1) := by decide +kernel
theorem dX3_burn_44 : decode cX3_burn 44 = .ok (.isub, 1) := by decide +kernel
theorem dX3_burn_45 : decode cX3_burn 45 = .ok (.iastore, 1) := by decide +kernel
theorem dX3_burn_46 : decode cX3_burn 46 = .ok (.aload_n 1, 1) := by decide +kernel
theorem dX3_burn_47 : decode cX3_burn 47 = .ok (.getfield 37, 3) := by decide +kernel
theorem dX3_burn_50 : decode cX3_burn 50 = .ok (.iload_n 2, 1) := by decide +kernel
theorem dX3_burn_51 : decode cX3_burn 51 = .ok (.aload_n 1, 1) := by decide +kernel
theorem dX3_burn_52 : decode cX3_burn 52 = .ok (.getfield 33, 3) := by decide +kernel
theorem dX3_burn_55 : decode cX3_burn 55 = .ok (.iload_n 2, 1) := by decide +kernel
theorem dX3_burn_56 : decode cX3_burn 56 = .ok (.iaload, 1) := by decide +kernel
theorem dX3_burn_57 : decode cX3_burn 57 = .ok (.ifCond .le 7, 3) := by decide +kernel
theorem dX3_burn_60 : decode cX3_burn 60 = .ok (.iconst 1, 1) := by decide +kernel
theorem dX3_burn_61 : decode cX3_burn 61 = .ok (.goto 4, 3) := by decide +kernel
theorem dX3_burn_64 : decode cX3_burn 64 = .ok (.iconst 0, 1) := by decide +kernel
theorem dX3_burn_65 : decode cX3_burn 65 = .ok (.bastore, 1) := by decide +kernel
theorem dX3_burn_66 : decode cX3_burn 66 = .ok (.iinc 2 1, 3) := by decide +kernel
theorem dX3_burn_69 : decode cX3_burn 69 = .ok (.goto (-67), 3) := by decide +kernel
theorem dX3_burn_72 : decode cX3_burn 72 = .ok (.return_, 1) := by decide +kernel
theorem dX4_init_0 : decode cX4_init 0 = .ok (.aload_n 0, 1) := by decide +kernel
theorem dX4_init_1 : decode cX4_init 1 = .ok (.invokespecial 1, 3) := by decide +kernel
theorem dX4_init_4 : decode cX4_init 4 = .ok (.aload_n 0, 1) := by decide +kernel
theorem dX4_init_5 : decode cX4_init 5 = .ok (.iload_n 1, 1) := by decide +kernel
theorem dX4_init_6 : decode cX4_init 6 = .ok (.putfield 7, 3) := by decide +kernel
theorem dX4_init_9 : decode cX4_init 9 = .ok (.aload_n 0, 1) := by decide +kernel
theorem dX4_init_10 : decode cX4_init 10 = .ok (.aload_n 2, 1) := by decide +kernel
theorem dX4_init_11 : decode cX4_init 11 = .ok (.putfield 13, 3) := by decide +kernel
theorem dX4_init_14 : decode cX4_init 14 = .ok (.aload_n 0, 1) := by decide +kernel
theorem dX4_init_15 : decode cX4_init 15 = .ok (.iload_n 3, 1) := by decide +kernel
theorem dX4_init_16 : decode cX4_init 16 = .ok (.putfield 17, 3) := by decide +kernel
theorem dX4_init_19 : decode cX4_init 19 = .ok (.return_, 1) := by decide +kernel
theorem dX5_init_0 : decode cX5_init 0 = .ok (.aload_n 0, 1) := by decide +kernel
theorem dX5_init_1 : decode cX5_init 1 = .ok (.invokespecial 3, 3) := by decide +kernel
theorem dX5_init_4 : decode cX5_init 4 = .ok (.aload_n 0, 1) := by decide +kernel
theorem dX5_init_5 : decode cX5_init 5 = .ok (.bipush 12, 2) := by decide +kernel
theorem dX5_init_7 : decode cX5_init 7 = .ok (.newarray .int, 2) := by decide +kernel
theorem dX5_init_9 : decode cX5_init 9 = .ok (.putfield 9, 3) := by decide +kernel
theorem dX5_init_12 : decode cX5_init 12 = .ok (.aload_n 0, 1) := by decide +kernel
theorem dX5_init_13 : decode cX5_init 13 = .ok (.bipush 12, 2) := by decide +kernel
theorem dX5_init_15 : decode cX5_init 15 = .ok (.newarray .long, 2) := by decide +kernel
theorem dX5_init_17 : decode cX5_init 17 = .ok (.putfield 15, 3) := by decide +kernel
theorem dX5_init_20 : decode cX5_init 20 = .ok (.aload_n 0, 1) := by decide +kernel
theorem dX5_init_21 : decode cX5_init 21 = .ok (.new 19, 3) := by decide +kernel
theorem dX5_init_24 : decode cX5_init 24 = .ok (.dup, 1) := by decide +kernel
theorem dX5_init_25 : decode cX5_init 25 = .ok (.invokespecial 21, 3) := by decide +kernel
theorem dX5_init_28 : decode cX5_init 28 = .ok (.putfield 22, 3) := by decide +kernel
theorem dX5_init_31 : decode cX5_init 31 = .ok (.aload_n 0, 1) := by decide +kernel
theorem dX5_init_32 : decode cX5_init 32 = .ok (.bipush 100, 2) := by decide +kernel
theorem dX5_init_34 : decode cX5_init 34 = .ok (.putfield 26, 3) := by decide +kernel
theorem dX5_init_37 : decode cX5_init 37 = .ok (.return_, 1) := by decide +kernel
theorem dX5_hasHint_0 : decode cX5_hasHint 0 = .ok (.iload_n 1, 1) := by decide +kernel
theorem dX5_hasHint_1 : decode cX5_hasHint 1 = .ok (.ifCond .lt 15, 3) := by decide +kernel
theorem dX5_hasHint_4 : decode cX5_hasHint 4 = .ok (.iload_n 1, 1) := by decide +kernel
theorem dX5_hasHint_5 : decode cX5_hasHint 5 = .ok (.aload_n 0, 1) := by decide +kernel
theorem dX5_hasHint_6 : decode cX5_hasHint 6 = .ok (.getfield 30, 3) := by decide +kernel
theorem dX5_hasHint_9 : decode cX5_hasHint 9 = .ok (.if_icmp .ge 7, 3) := by decide +kernel
theorem dX5_hasHint_12 : decode cX5_hasHint 12 = .ok (.iconst 1, 1) := by decide +kernel
theorem dX5_hasHint_13 : decode cX5_hasHint 13 = .ok (.goto 4, 3) := by decide +kernel
theorem dX5_hasHint_16 : decode cX5_hasHint 16 = .ok (.iconst 0, 1) := by decide +kernel
theorem dX5_hasHint_17 : decode cX5_hasHint 17 = .ok (.ireturn, 1) := by decide +kernel
theorem dX5_wasSold_0 : decode cX5_wasSold 0 = .ok (.iconst 0, 1) := by decide +kernel
theorem dX5_wasSold_1 : decode cX5_wasSold 1 = .ok (.istore_n 2, 1) := by decide +kernel
theorem dX5_wasSold_2 : decode cX5_wasSold 2 = .ok (.iload_n 2, 1) := by decide +kernel
theorem dX5_wasSold_3 : decode cX5_wasSold 3 = .ok (.aload_n 0, 1) := by decide +kernel
theorem dX5_wasSold_4 : decode cX5_wasSold 4 = .ok (.getfield 22, 3) := by decide +kernel
theorem dX5_wasSold_7 : decode cX5_wasSold 7 = .ok (.invokevirtual 33, 3) := by decide +kernel
theorem dX5_wasSold_10 : decode cX5_wasSold 10 = .ok (.if_icmp .ge 29, 3) := by decide +kernel
theorem dX5_wasSold_13 : decode cX5_wasSold 13 = .ok (.aload_n 0, 1) := by decide +kernel
theorem dX5_wasSold_14 : decode cX5_wasSold 14 = .ok (.getfield 22, 3) := by decide +kernel
theorem dX5_wasSold_17 : decode cX5_wasSold 17 = .ok (.iload_n 2, 1) := by decide +kernel
theorem dX5_wasSold_18 : decode cX5_wasSold 18 = .ok (.invokevirtual 37, 3) := by decide +kernel
theorem dX5_wasSold_21 : decode cX5_wasSold 21 = .ok (.checkcast 41, 3) := by decide +kernel
theorem dX5_wasSold_24 : decode cX5_wasSold 24 = .ok (.getfield 43, 3) := by decide +kernel
theorem dX5_wasSold_27 : decode cX5_wasSold 27 = .ok (.iload_n 1, 1) := by decide +kernel
theorem dX5_wasSold_28 : decode cX5_wasSold 28 = .ok (.if_icmp .ne 5, 3) := by decide +kernel
theorem dX5_wasSold_31 : decode cX5_wasSold 31 = .ok (.iconst 1, 1) := by decide +kernel
theorem dX5_wasSold_32 : decode cX5_wasSold 32 = .ok (.ireturn, 1) := by decide +kernel
theorem dX5_wasSold_33 : decode cX5_wasSold 33 = .ok (.iinc 2 1, 3) := by decide +kernel
theorem dX5_wasSold_36 : decode cX5_wasSold 36 = .ok (.goto (-34), 3) := by decide +kernel
theorem dX5_wasSold_39 : decode cX5_wasSold 39 = .ok (.iconst 0, 1) := by decide +kernel
theorem dX5_wasSold_40 : decode cX5_wasSold 40 = .ok (.ireturn, 1) := by decide +kernel
theorem dX5_isOwnedAt_0 : decode cX5_isOwnedAt 0 = .ok (.iconst 0, 1) := by decide +kernel
theorem dX5_isOwnedAt_1 : decode cX5_isOwnedAt 1 = .ok (.istore_n 3, 1) := by decide +kernel
theorem dX5_isOwnedAt_2 : decode cX5_isOwnedAt 2 = .ok (.iload_n 3, 1) := by decide +kernel
theorem dX5_isOwnedAt_3 : decode cX5_isOwnedAt 3 = .ok (.aload_n 0, 1) := by decide +kernel
theorem dX5_isOwnedAt_4 : decode cX5_isOwnedAt 4 = .ok (.getfield 22, 3) := by decide +kernel
theorem dX5_isOwnedAt_7 : decode cX5_isOwnedAt 7 = .ok (.invokevirtual 33, 3) := by decide +kernel
theorem dX5_isOwnedAt_10 : decode cX5_isOwnedAt 10 = .ok (.if_icmp .ge 45, 3) := by decide +kernel
theorem dX5_isOwnedAt_13 : decode cX5_isOwnedAt 13 = .ok (.aload_n 0, 1) := by decide +kernel
theorem dX5_isOwnedAt_14 : decode cX5_isOwnedAt 14 = .ok (.getfield 22, 3) := by decide +kernel
theorem dX5_isOwnedAt_17 : decode cX5_isOwnedAt 17 = .ok (.iload_n 3, 1) := by decide +kernel
theorem dX5_isOwnedAt_18 : decode cX5_isOwnedAt 18 = .ok (.invokevirtual 37, 3) := by decide +kernel
theorem dX5_isOwnedAt_21 : decode cX5_isOwnedAt 21 = .ok (.checkcast 41, 3) := by decide +kernel
theorem dX5_isOwnedAt_24 : decode cX5_isOwnedAt 24 = .ok (.astore 4, 2) := by decide +kernel
theorem dX5_isOwnedAt_26 : decode cX5_isOwnedAt 26 = .ok (.aload 4, 2) := by decide +kernel
theorem dX5_isOwnedAt_28 : decode cX5_isOwnedAt 28 = .ok (.getfield 43, 3) := by decide +kernel
theorem dX5_isOwnedAt_31 : decode cX5_isOwnedAt 31 = .ok (.iload_n 1, 1) := by decide +kernel
theorem dX5_isOwnedAt_32 : decode cX5_isOwnedAt 32 = .ok (.if_icmp .ne 17, 3) := by decide +kernel
theorem dX5_isOwnedAt_35 : decode cX5_isOwnedAt 35 = .ok (.aload 4, 2) := by decide +kernel
theorem dX5_isOwnedAt_37 : decode cX5_isOwnedAt 37 = .ok (.getfield 46, 3) := by decide +kernel
theorem dX5_isOwnedAt_40 : decode cX5_isOwnedAt 40 = .ok (.aload_n 2, 1) := by decide +kernel
theorem dX5_isOwnedAt_41 : decode cX5_isOwnedAt 41 = .ok (.invokestatic 50, 3) := by decide +kernel
theorem dX5_isOwnedAt_44 : decode cX5_isOwnedAt 44 = .ok (.ifCond .eq 5, 3) := by decide +kernel
theorem dX5_isOwnedAt_47 : decode cX5_isOwnedAt 47 = .ok (.iconst 1, 1) := by decide +kernel
theorem dX5_isOwnedAt_48 : decode cX5_isOwnedAt 48 = .ok (.ireturn, 1) := by decide +kernel
theorem dX5_isOwnedAt_49 : decode cX5_isOwnedAt 49 = .ok (.iinc 3 1, 3) := by decide +kernel
theorem dX5_isOwnedAt_52 : decode cX5_isOwnedAt 52 = .ok (.goto (-50), 3) := by decide +kernel
theorem dX5_isOwnedAt_55 : decode cX5_isOwnedAt 55 = .ok (.iconst 0, 1) := by decide +kernel
theorem dX5_isOwnedAt_56 : decode cX5_isOwnedAt 56 = .ok (.ireturn, 1) := by decide +kernel
theorem dX5_priceAt_0 : decode cX5_priceAt 0 = .ok (.aload_n 0, 1) := by decide +kernel
theorem dX5_priceAt_1 : decode cX5_priceAt 1 = .ok (.getfield 15, 3) := by decide +kernel
theorem dX5_priceAt_4 : decode cX5_priceAt 4 = .ok (.iload_n 1, 1) := by decide +kernel
theorem dX5_priceAt_5 : decode cX5_priceAt 5 = .ok (.laload, 1) := by decide +kernel
theorem dX5_priceAt_6 : decode cX5_priceAt 6 = .ok (.lstore 4, 2) := by decide +kernel
theorem dX5_priceAt_8 : decode cX5_priceAt 8 = .ok (.lload 4, 2) := by decide +kernel
theorem dX5_priceAt_10 : decode cX5_priceAt 10 = .ok (.aload_n 2, 1) := by decide +kernel
theorem dX5_priceAt_11 : decode cX5_priceAt 11 = .ok (.invokevirtual 54, 3) := by decide +kernel
theorem dX5_priceAt_14 : decode cX5_priceAt 14 = .ok (.ldc2_w 60, 3) := by decide +kernel
theorem dX5_priceAt_17 : decode cX5_priceAt 17 = .ok (.lxor, 1) := by decide +kernel
theorem dX5_priceAt_18 : decode cX5_priceAt 18 = .ok (.land, 1) := by decide +kernel
theorem dX5_priceAt_19 : decode cX5_priceAt 19 = .ok (.invokestatic 62, 3) := by decide +kernel
theorem dX5_priceAt_22 : decode cX5_priceAt 22 = .ok (.istore 6, 2) := by decide +kernel
theorem dX5_priceAt_24 : decode cX5_priceAt 24 = .ok (.aload_n 3, 1) := by decide +kernel
theorem dX5_priceAt_25 : decode cX5_priceAt 25 = .ok (.getfield 68, 3) := by decide +kernel
theorem dX5_priceAt_28 : decode cX5_priceAt 28 = .ok (.invokevirtual 33, 3) := by decide +kernel
theorem dX5_priceAt_31 : decode cX5_priceAt 31 = .ok (.istore 7, 2) := by decide +kernel
theorem dX5_priceAt_33 : decode cX5_priceAt 33 = .ok (.iload 6, 2) := by decide +kernel
theorem dX5_priceAt_35 : decode cX5_priceAt 35 = .ok (.ifCond .eq 8, 3) := by decide +kernel
theorem dX5_priceAt_38 : decode cX5_priceAt 38 = .ok (.iload 7, 2) := by decide +kernel
theorem dX5_priceAt_40 : decode cX5_priceAt 40 = .ok (.ifCond .ne 5, 3) := by decide +kernel
theorem dX5_priceAt_43 : decode cX5_priceAt 43 = .ok (.iconst 0, 1) := by decide +kernel
theorem dX5_priceAt_44 : decode cX5_priceAt 44 = .ok (.ireturn, 1) := by decide +kernel
theorem dX5_priceAt_45 : decode cX5_priceAt 45 = .ok (.aload_n 3, 1) := by decide +kernel
theorem dX5_priceAt_46 : decode cX5_priceAt 46 = .ok (.lload 4, 2) := by decide +kernel
theorem dX5_priceAt_48 : decode cX5_priceAt 48 = .ok (.invokevirtual 73, 3) := by decide +kernel
theorem dX5_priceAt_51 : decode cX5_priceAt 51 = .ok (.i2f, 1) := by decide +kernel
theorem dX5_priceAt_52 : decode cX5_priceAt 52 = .ok (.iload 7, 2) := by decide +kernel
theorem dX5_priceAt_54 : decode cX5_priceAt 54 = .ok (.i2f, 1) := by decide +kernel
theorem dX5_priceAt_55 : decode cX5_priceAt 55 = .ok (.fdiv, 1) := by decide +kernel
theorem dX5_priceAt_56 : decode cX5_priceAt 56 = .ok (.fstore 8, 2) := by decide +kernel
theorem dX5_priceAt_58 : decode cX5_priceAt 58 = .ok (.aload_n 0, 1) := by decide +kernel
theorem dX5_priceAt_59 : decode cX5_priceAt 59 = .ok (.getfield 9, 3) := by decide +kernel
theorem dX5_priceAt_62 : decode cX5_priceAt 62 = .ok (.iload_n 1, 1) := by decide +kernel
theorem dX5_priceAt_63 : decode cX5_priceAt 63 = .ok (.iaload, 1) := by decide +kernel
theorem dX5_priceAt_64 : decode cX5_priceAt 64 = .ok (.iload 6, 2) := by decide +kernel
theorem dX5_priceAt_66 : decode cX5_priceAt 66 = .ok (.imul, 1) := by decide +kernel
theorem dX5_priceAt_67 : decode cX5_priceAt 67 = .ok (.i2f, 1) := by decide +kernel
theorem dX5_priceAt_68 : decode cX5_priceAt 68 = .ok (.fconst 2, 1) := by decide +kernel
theorem dX5_priceAt_69 : decode cX5_priceAt 69 = .ok (.fload 8, 2) := by decide +kernel
theorem dX5_priceAt_71 : decode cX5_priceAt 71 = .ok (.fsub, 1) := by decide +kernel
theorem dX5_priceAt_72 : decode cX5_priceAt 72 = .ok (.fmul, 1) := by decide +kernel
theorem dX5_priceAt_73 : decode cX5_priceAt 73 = .ok (.f2i, 1) := by decide +kernel
theorem dX5_priceAt_74 : decode cX5_priceAt 74 = .ok (.ireturn, 1) := by decide +kernel
theorem dX5_paid_0 : decode cX5_paid 0 = .ok (.iconst 0, 1) := by decide +kernel
theorem dX5_paid_1 : decode cX5_paid 1 = .ok (.istore_n 1, 1) := by decide +kernel
theorem dX5_paid_2 : decode cX5_paid 2 = .ok (.iconst 0, 1) := by decide +kernel
theorem dX5_paid_3 : decode cX5_paid 3 = .ok (.istore_n 2, 1) := by decide +kernel
theorem dX5_paid_4 : decode cX5_paid 4 = .ok (.iload_n 2, 1) := by decide +kernel
theorem dX5_paid_5 : decode cX5_paid 5 = .ok (.aload_n 0, 1) := by decide +kernel
theorem dX5_paid_6 : decode cX5_paid 6 = .ok (.getfield 22, 3) := by decide +kernel
theorem dX5_paid_9 : decode cX5_paid 9 = .ok (.invokevirtual 33, 3) := by decide +kernel
theorem dX5_paid_12 : decode cX5_paid 12 = .ok (.if_icmp .ge 26, 3) := by decide +kernel
theorem dX5_paid_15 : decode cX5_paid 15 = .ok (.iload_n 1, 1) := by decide +kernel
theorem dX5_paid_16 : decode cX5_paid 16 = .ok (.aload_n 0, 1) := by decide +kernel
theorem dX5_paid_17 : decode cX5_paid 17 = .ok (.getfield 22, 3) := by decide +kernel
theorem dX5_paid_20 : decode cX5_paid 20 = .ok (.iload_n 2, 1) := by decide +kernel
theorem dX5_paid_21 : decode cX5_paid 21 = .ok (.invokevirtual 37, 3) := by decide +kernel
theorem dX5_paid_24 : decode cX5_paid 24 = .ok (.checkcast 41, 3) := by decide +kernel
theorem dX5_paid_27 : decode cX5_paid 27 = .ok (.getfield 76, 3) := by decide +kernel
theorem dX5_paid_30 : decode cX5_paid 30 = .ok (.iadd, 1) := by decide +kernel
theorem dX5_paid_31 : decode cX5_paid 31 = .ok (.istore_n 1, 1) := by decide +kernel
theorem dX5_paid_32 : decode cX5_paid 32 = .ok (.iinc 2 1, 3) := by decide +kernel
theorem dX5_paid_35 : decode cX5_paid 35 = .ok (.goto (-31), 3) := by decide +kernel
theorem dX5_paid_38 : decode cX5_paid 38 = .ok (.iload_n 1, 1) := by decide +kernel
theorem dX5_paid_39 : decode cX5_paid 39 = .ok (.ireturn, 1) := by decide +kernel
theorem dX5_isAnySoldTwice_0 : decode cX5_isAnySoldTwice 0 = .ok (.iconst 0, 1) := by decide +kernel
theorem dX5_isAnySoldTwice_1 : decode cX5_isAnySoldTwice 1 = .ok (.istore_n 1, 1) := by decide +kernel
theorem dX5_isAnySoldTwice_2 : decode cX5_isAnySoldTwice 2 = .ok (.iload_n 1, 1) := by decide +kernel
theorem dX5_isAnySoldTwice_3 : decode cX5_isAnySoldTwice 3 = .ok (.aload_n 0, 1) := by decide +kernel
theorem dX5_isAnySoldTwice_4 : decode cX5_isAnySoldTwice 4 = .ok (.getfield 22, 3) := by decide +kernel
theorem dX5_isAnySoldTwice_7 : decode cX5_isAnySoldTwice 7 = .ok (.invokevirtual 33, 3) := by decide +kernel
theorem dX5_isAnySoldTwice_10 : decode cX5_isAnySoldTwice 10 = .ok (.if_icmp .ge 84, 3) := by decide +kernel
theorem dX5_isAnySoldTwice_13 : decode cX5_isAnySoldTwice 13 = .ok (.iload_n 1, 1) := by decide +kernel
theorem dX5_isAnySoldTwice_14 : decode cX5_isAnySoldTwice 14 = .ok (.iconst 1, 1) := by decide +kernel
theorem dX5_isAnySoldTwice_15 : decode cX5_isAnySoldTwice 15 = .ok (.iadd, 1) := by decide +kernel
theorem dX5_isAnySoldTwice_16 : decode cX5_isAnySoldTwice 16 = .ok (.istore_n 2, 1) := by decide +kernel
theorem dX5_isAnySoldTwice_17 : decode cX5_isAnySoldTwice 17 = .ok (.iload_n 2, 1) := by decide +kernel
theorem dX5_isAnySoldTwice_18 : decode cX5_isAnySoldTwice 18 = .ok (.aload_n 0, 1) := by decide +kernel
theorem dX5_isAnySoldTwice_19 : decode cX5_isAnySoldTwice 19 = .ok (.getfield 22, 3) := by decide +kernel
theorem dX5_isAnySoldTwice_22 : decode cX5_isAnySoldTwice 22 = .ok (.invokevirtual 33, 3) := by decide +kernel
theorem dX5_isAnySoldTwice_25 : decode cX5_isAnySoldTwice 25 = .ok (.if_icmp .ge 63, 3) := by decide +kernel
theorem dX5_isAnySoldTwice_28 : decode cX5_isAnySoldTwice 28 = .ok (.aload_n 0, 1) := by decide +kernel
theorem dX5_isAnySoldTwice_29 : decode cX5_isAnySoldTwice 29 = .ok (.getfield 22, 3) := by decide +kernel
theorem dX5_isAnySoldTwice_32 : decode cX5_isAnySoldTwice 32 = .ok (.iload_n 1, 1) := by decide +kernel
theorem dX5_isAnySoldTwice_33 : decode cX5_isAnySoldTwice 33 = .ok (.invokevirtual 37, 3) := by decide +kernel
theorem dX5_isAnySoldTwice_36 : decode cX5_isAnySoldTwice 36 = .ok (.checkcast 41, 3) := by decide +kernel
theorem dX5_isAnySoldTwice_39 : decode cX5_isAnySoldTwice 39 = .ok (.astore_n 3, 1) := by decide +kernel
theorem dX5_isAnySoldTwice_40 : decode cX5_isAnySoldTwice 40 = .ok (.aload_n 0, 1) := by decide +kernel
theorem dX5_isAnySoldTwice_41 : decode cX5_isAnySoldTwice 41 = .ok (.getfield 22, 3) := by decide +kernel
theorem dX5_isAnySoldTwice_44 : decode cX5_isAnySoldTwice 44 = .ok (.iload_n 2, 1) := by decide +kernel
theorem dX5_isAnySoldTwice_45 : decode cX5_isAnySoldTwice 45 = .ok (.invokevirtual 37, 3) := by decide +kernel
theorem dX5_isAnySoldTwice_48 : decode cX5_isAnySoldTwice 48 = .ok (.checkcast 41, 3) := by decide +kernel
theorem dX5_isAnySoldTwice_51 : decode cX5_isAnySoldTwice 51 = .ok (.astore 4, 2) := by decide +kernel
theorem dX5_isAnySoldTwice_53 : decode cX5_isAnySoldTwice 53 = .ok (.aload_n 3, 1) := by decide +kernel
theorem dX5_isAnySoldTwice_54 : decode cX5_isAnySoldTwice 54 = .ok (.getfield 43, 3) := by decide +kernel
theorem dX5_isAnySoldTwice_57 : decode cX5_isAnySoldTwice 57 = .ok (.aload 4, 2) := by decide +kernel
theorem dX5_isAnySoldTwice_59 : decode cX5_isAnySoldTwice 59 = .ok (.getfield 43, 3) := by decide +kernel
theorem dX5_isAnySoldTwice_62 : decode cX5_isAnySoldTwice 62 = .ok (.if_icmp .ne 20, 3) := by decide +kernel
theorem dX5_isAnySoldTwice_65 : decode cX5_isAnySoldTwice 65 = .ok (.aload_n 3, 1) := by decide +kernel
theorem dX5_isAnySoldTwice_66 : decode cX5_isAnySoldTwice 66 = .ok (.getfield 46, 3) := by decide +kernel
theorem dX5_isAnySoldTwice_69 : decode cX5_isAnySoldTwice 69 = .ok (.aload 4, 2) := by decide +kernel
theorem dX5_isAnySoldTwice_71 : decode cX5_isAnySoldTwice 71 = .ok (.getfield 46, 3) := by decide +kernel
theorem dX5_isAnySoldTwice_74 : decode cX5_isAnySoldTwice 74 = .ok (.invokestatic 50, 3) := by decide +kernel
theorem dX5_isAnySoldTwice_77 : decode cX5_isAnySoldTwice 77 = .ok (.ifCond .eq 5, 3) := by decide +kernel
theorem dX5_isAnySoldTwice_80 : decode cX5_isAnySoldTwice 80 = .ok (.iconst 1, 1) := by decide +kernel
theorem dX5_isAnySoldTwice_81 : decode cX5_isAnySoldTwice 81 = .ok (.ireturn, 1) := by decide +kernel
theorem dX5_isAnySoldTwice_82 : decode cX5_isAnySoldTwice 82 = .ok (.iinc 2 1, 3) := by decide +kernel
theorem dX5_isAnySoldTwice_85 : decode cX5_isAnySoldTwice 85 = .ok (.goto (-68), 3) := by decide +kernel
theorem dX5_isAnySoldTwice_88 : decode cX5_isAnySoldTwice 88 = .ok (.iinc 1 1, 3) := by decide +kernel
theorem dX5_isAnySoldTwice_91 : decode cX5_isAnySoldTwice 91 = .ok (.goto (-89), 3) := by decide +kernel
theorem dX5_isAnySoldTwice_94 : decode cX5_isAnySoldTwice 94 = .ok (.iconst 0, 1) := by decide +kernel
theorem dX5_isAnySoldTwice_95 : decode cX5_isAnySoldTwice 95 = .ok (.ireturn, 1) := by decide +kernel
theorem dX6_init_0 : decode cX6_init 0 = .ok (.aload_n 0, 1) := by decide +kernel
theorem dX6_init_1 : decode cX6_init 1 = .ok (.invokespecial 3, 3) := by decide +kernel
theorem dX6_init_4 : decode cX6_init 4 = .ok (.aload_n 0, 1) := by decide +kernel
theorem dX6_init_5 : decode cX6_init 5 = .ok (.bipush 12, 2) := by decide +kernel
theorem dX6_init_7 : decode cX6_init 7 = .ok (.newarray .int, 2) := by decide +kernel
theorem dX6_init_9 : decode cX6_init 9 = .ok (.putfield 9, 3) := by decide +kernel
theorem dX6_init_12 : decode cX6_init 12 = .ok (.aload_n 0, 1) := by decide +kernel
theorem dX6_init_13 : decode cX6_init 13 = .ok (.bipush 12, 2) := by decide +kernel
theorem dX6_init_15 : decode cX6_init 15 = .ok (.newarray .int, 2) := by decide +kernel
theorem dX6_init_17 : decode cX6_init 17 = .ok (.putfield 15, 3) := by decide +kernel
theorem dX6_init_20 : decode cX6_init 20 = .ok (.aload_n 0, 1) := by decide +kernel
theorem dX6_init_21 : decode cX6_init 21 = .ok (.bipush 12, 2) := by decide +kernel
theorem dX6_init_23 : decode cX6_init 23 = .ok (.newarray .boolean, 2) := by decide +kernel
theorem dX6_init_25 : decode cX6_init 25 = .ok (.putfield 18, 3) := by decide +kernel
theorem dX6_init_28 : decode cX6_init 28 = .ok (.return_, 1) := by decide +kernel
theorem dX6_copy_0 : decode cX6_copy 0 = .ok (.aload_n 0, 1) := by decide +kernel
theorem dX6_copy_1 : decode cX6_copy 1 = .ok (.aload_n 1, 1) := by decide +kernel
theorem dX6_copy_2 : decode cX6_copy 2 = .ok (.getfield 22, 3) := by decide +kernel
theorem dX6_copy_5 : decode cX6_copy 5 = .ok (.putfield 22, 3) := by decide +kernel
theorem dX6_copy_8 : decode cX6_copy 8 = .ok (.iconst 0, 1) := by decide +kernel
theorem dX6_copy_9 : decode cX6_copy 9 = .ok (.istore_n 2, 1) := by decide +kernel
theorem dX6_copy_10 : decode cX6_copy 10 = .ok (.iload_n 2, 1) := by decide +kernel
theorem dX6_copy_11 : decode cX6_copy 11 = .ok (.bipush 12, 2) := by decide +kernel
theorem dX6_copy_13 : decode cX6_copy 13 = .ok (.if_icmp .ge 45, 3) := by decide +kernel
theorem dX6_copy_16 : decode cX6_copy 16 = .ok (.aload_n 0, 1) := by decide +kernel
theorem dX6_copy_17 : decode cX6_copy 17 = .ok (.getfield 9, 3) := by decide +kernel
theorem dX6_copy_20 : decode cX6_copy 20 = .ok (.iload_n 2, 1) := by decide +kernel
theorem dX6_copy_21 : decode cX6_copy 21 = .ok (.aload_n 1, 1) := by decide +kernel
theorem dX6_copy_22 : decode cX6_copy 22 = .ok (.getfield 9, 3) := by decide +kernel
theorem dX6_copy_25 : decode cX6_copy 25 = .ok (.iload_n 2, 1) := by decide +kernel
theorem dX6_copy_26 : decode cX6_copy 26 = .ok (.iaload, 1) := by decide +kernel
theorem dX6_copy_27 : decode cX6_copy 27 = .ok (.iastore, 1) := by decide +kernel
theorem dX6_copy_28 : decode cX6_copy 28 = .ok (.aload_n 0, 1) := by decide +kernel
theorem dX6_copy_29 : decode cX6_copy 29 = .ok (.getfield 15, 3) := by decide +kernel
theorem dX6_copy_32 : decode cX6_copy 32 = .ok (.iload_n 2, 1) := by decide +kernel
theorem dX6_copy_33 : decode cX6_copy 33 = .ok (.aload_n 1, 1) := by decide +kernel
theorem dX6_copy_34 : decode cX6_copy 34 = .ok (.getfield 15, 3) := by decide +kernel
theorem dX6_copy_37 : decode cX6_copy 37 = .ok (.iload_n 2, 1) := by decide +kernel
theorem dX6_copy_38 : decode cX6_copy 38 = .ok (.iaload, 1) := by decide +kernel
theorem dX6_copy_39 : decode cX6_copy 39 = .ok (.iastore, 1) := by decide +kernel
theorem dX6_copy_40 : decode cX6_copy 40 = .ok (.aload_n 0, 1) := by decide +kernel
theorem dX6_copy_41 : decode cX6_copy 41 = .ok (.getfield 18, 3) := by decide +kernel
theorem dX6_copy_44 : decode cX6_copy 44 = .ok (.iload_n 2, 1) := by decide +kernel
theorem dX6_copy_45 : decode cX6_copy 45 = .ok (.aload_n 1, 1) := by decide +kernel
theorem dX6_copy_46 : decode cX6_copy 46 = .ok (.getfield 18, 3) := by decide +kernel
theorem dX6_copy_49 : decode cX6_copy 49 = .ok (.iload_n 2, 1) := by decide +kernel
theorem dX6_copy_50 : decode cX6_copy 50 = .ok (.baload, 1) := by decide +kernel
theorem dX6_copy_51 : decode cX6_copy 51 = .ok (.bastore, 1) := by decide +kernel
theorem dX6_copy_52 : decode cX6_copy 52 = .ok (.iinc 2 1, 3) := by decide +kernel
theorem dX6_copy_55 : decode cX6_copy 55 = .ok (.goto (-45), 3) := by decide +kernel
theorem dX6_copy_58 : decode cX6_copy 58 = .ok (.return_, 1) := by decide +kernel
theorem dX6_isLike_0 : decode cX6_isLike 0 = .ok (.iconst 0, 1) := by decide +kernel
theorem dX6_isLike_1 : decode cX6_isLike 1 = .ok (.istore_n 2, 1) := by decide +kernel
theorem dX6_isLike_2 : decode cX6_isLike 2 = .ok (.iload_n 2, 1) := by decide +kernel
theorem dX6_isLike_3 : decode cX6_isLike 3 = .ok (.bipush 12, 2) := by decide +kernel
theorem dX6_isLike_5 : decode cX6_isLike 5 = .ok (.if_icmp .ge 56, 3) := by decide +kernel
theorem dX6_isLike_8 : decode cX6_isLike 8 = .ok (.aload_n 0, 1) := by decide +kernel
theorem dX6_isLike_9 : decode cX6_isLike 9 = .ok (.getfield 9, 3) := by decide +kernel
theorem dX6_isLike_12 : decode cX6_isLike 12 = .ok (.iload_n 2, 1) := by decide +kernel
theorem dX6_isLike_13 : decode cX6_isLike 13 = .ok (.iaload, 1) := by decide +kernel
theorem dX6_isLike_14 : decode cX6_isLike 14 = .ok (.aload_n 1, 1) := by decide +kernel
theorem dX6_isLike_15 : decode cX6_isLike 15 = .ok (.getfield 9, 3) := by decide +kernel
theorem dX6_isLike_18 : decode cX6_isLike 18 = .ok (.iload_n 2, 1) := by decide +kernel
theorem dX6_isLike_19 : decode cX6_isLike 19 = .ok (.iaload, 1) := by decide +kernel
theorem dX6_isLike_20 : decode cX6_isLike 20 = .ok (.if_icmp .ne 33, 3) := by decide +kernel
theorem dX6_isLike_23 : decode cX6_isLike 23 = .ok (.aload_n 0, 1) := by decide +kernel
theorem dX6_isLike_24 : decode cX6_isLike 24 = .ok (.getfield 15, 3) := by decide +kernel
theorem dX6_isLike_27 : decode cX6_isLike 27 = .ok (.iload_n 2, 1) := by decide +kernel
theorem dX6_isLike_28 : decode cX6_isLike 28 = .ok (.iaload, 1) := by decide +kernel
theorem dX6_isLike_29 : decode cX6_isLike 29 = .ok (.aload_n 1, 1) := by decide +kernel
theorem dX6_isLike_30 : decode cX6_isLike 30 = .ok (.getfield 15, 3) := by decide +kernel
theorem dX6_isLike_33 : decode cX6_isLike 33 = .ok (.iload_n 2, 1) := by decide +kernel
theorem dX6_isLike_34 : decode cX6_isLike 34 = .ok (.iaload, 1) := by decide +kernel
theorem dX6_isLike_35 : decode cX6_isLike 35 = .ok (.if_icmp .ne 18, 3) := by decide +kernel
theorem dX6_isLike_38 : decode cX6_isLike 38 = .ok (.aload_n 0, 1) := by decide +kernel
theorem dX6_isLike_39 : decode cX6_isLike 39 = .ok (.getfield 18, 3) := by decide +kernel
theorem dX6_isLike_42 : decode cX6_isLike 42 = .ok (.iload_n 2, 1) := by decide +kernel
theorem dX6_isLike_43 : decode cX6_isLike 43 = .ok (.baload, 1) := by decide +kernel
theorem dX6_isLike_44 : decode cX6_isLike 44 = .ok (.aload_n 1, 1) := by decide +kernel
theorem dX6_isLike_45 : decode cX6_isLike 45 = .ok (.getfield 18, 3) := by decide +kernel
theorem dX6_isLike_48 : decode cX6_isLike 48 = .ok (.iload_n 2, 1) := by decide +kernel
theorem dX6_isLike_49 : decode cX6_isLike 49 = .ok (.baload, 1) := by decide +kernel
theorem dX6_isLike_50 : decode cX6_isLike 50 = .ok (.if_icmp .eq 5, 3) := by decide +kernel
theorem dX6_isLike_53 : decode cX6_isLike 53 = .ok (.iconst 0, 1) := by decide +kernel
theorem dX6_isLike_54 : decode cX6_isLike 54 = .ok (.ireturn, 1) := by decide +kernel
theorem dX6_isLike_55 : decode cX6_isLike 55 = .ok (.iinc 2 1, 3) := by decide +kernel
theorem dX6_isLike_58 : decode cX6_isLike 58 = .ok (.goto (-56), 3) := by decide +kernel
theorem dX6_isLike_61 : decode cX6_isLike 61 = .ok (.aload_n 0, 1) := by decide +kernel
theorem dX6_isLike_62 : decode cX6_isLike 62 = .ok (.getfield 22, 3) := by decide +kernel
theorem dX6_isLike_65 : decode cX6_isLike 65 = .ok (.aload_n 1, 1) := by decide +kernel
theorem dX6_isLike_66 : decode cX6_isLike 66 = .ok (.getfield 22, 3) := by decide +kernel
theorem dX6_isLike_69 : decode cX6_isLike 69 = .ok (.if_icmp .ne 7, 3) := by decide +kernel
theorem dX6_isLike_72 : decode cX6_isLike 72 = .ok (.iconst 1, 1) := by decide +kernel
theorem dX6_isLike_73 : decode cX6_isLike 73 = .ok (.goto 4, 3) := by decide +kernel
theorem dX6_isLike_76 : decode cX6_isLike 76 = .ok (.iconst 0, 1) := by decide +kernel
theorem dX6_isLike_77 : decode cX6_isLike 77 = .ok (.ireturn, 1) := by decide +kernel
theorem dX7_init_0 : decode cX7_init 0 = .ok (.aload_n 0, 1) := by decide +kernel
theorem dX7_init_1 : decode cX7_init 1 = .ok (.invokespecial 3, 3) := by decide +kernel
theorem dX7_init_4 : decode cX7_init 4 = .ok (.aload_n 0, 1) := by decide +kernel
theorem dX7_init_5 : decode cX7_init 5 = .ok (.bipush 30, 2) := by decide +kernel
theorem dX7_init_7 : decode cX7_init 7 = .ok (.newarray .char, 2) := by decide +kernel
theorem dX7_init_9 : decode cX7_init 9 = .ok (.putfield 9, 3) := by decide +kernel
theorem dX7_init_12 : decode cX7_init 12 = .ok (.aload_n 0, 1) := by decide +kernel
theorem dX7_init_13 : decode cX7_init 13 = .ok (.iconst 4, 1) := by decide +kernel
theorem dX7_init_14 : decode cX7_init 14 = .ok (.newarray .int, 2) := by decide +kernel
theorem dX7_init_16 : decode cX7_init 16 = .ok (.putfield 15, 3) := by decide +kernel
theorem dX7_init_19 : decode cX7_init 19 = .ok (.aload_n 0, 1) := by decide +kernel
theorem dX7_init_20 : decode cX7_init 20 = .ok (.iconst 4, 1) := by decide +kernel
theorem dX7_init_21 : decode cX7_init 21 = .ok (.newarray .int, 2) := by decide +kernel
theorem dX7_init_23 : decode cX7_init 23 = .ok (.putfield 19, 3) := by decide +kernel
theorem dX7_init_26 : decode cX7_init 26 = .ok (.return_, 1) := by decide +kernel
theorem dX7_add_0 : decode cX7_add 0 = .ok (.aload_n 0, 1) := by decide +kernel
theorem dX7_add_1 : decode cX7_add 1 = .ok (.getfield 22, 3) := by decide +kernel
theorem dX7_add_4 : decode cX7_add 4 = .ok (.bipush 30, 2) := by decide +kernel
theorem dX7_add_6 : decode cX7_add 6 = .ok (.if_icmp .ge 23, 3) := by decide +kernel
theorem dX7_add_9 : decode cX7_add 9 = .ok (.aload_n 0, 1) := by decide +kernel
theorem dX7_add_10 : decode cX7_add 10 = .ok (.getfield 9, 3) := by decide +kernel
theorem dX7_add_13 : decode cX7_add 13 = .ok (.aload_n 0, 1) := by decide +kernel
theorem dX7_add_14 : decode cX7_add 14 = .ok (.getfield 22, 3) := by decide +kernel
theorem dX7_add_17 : decode cX7_add 17 = .ok (.iload_n 1, 1) := by decide +kernel
theorem dX7_add_18 : decode cX7_add 18 = .ok (.castore, 1) := by decide +kernel
theorem dX7_add_19 : decode cX7_add 19 = .ok (.aload_n 0, 1) := by decide +kernel
theorem dX7_add_20 : decode cX7_add 20 = .ok (.dup, 1) := by decide +kernel
theorem dX7_add_21 : decode cX7_add 21 = .ok (.getfield 22, 3) := by decide +kernel
theorem dX7_add_24 : decode cX7_add 24 = .ok (.iconst 1, 1) := by decide +kernel
theorem dX7_add_25 : decode cX7_add 25 = .ok (.iadd, 1) := by decide +kernel
theorem dX7_add_26 : decode cX7_add 26 = .ok (.putfield 22, 3) := by decide +kernel
theorem dX7_add_29 : decode cX7_add 29 = .ok (.return_, 1) := by decide +kernel
theorem dX7_divide_0 : decode cX7_divide 0 = .ok (.iconst 0, 1) := by decide +kernel
theorem dX7_divide_1 : decode cX7_divide 1 = .ok (.istore_n 1, 1) := by decide +kernel
theorem dX7_divide_2 : decode cX7_divide 2 = .ok (.iconst 0, 1) := by decide +kernel
theorem dX7_divide_3 : decode cX7_divide 3 = .ok (.istore_n 2, 1) := by decide +kernel
theorem dX7_divide_4 : decode cX7_divide 4 = .ok (.iconst 0, 1) := by decide +kernel
theorem dX7_divide_5 : decode cX7_divide 5 = .ok (.istore_n 3, 1) := by decide +kernel
theorem dX7_divide_6 : decode cX7_divide 6 = .ok (.iload_n 3, 1) := by decide +kernel
theorem dX7_divide_7 : decode cX7_divide 7 = .ok (.aload_n 0, 1) := by decide +kernel
theorem dX7_divide_8 : decode cX7_divide 8 = .ok (.getfield 22, 3) := by decide +kernel
theorem dX7_divide_11 : decode cX7_divide 11 = .ok (.if_icmp .gt 64, 3) := by decide +kernel
theorem dX7_divide_14 : decode cX7_divide 14 = .ok (.iload_n 3, 1) := by decide +kernel
theorem dX7_divide_15 : decode cX7_divide 15 = .ok (.aload_n 0, 1) := by decide +kernel
theorem dX7_divide_16 : decode cX7_divide 16 = .ok (.getfield 22, 3) := by decide +kernel
theorem dX7_divide_19 : decode cX7_divide 19 = .ok (.if_icmp .ge 17, 3) := by decide +kernel
theorem dX7_divide_22 : decode cX7_divide 22 = .ok (.aload_n 0, 1) := by decide +kernel
theorem dX7_divide_23 : decode cX7_divide 23 = .ok (.getfield 9, 3) := by decide +kernel
theorem dX7_divide_26 : decode cX7_divide 26 = .ok (.iload_n 3, 1) := by decide +kernel
theorem dX7_divide_27 : decode cX7_divide 27 = .ok (.caload, 1) := by decide +kernel
theorem dX7_divide_28 : decode cX7_divide 28 = .ok (.bipush 32, 2) := by decide +kernel
theorem dX7_divide_30 : decode cX7_divide 30 = .ok (.if_icmp .eq 6, 3) := by decide +kernel
theorem dX7_divide_33 : decode cX7_divide 33 = .ok (.goto 36, 3) := by decide +kernel
theorem dX7_divide_36 : decode cX7_divide 36 = .ok (.iload_n 3, 1) := by decide +kernel
theorem dX7_divide_37 : decode cX7_divide 37 = .ok (.iload_n 2, 1) := by decide +kernel
theorem dX7_divide_38 : decode cX7_divide 38 = .ok (.if_icmp .eq 8, 3) := by decide +kernel
theorem dX7_divide_41 : decode cX7_divide 41 = .ok (.iload_n 1, 1) := by decide +kernel
theorem dX7_divide_42 : decode cX7_divide 42 = .ok (.iconst 4, 1) := by decide +kernel
theorem dX7_divide_43 : decode cX7_divide 43 = .ok (.if_icmp .ne 5, 3) := by decide +kernel
theorem dX7_divide_46 : decode cX7_divide 46 = .ok (.iconst 0, 1) := by decide +kernel
theorem dX7_divide_47 : decode cX7_divide 47 = .ok (.ireturn, 1) := by decide +kernel
theorem dX7_divide_48 : decode cX7_divide 48 = .ok (.aload_n 0, 1) := by decide +kernel
theorem dX7_divide_49 : decode cX7_divide 49 = .ok (.getfield 15, 3) := by decide +kernel
theorem dX7_divide_52 : decode cX7_divide 52 = .ok (.iload_n 1, 1) := by decide +kernel
theorem dX7_divide_53 : decode cX7_divide 53 = .ok (.iload_n 2, 1) := by decide +kernel
theorem dX7_divide_54 : decode cX7_divide 54 = .ok (.iastore, 1) := by decide +kernel
theorem dX7_divide_55 : decode cX7_divide 55 = .ok (.aload_n 0, 1) := by decide +kernel
theorem dX7_divide_56 : decode cX7_divide 56 = .ok (.getfield 19, 3) := by decide +kernel
theorem dX7_divide_59 : decode cX7_divide 59 = .ok (.iload_n 1, 1) := by decide +kernel
theorem dX7_divide_60 : decode cX7_divide 60 = .ok (.iload_n 3, 1) := by decide +kernel
theorem dX7_divide_61 : decode cX7_divide 61 = .ok (.iastore, 1) := by decide +kernel
theorem dX7_divide_62 : decode cX7_divide 62 = .ok (.iinc 1 1, 3) := by decide +kernel
theorem dX7_divide_65 : decode cX7_divide 65 = .ok (.iload_n 3, 1) := by decide +kernel
theorem dX7_divide_66 : decode cX7_divide 66 = .ok (.iconst 1, 1) := by decide +kernel
theorem dX7_divide_67 : decode cX7_divide 67 = .ok (.iadd, 1) := by decide +kernel
theorem dX7_divide_68 : decode cX7_divide 68 = .ok (.istore_n 2, 1) := by decide +kernel
theorem dX7_divide_69 : decode cX7_divide 69 = .ok (.iinc 3 1, 3) := by decide +kernel
theorem dX7_divide_72 : decode cX7_divide 72 = .ok (.goto (-66), 3) := by decide +kernel
theorem dX7_divide_75 : decode cX7_divide 75 = .ok (.iload_n 1, 1) := by decide +kernel
theorem dX7_divide_76 : decode cX7_divide 76 = .ok (.ireturn, 1) := by decide +kernel
theorem dX7_isPart_0 : decode cX7_isPart 0 = .ok (.aload_n 0, 1) := by decide +kernel
theorem dX7_isPart_1 : decode cX7_isPart 1 = .ok (.getfield 19, 3) := by decide +kernel
theorem dX7_isPart_4 : decode cX7_isPart 4 = .ok (.iload_n 1, 1) := by decide +kernel
theorem dX7_isPart_5 : decode cX7_isPart 5 = .ok (.iaload, 1) := by decide +kernel
theorem dX7_isPart_6 : decode cX7_isPart 6 = .ok (.aload_n 0, 1) := by decide +kernel
theorem dX7_isPart_7 : decode cX7_isPart 7 = .ok (.getfield 15, 3) := by decide +kernel
theorem dX7_isPart_10 : decode cX7_isPart 10 = .ok (.iload_n 1, 1) := by decide +kernel
theorem dX7_isPart_11 : decode cX7_isPart 11 = .ok (.iaload, 1) := by decide +kernel
theorem dX7_isPart_12 : decode cX7_isPart 12 = .ok (.isub, 1) := by decide +kernel
theorem dX7_isPart_13 : decode cX7_isPart 13 = .ok (.aload_n 2, 1) := by decide +kernel
theorem dX7_isPart_14 : decode cX7_isPart 14 = .ok (.invokevirtual 26, 3) := by decide +kernel
theorem dX7_isPart_17 : decode cX7_isPart 17 = .ok (.if_icmp .eq 5, 3) := by decide +kernel
theorem dX7_isPart_20 : decode cX7_isPart 20 = .ok (.iconst 0, 1) := by decide +kernel
theorem dX7_isPart_21 : decode cX7_isPart 21 = .ok (.ireturn, 1) := by decide +kernel
theorem dX7_isPart_22 : decode cX7_isPart 22 = .ok (.iconst 0, 1) := by decide +kernel
theorem dX7_isPart_23 : decode cX7_isPart 23 = .ok (.istore_n 3, 1) := by decide +kernel
theorem dX7_isPart_24 : decode cX7_isPart 24 = .ok (.iload_n 3, 1) := by decide +kernel
theorem dX7_isPart_25 : decode cX7_isPart 25 = .ok (.aload_n 2, 1) := by decide +kernel
theorem dX7_isPart_26 : decode cX7_isPart 26 = .ok (.invokevirtual 26, 3) := by decide +kernel
theorem dX7_isPart_29 : decode cX7_isPart 29 = .ok (.if_icmp .ge 32, 3) := by decide +kernel
theorem dX7_isPart_32 : decode cX7_isPart 32 = .ok (.aload_n 0, 1) := by decide +kernel
theorem dX7_isPart_33 : decode cX7_isPart 33 = .ok (.getfield 9, 3) := by decide +kernel
theorem dX7_isPart_36 : decode cX7_isPart 36 = .ok (.aload_n 0, 1) := by decide +kernel
theorem dX7_isPart_37 : decode cX7_isPart 37 = .ok (.getfield 15, 3) := by decide +kernel
theorem dX7_isPart_40 : decode cX7_isPart 40 = .ok (.iload_n 1, 1) := by decide +kernel
theorem dX7_isPart_41 : decode cX7_isPart 41 = .ok (.iaload, 1) := by decide +kernel
theorem dX7_isPart_42 : decode cX7_isPart 42 = .ok (.iload_n 3, 1) := by decide +kernel
theorem dX7_isPart_43 : decode cX7_isPart 43 = .ok (.iadd, 1) := by decide +kernel
theorem dX7_isPart_44 : decode cX7_isPart 44 = .ok (.caload, 1) := by decide +kernel
theorem dX7_isPart_45 : decode cX7_isPart 45 = .ok (.aload_n 2, 1) := by decide +kernel
theorem dX7_isPart_46 : decode cX7_isPart 46 = .ok (.iload_n 3, 1) := by decide +kernel
theorem dX7_isPart_47 : decode cX7_isPart 47 = .ok (.invokevirtual 31, 3) := by decide +kernel
theorem dX7_isPart_50 : decode cX7_isPart 50 = .ok (.if_icmp .eq 5, 3) := by decide +kernel
theorem dX7_isPart_53 : decode cX7_isPart 53 = .ok (.iconst 0, 1) := by decide +kernel
theorem dX7_isPart_54 : decode cX7_isPart 54 = .ok (.ireturn, 1) := by decide +kernel
theorem dX7_isPart_55 : decode cX7_isPart 55 = .ok (.iinc 3 1, 3) := by decide +kernel
theorem dX7_isPart_58 : decode cX7_isPart 58 = .ok (.goto (-34), 3) := by decide +kernel
theorem dX7_isPart_61 : decode cX7_isPart 61 = .ok (.iconst 1, 1) := by decide +kernel
theorem dX7_isPart_62 : decode cX7_isPart 62 = .ok (.ireturn, 1) := by decide +kernel
theorem dX7_onlySign_0 : decode cX7_onlySign 0 = .ok (.aload_n 0, 1) := by decide +kernel
theorem dX7_onlySign_1 : decode cX7_onlySign 1 = .ok (.getfield 19, 3) := by decide +kernel
theorem dX7_onlySign_4 : decode cX7_onlySign 4 = .ok (.iload_n 1, 1) := by decide +kernel
theorem dX7_onlySign_5 : decode cX7_onlySign 5 = .ok (.iaload, 1) := by decide +kernel
theorem dX7_onlySign_6 : decode cX7_onlySign 6 = .ok (.aload_n 0, 1) := by decide +kernel
theorem dX7_onlySign_7 : decode cX7_onlySign 7 = .ok (.getfield 15, 3) := by decide +kernel
theorem dX7_onlySign_10 : decode cX7_onlySign 10 = .ok (.iload_n 1, 1) := by decide +kernel
theorem dX7_onlySign_11 : decode cX7_onlySign 11 = .ok (.iaload, 1) := by decide +kernel
theorem dX7_onlySign_12 : decode cX7_onlySign 12 = .ok (.isub, 1) := by decide +kernel
theorem dX7_onlySign_13 : decode cX7_onlySign 13 = .ok (.iconst 1, 1) := by decide +kernel
theorem dX7_onlySign_14 : decode cX7_onlySign 14 = .ok (.if_icmp .ne 17, 3) := by decide +kernel
theorem dX7_onlySign_17 : decode cX7_onlySign 17 = .ok (.aload_n 0, 1) := by decide +kernel
theorem dX7_onlySign_18 : decode cX7_onlySign 18 = .ok (.getfield 9, 3) := by decide +kernel
theorem dX7_onlySign_21 : decode cX7_onlySign 21 = .ok (.aload_n 0, 1) := by decide +kernel
theorem dX7_onlySign_22 : decode cX7_onlySign 22 = .ok (.getfield 15, 3) := by decide +kernel
theorem dX7_onlySign_25 : decode cX7_onlySign 25 = .ok (.iload_n 1, 1) := by decide +kernel
theorem dX7_onlySign_26 : decode cX7_onlySign 26 = .ok (.iaload, 1) := by decide +kernel
theorem dX7_onlySign_27 : decode cX7_onlySign 27 = .ok (.caload, 1) := by decide +kernel
theorem dX7_onlySign_28 : decode cX7_onlySign 28 = .ok (.goto 5, 3) := by decide +kernel
theorem dX7_onlySign_31 : decode cX7_onlySign 31 = .ok (.bipush 32, 2) := by decide +kernel
theorem dX7_onlySign_33 : decode cX7_onlySign 33 = .ok (.ireturn, 1) := by decide +kernel
theorem dX7_lettersOfPart_0 : decode cX7_lettersOfPart 0 = .ok (.aload_n 0, 1) := by decide +kernel
theorem dX7_lettersOfPart_1 : decode cX7_lettersOfPart 1 = .ok (.aload_n 0, 1) := by decide +kernel
theorem dX7_lettersOfPart_2 : decode cX7_lettersOfPart 2 = .ok (.getfield 15, 3) := by decide +kernel
theorem dX7_lettersOfPart_5 : decode cX7_lettersOfPart 5 = .ok (.iload_n 1, 1) := by decide +kernel
theorem dX7_lettersOfPart_6 : decode cX7_lettersOfPart 6 = .ok (.iaload, 1) := by decide +kernel
theorem dX7_lettersOfPart_7 : decode cX7_lettersOfPart 7 = .ok (.aload_n 0, 1) := by decide +kernel
theorem dX7_lettersOfPart_8 : decode cX7_lettersOfPart 8 = .ok (.getfield 19, 3) := by decide +kernel
theorem dX7_lettersOfPart_11 : decode cX7_lettersOfPart 11 = .ok (.iload_n 1, 1) := by decide +kernel
theorem dX7_lettersOfPart_12 : decode cX7_lettersOfPart 12 = .ok (.iaload, 1) := by decide +kernel
theorem dX7_lettersOfPart_13 : decode cX7_lettersOfPart 13 = .ok (.invokevirtual 35, 3) := by decide +kernel
theorem dX7_lettersOfPart_16 : decode cX7_lettersOfPart 16 = .ok (.lreturn, 1) := by decide +kernel
theorem dX7_lettersOfAll_0 : decode cX7_lettersOfAll 0 = .ok (.aload_n 0, 1) := by decide +kernel
theorem dX7_lettersOfAll_1 : decode cX7_lettersOfAll 1 = .ok (.iconst 0, 1) := by decide +kernel
theorem dX7_lettersOfAll_2 : decode cX7_lettersOfAll 2 = .ok (.aload_n 0, 1) := by decide +kernel
theorem dX7_lettersOfAll_3 : decode cX7_lettersOfAll 3 = .ok (.getfield 22, 3) := by decide +kernel
theorem dX7_lettersOfAll_6 : decode cX7_lettersOfAll 6 = .ok (.invokevirtual 35, 3) := by decide +kernel
theorem dX7_lettersOfAll_9 : decode cX7_lettersOfAll 9 = .ok (.lreturn, 1) := by decide +kernel
theorem dX7_packed_0 : decode cX7_packed 0 = .ok (.iload_n 2, 1) := by decide +kernel
theorem dX7_packed_1 : decode cX7_packed 1 = .ok (.iload_n 1, 1) := by decide +kernel
theorem dX7_packed_2 : decode cX7_packed 2 = .ok (.isub, 1) := by decide +kernel
theorem dX7_packed_3 : decode cX7_packed 3 = .ok (.bipush 8, 2) := by decide +kernel
theorem dX7_packed_5 : decode cX7_packed 5 = .ok (.if_icmp .le 5, 3) := by decide +kernel
theorem dX7_packed_8 : decode cX7_packed 8 = .ok (.lconst 0, 1) := by decide +kernel
theorem dX7_packed_9 : decode cX7_packed 9 = .ok (.lreturn, 1) := by decide +kernel
theorem dX7_packed_10 : decode cX7_packed 10 = .ok (.lconst 0, 1) := by decide +kernel
theorem dX7_packed_11 : decode cX7_packed 11 = .ok (.lstore_n 3, 1) := by decide +kernel
theorem dX7_packed_12 : decode cX7_packed 12 = .ok (.iload_n 1, 1) := by decide +kernel
theorem dX7_packed_13 : decode cX7_packed 13 = .ok (.istore 5, 2) := by decide +kernel
theorem dX7_packed_15 : decode cX7_packed 15 = .ok (.iload 5, 2) := by decide +kernel
theorem dX7_packed_17 : decode cX7_packed 17 = .ok (.iload_n 2, 1) := by decide +kernel
theorem dX7_packed_18 : decode cX7_packed 18 = .ok (.if_icmp .ge 41, 3) := by decide +kernel
theorem dX7_packed_21 : decode cX7_packed 21 = .ok (.aload_n 0, 1) := by decide +kernel
theorem dX7_packed_22 : decode cX7_packed 22 = .ok (.getfield 9, 3) := by decide +kernel
theorem dX7_packed_25 : decode cX7_packed 25 = .ok (.iload 5, 2) := by decide +kernel
theorem dX7_packed_27 : decode cX7_packed 27 = .ok (.caload, 1) := by decide +kernel
theorem dX7_packed_28 : decode cX7_packed 28 = .ok (.bipush 32, 2) := by decide +kernel
theorem dX7_packed_30 : decode cX7_packed 30 = .ok (.if_icmp .ne 5, 3) := by decide +kernel
theorem dX7_packed_33 : decode cX7_packed 33 = .ok (.lconst 0, 1) := by decide +kernel
theorem dX7_packed_34 : decode cX7_packed 34 = .ok (.lreturn, 1) := by decide +kernel
theorem dX7_packed_35 : decode cX7_packed 35 = .ok (.lload_n 3, 1) := by decide +kernel
theorem dX7_packed_36 : decode cX7_packed 36 = .ok (.iconst 5, 1) := by decide +kernel
theorem dX7_packed_37 : decode cX7_packed 37 = .ok (.lshl, 1) := by decide +kernel
theorem dX7_packed_38 : decode cX7_packed 38 = .ok (.aload_n 0, 1) := by decide +kernel
theorem dX7_packed_39 : decode cX7_packed 39 = .ok (.getfield 9, 3) := by decide +kernel
theorem dX7_packed_42 : decode cX7_packed 42 = .ok (.iload 5, 2) := by decide +kernel
theorem dX7_packed_44 : decode cX7_packed 44 = .ok (.caload, 1) := by decide +kernel
theorem dX7_packed_45 : decode cX7_packed 45 = .ok (.bipush 97, 2) := by decide +kernel
theorem dX7_packed_47 : decode cX7_packed 47 = .ok (.isub, 1) := by decide +kernel
theorem dX7_packed_48 : decode cX7_packed 48 = .ok (.iconst 1, 1) := by decide +kernel
theorem dX7_packed_49 : decode cX7_packed 49 = .ok (.iadd, 1) := by decide +kernel
theorem dX7_packed_50 : decode cX7_packed 50 = .ok (.i2l, 1) := by decide +kernel
theorem dX7_packed_51 : decode cX7_packed 51 = .ok (.ladd, 1) := by decide +kernel
theorem dX7_packed_52 : decode cX7_packed 52 = .ok (.lstore_n 3, 1) := by decide +kernel
theorem dX7_packed_53 : decode cX7_packed 53 = .ok (.iinc 5 1, 3) := by decide +kernel
theorem dX7_packed_56 : decode cX7_packed 56 = .ok (.goto (-41), 3) := by decide +kernel
theorem dX7_packed_59 : decode cX7_packed 59 = .ok (.lload_n 3, 1) := by decide +kernel
theorem dX7_packed_60 : decode cX7_packed 60 = .ok (.lreturn, 1) := by decide +kernel
theorem dX8_init_0 : decode cX8_init 0 = .ok (.aload_n 0, 1) := by decide +kernel
theorem dX8_init_1 : decode cX8_init 1 = .ok (.invokespecial 3, 3) := by decide +kernel
theorem dX8_init_4 : decode cX8_init 4 = .ok (.aload_n 0, 1) := by decide +kernel
theorem dX8_init_5 : decode cX8_init 5 = .ok (.new 9, 3) := by decide +kernel
theorem dX8_init_8 : decode cX8_init 8 = .ok (.dup, 1) := by decide +kernel
theorem dX8_init_9 : decode cX8_init 9 = .ok (.invokespecial 11, 3) := by decide +kernel
theorem dX8_init_12 : decode cX8_init 12 = .ok (.putfield 12, 3) := by decide +kernel
theorem dX8_init_15 : decode cX8_init 15 = .ok (.aload_n 0, 1) := by decide +kernel
theorem dX8_init_16 : decode cX8_init 16 = .ok (.bipush 40, 2) := by decide +kernel
theorem dX8_init_18 : decode cX8_init 18 = .ok (.newarray .int, 2) := by decide +kernel
theorem dX8_init_20 : decode cX8_init 20 = .ok (.putfield 18, 3) := by decide +kernel
theorem dX8_init_23 : decode cX8_init 23 = .ok (.return_, 1) := by decide +kernel
theorem dX8_isEmpty_0 : decode cX8_isEmpty 0 = .ok (.aload_n 0, 1) := by decide +kernel
theorem dX8_isEmpty_1 : decode cX8_isEmpty 1 = .ok (.getfield 12, 3) := by decide +kernel
theorem dX8_isEmpty_4 : decode cX8_isEmpty 4 = .ok (.invokevirtual 22, 3) := by decide +kernel
theorem dX8_isEmpty_7 : decode cX8_isEmpty 7 = .ok (.ireturn, 1) := by decide +kernel
theorem dX8_isFull_0 : decode cX8_isFull 0 = .ok (.aload_n 0, 1) := by decide +kernel
theorem dX8_isFull_1 : decode cX8_isFull 1 = .ok (.getfield 12, 3) := by decide +kernel
theorem dX8_isFull_4 : decode cX8_isFull 4 = .ok (.invokevirtual 26, 3) := by decide +kernel
theorem dX8_isFull_7 : decode cX8_isFull 7 = .ok (.bipush 80, 2) := by decide +kernel
theorem dX8_isFull_9 : decode cX8_isFull 9 = .ok (.if_icmp .lt 7, 3) := by decide +kernel
theorem dX8_isFull_12 : decode cX8_isFull 12 = .ok (.iconst 1, 1) := by decide +kernel
theorem dX8_isFull_13 : decode cX8_isFull 13 = .ok (.goto 4, 3) := by decide +kernel
theorem dX8_isFull_16 : decode cX8_isFull 16 = .ok (.iconst 0, 1) := by decide +kernel
theorem dX8_isFull_17 : decode cX8_isFull 17 = .ok (.ireturn, 1) := by decide +kernel
theorem dX8_has_0 : decode cX8_has 0 = .ok (.iload_n 1, 1) := by decide +kernel
theorem dX8_has_1 : decode cX8_has 1 = .ok (.ifCond .lt 18, 3) := by decide +kernel
theorem dX8_has_4 : decode cX8_has 4 = .ok (.iload_n 1, 1) := by decide +kernel
theorem dX8_has_5 : decode cX8_has 5 = .ok (.aload_n 0, 1) := by decide +kernel
theorem dX8_has_6 : decode cX8_has 6 = .ok (.getfield 12, 3) := by decide +kernel
theorem dX8_has_9 : decode cX8_has 9 = .ok (.invokevirtual 26, 3) := by decide +kernel
theorem dX8_has_12 : decode cX8_has 12 = .ok (.if_icmp .ge 7, 3) := by decide +kernel
theorem dX8_has_15 : decode cX8_has 15 = .ok (.iconst 1, 1) := by decide +kernel
theorem dX8_has_16 : decode cX8_has 16 = .ok (.goto 4, 3) := by decide +kernel
theorem dX8_has_19 : decode cX8_has 19 = .ok (.iconst 0, 1) := by decide +kernel
theorem dX8_has_20 : decode cX8_has 20 = .ok (.ireturn, 1) := by decide +kernel
theorem dX8_current_0 : decode cX8_current 0 = .ok (.aload_n 0, 1) := by decide +kernel
theorem dX8_current_1 : decode cX8_current 1 = .ok (.getfield 12, 3) := by decide +kernel
theorem dX8_current_4 : decode cX8_current 4 = .ok (.aload_n 0, 1) := by decide +kernel
theorem dX8_current_5 : decode cX8_current 5 = .ok (.getfield 30, 3) := by decide +kernel
theorem dX8_current_8 : decode cX8_current 8 = .ok (.invokevirtual 34, 3) := by decide +kernel
theorem dX8_current_11 : decode cX8_current 11 = .ok (.checkcast 38, 3) := by decide +kernel
theorem dX8_current_14 : decode cX8_current 14 = .ok (.areturn, 1) := by decide +kernel
theorem dX8_add_0 : decode cX8_add 0 = .ok (.aload_n 0, 1) := by decide +kernel
theorem dX8_add_1 : decode cX8_add 1 = .ok (.getfield 12, 3) := by decide +kernel
theorem dX8_add_4 : decode cX8_add 4 = .ok (.invokevirtual 26, 3) := by decide +kernel
theorem dX8_add_7 : decode cX8_add 7 = .ok (.istore 5, 2) := by decide +kernel
theorem dX8_add_9 : decode cX8_add 9 = .ok (.new 38, 3) := by decide +kernel
theorem dX8_add_12 : decode cX8_add 12 = .ok (.dup, 1) := by decide +kernel
theorem dX8_add_13 : decode cX8_add 13 = .ok (.iload 5, 2) := by decide +kernel
theorem dX8_add_15 : decode cX8_add 15 = .ok (.iload 5, 2) := by decide +kernel
theorem dX8_add_17 : decode cX8_add 17 = .ok (.ifCond .ne 7, 3) := by decide +kernel
theorem dX8_add_20 : decode cX8_add 20 = .ok (.aconst_null, 1) := by decide +kernel
theorem dX8_add_21 : decode cX8_add 21 = .ok (.goto 7, 3) := by decide +kernel
theorem dX8_add_24 : decode cX8_add 24 = .ok (.aload_n 0, 1) := by decide +kernel
theorem dX8_add_25 : decode cX8_add 25 = .ok (.invokevirtual 40, 3) := by decide +kernel
theorem dX8_add_28 : decode cX8_add 28 = .ok (.aload_n 1, 1) := by decide +kernel
theorem dX8_add_29 : decode cX8_add 29 = .ok (.aload_n 2, 1) := by decide +kernel
theorem dX8_add_30 : decode cX8_add 30 = .ok (.lload_n 3, 1) := by decide +kernel
theorem dX8_add_31 : decode cX8_add 31 = .ok (.invokespecial 44, 3) := by decide +kernel
theorem dX8_add_34 : decode cX8_add 34 = .ok (.astore 6, 2) := by decide +kernel
theorem dX8_add_36 : decode cX8_add 36 = .ok (.aload_n 0, 1) := by decide +kernel
theorem dX8_add_37 : decode cX8_add 37 = .ok (.getfield 12, 3) := by decide +kernel
theorem dX8_add_40 : decode cX8_add 40 = .ok (.aload 6, 2) := by decide +kernel
theorem dX8_add_42 : decode cX8_add 42 = .ok (.invokevirtual 47, 3) := by decide +kernel
theorem dX8_add_45 : decode cX8_add 45 = .ok (.pop, 1) := by decide +kernel
theorem dX8_add_46 : decode cX8_add 46 = .ok (.iconst 0, 1) := by decide +kernel
theorem dX8_add_47 : decode cX8_add 47 = .ok (.istore 7, 2) := by decide +kernel
theorem dX8_add_49 : decode cX8_add 49 = .ok (.iload 7, 2) := by decide +kernel
theorem dX8_add_51 : decode cX8_add 51 = .ok (.bipush 40, 2) := by decide +kernel
theorem dX8_add_53 : decode cX8_add 53 = .ok (.if_icmp .ge 29, 3) := by decide +kernel
theorem dX8_add_56 : decode cX8_add 56 = .ok (.lload_n 3, 1) := by decide +kernel
theorem dX8_add_57 : decode cX8_add 57 = .ok (.iload 7, 2) := by decide +kernel
theorem dX8_add_59 : decode cX8_add 59 = .ok (.invokestatic 51, 3) := by decide +kernel
theorem dX8_add_62 : decode cX8_add 62 = .ok (.ifCond .eq 14, 3) := by decide +kernel
theorem dX8_add_65 : decode cX8_add 65 = .ok (.aload_n 0, 1) := by decide +kernel
theorem dX8_add_66 : decode cX8_add 66 = .ok (.getfield 18, 3) := by decide +kernel
theorem dX8_add_69 : decode cX8_add 69 = .ok (.iload 7, 2) := by decide +kernel
theorem dX8_add_71 : decode cX8_add 71 = .ok (.dup2, 1) := by decide +kernel
theorem dX8_add_72 : decode cX8_add 72 = .ok (.iaload, 1) := by decide +kernel
theorem dX8_add_73 : decode cX8_add 73 = .ok (.iconst 1, 1) := by decide +kernel
theorem dX8_add_74 : decode cX8_add 74 = .ok (.iadd, 1) := by decide +kernel
theorem dX8_add_75 : decode cX8_add 75 = .ok (.iastore, 1) := by decide +kernel
theorem dX8_add_76 : decode cX8_add 76 = .ok (.iinc 7 1, 3) := by decide +kernel
theorem dX8_add_79 : decode cX8_add 79 = .ok (.goto (-30), 3) := by decide +kernel
theorem dX8_add_82 : decode cX8_add 82 = .ok (.aload 6, 2) := by decide +kernel
theorem dX8_add_84 : decode cX8_add 84 = .ok (.areturn, 1) := by decide +kernel
theorem dX8_childBy_0 : decode cX8_childBy 0 = .ok (.aload_n 0, 1) := by decide +kernel
theorem dX8_childBy_1 : decode cX8_childBy 1 = .ok (.invokevirtual 40, 3) := by decide +kernel
theorem dX8_childBy_4 : decode cX8_childBy 4 = .ok (.astore_n 2, 1) := by decide +kernel
theorem dX8_childBy_5 : decode cX8_childBy 5 = .ok (.aload_n 0, 1) := by decide +kernel
theorem dX8_childBy_6 : decode cX8_childBy 6 = .ok (.getfield 30, 3) := by decide +kernel
theorem dX8_childBy_9 : decode cX8_childBy 9 = .ok (.iconst 1, 1) := by decide +kernel
theorem dX8_childBy_10 : decode cX8_childBy 10 = .ok (.iadd, 1) := by decide +kernel
theorem dX8_childBy_11 : decode cX8_childBy 11 = .ok (.istore_n 3, 1) := by decide +kernel
theorem dX8_childBy_12 : decode cX8_childBy 12 = .ok (.iload_n 3, 1) := by decide +kernel
theorem dX8_childBy_13 : decode cX8_childBy 13 = .ok (.aload_n 0, 1) := by decide +kernel
theorem dX8_childBy_14 : decode cX8_childBy 14 = .ok (.getfield 12, 3) := by decide +kernel
theorem dX8_childBy_17 : decode cX8_childBy 17 = .ok (.invokevirtual 26, 3) := by decide +kernel
theorem dX8_childBy_20 : decode cX8_childBy 20 = .ok (.if_icmp .ge 45, 3) := by decide +kernel
theorem dX8_childBy_23 : decode cX8_childBy 23 = .ok (.aload_n 0, 1) := by decide +kernel
theorem dX8_childBy_24 : decode cX8_childBy 24 = .ok (.getfield 12, 3) := by decide +kernel
theorem dX8_childBy_27 : decode cX8_childBy 27 = .ok (.iload_n 3, 1) := by decide +kernel
theorem dX8_childBy_28 : decode cX8_childBy 28 = .ok (.invokevirtual 34, 3) := by decide +kernel
theorem dX8_childBy_31 : decode cX8_childBy 31 = .ok (.checkcast 38, 3) := by decide +kernel
theorem dX8_childBy_34 : decode cX8_childBy 34 = .ok (.astore 4, 2) := by decide +kernel
theorem dX8_childBy_36 : decode cX8_childBy 36 = .ok (.aload 4, 2) := by decide +kernel
theorem dX8_childBy_38 : decode cX8_childBy 38 = .ok (.getfield 55, 3) := by decide +kernel
theorem dX8_childBy_41 : decode cX8_childBy 41 = .ok (.aload_n 2, 1) := by decide +kernel
theorem dX8_childBy_42 : decode cX8_childBy 42 = .ok (.if_acmp .ne 17, 3) := by decide +kernel
theorem dX8_childBy_45 : decode cX8_childBy 45 = .ok (.aload 4, 2) := by decide +kernel
theorem dX8_childBy_47 : decode cX8_childBy 47 = .ok (.getfield 59, 3) := by decide +kernel
theorem dX8_childBy_50 : decode cX8_childBy 50 = .ok (.aload_n 1, 1) := by decide +kernel
theorem dX8_childBy_51 : decode cX8_childBy 51 = .ok (.invokevirtual 63, 3) := by decide +kernel
theorem dX8_childBy_54 : decode cX8_childBy 54 = .ok (.ifCond .eq 5, 3) := by decide +kernel
theorem dX8_childBy_57 : decode cX8_childBy 57 = .ok (.iload_n 3, 1) := by decide +kernel
theorem dX8_childBy_58 : decode cX8_childBy 58 = .ok (.ireturn, 1) := by decide +kernel
theorem dX8_childBy_59 : decode cX8_childBy 59 = .ok (.iinc 3 1, 3) := by decide +kernel
theorem dX8_childBy_62 : decode cX8_childBy 62 = .ok (.goto (-50), 3) := by decide +kernel
theorem dX8_childBy_65 : decode cX8_childBy 65 = .ok (.iconst (-1), 1) := by decide +kernel
theorem dX8_childBy_66 : decode cX8_childBy 66 = .ok (.ireturn, 1) := by decide +kernel
theorem dX8_childAt_0 : decode cX8_childAt 0 = .ok (.aload_n 0, 1) := by decide +kernel
theorem dX8_childAt_1 : decode cX8_childAt 1 = .ok (.invokevirtual 40, 3) := by decide +kernel
theorem dX8_childAt_4 : decode cX8_childAt 4 = .ok (.astore_n 2, 1) := by decide +kernel
theorem dX8_childAt_5 : decode cX8_childAt 5 = .ok (.iconst 0, 1) := by decide +kernel
theorem dX8_childAt_6 : decode cX8_childAt 6 = .ok (.istore_n 3, 1) := by decide +kernel
theorem dX8_childAt_7 : decode cX8_childAt 7 = .ok (.aload_n 0, 1) := by decide +kernel
theorem dX8_childAt_8 : decode cX8_childAt 8 = .ok (.getfield 30, 3) := by decide +kernel
theorem dX8_childAt_11 : decode cX8_childAt 11 = .ok (.iconst 1, 1) := by decide +kernel
theorem dX8_childAt_12 : decode cX8_childAt 12 = .ok (.iadd, 1) := by decide +kernel
theorem dX8_childAt_13 : decode cX8_childAt 13 = .ok (.istore 4, 2) := by decide +kernel
theorem dX8_childAt_15 : decode cX8_childAt 15 = .ok (.iload 4, 2) := by decide +kernel
theorem dX8_childAt_17 : decode cX8_childAt 17 = .ok (.aload_n 0, 1) := by decide +kernel
theorem dX8_childAt_18 : decode cX8_childAt 18 = .ok (.getfield 12, 3) := by decide +kernel
theorem dX8_childAt_21 : decode cX8_childAt 21 = .ok (.invokevirtual 26, 3) := by decide +kernel
theorem dX8_childAt_24 : decode cX8_childAt 24 = .ok (.if_icmp .ge 39, 3) := by decide +kernel
theorem dX8_childAt_27 : decode cX8_childAt 27 = .ok (.aload_n 0, 1) := by decide +kernel
theorem dX8_childAt_28 : decode cX8_childAt 28 = .ok (.getfield 12, 3) := by decide +kernel
theorem dX8_childAt_31 : decode cX8_childAt 31 = .ok (.iload 4, 2) := by decide +kernel
theorem dX8_childAt_33 : decode cX8_childAt 33 = .ok (.invokevirtual 34, 3) := by decide +kernel
theorem dX8_childAt_36 : decode cX8_childAt 36 = .ok (.checkcast 38, 3) := by decide +kernel
theorem dX8_childAt_39 : decode cX8_childAt 39 = .ok (.getfield 55, 3) := by decide +kernel
theorem dX8_childAt_42 : decode cX8_childAt 42 = .ok (.aload_n 2, 1) := by decide +kernel
theorem dX8_childAt_43 : decode cX8_childAt 43 = .ok (.if_acmp .ne 14, 3) := by decide +kernel
theorem dX8_childAt_46 : decode cX8_childAt 46 = .ok (.iload_n 3, 1) := by decide +kernel
theorem dX8_childAt_47 : decode cX8_childAt 47 = .ok (.iload_n 1, 1) := by decide +kernel
theorem dX8_childAt_48 : decode cX8_childAt 48 = .ok (.if_icmp .ne 6, 3) := by decide +kernel
theorem dX8_childAt_51 : decode cX8_childAt 51 = .ok (.iload 4, 2) := by decide +kernel
theorem dX8_childAt_53 : decode cX8_childAt 53 = .ok (.ireturn, 1) := by decide +kernel
theorem dX8_childAt_54 : decode cX8_childAt 54 = .ok (.iinc 3 1, 3) := by decide +kernel
theorem dX8_childAt_57 : decode cX8_childAt 57 = .ok (.iinc 4 1, 3) := by decide +kernel
theorem dX8_childAt_60 : decode cX8_childAt 60 = .ok (.goto (-45), 3) := by decide +kernel
theorem dX8_childAt_63 : decode cX8_childAt 63 = .ok (.iconst (-1), 1) := by decide +kernel
theorem dX8_childAt_64 : decode cX8_childAt 64 = .ok (.ireturn, 1) := by decide +kernel
theorem dX8_childCount_0 : decode cX8_childCount 0 = .ok (.aload_n 0, 1) := by decide +kernel
theorem dX8_childCount_1 : decode cX8_childCount 1 = .ok (.getfield 12, 3) := by decide +kernel
theorem dX8_childCount_4 : decode cX8_childCount 4 = .ok (.iload_n 1, 1) := by decide +kernel
theorem dX8_childCount_5 : decode cX8_childCount 5 = .ok (.invokevirtual 34, 3) := by decide +kernel
theorem dX8_childCount_8 : decode cX8_childCount 8 = .ok (.checkcast 38, 3) := by decide +kernel
theorem dX8_childCount_11 : decode cX8_childCount 11 = .ok (.astore_n 2, 1) := by decide +kernel
theorem dX8_childCount_12 : decode cX8_childCount 12 = .ok (.iconst 0, 1) := by decide +kernel
theorem dX8_childCount_13 : decode cX8_childCount 13 = .ok (.istore_n 3, 1) := by decide +kernel
theorem dX8_childCount_14 : decode cX8_childCount 14 = .ok (.iload_n 1, 1) := by decide +kernel
theorem dX8_childCount_15 : decode cX8_childCount 15 = .ok (.iconst 1, 1) := by decide +kernel
theorem dX8_childCount_16 : decode cX8_childCount 16 = .ok (.iadd, 1) := by decide +kernel
theorem dX8_childCount_17 : decode cX8_childCount 17 = .ok (.istore 4, 2) := by decide +kernel
theorem dX8_childCount_19 : decode cX8_childCount 19 = .ok (.iload 4, 2) := by decide +kernel
theorem dX8_childCount_21 : decode cX8_childCount 21 = .ok (.aload_n 0, 1) := by decide +kernel
theorem dX8_childCount_22 : decode cX8_childCount 22 = .ok (.getfield 12, 3) := by decide +kernel
theorem dX8_childCount_25 : decode cX8_childCount 25 = .ok (.invokevirtual 26, 3) := by decide +kernel
theorem dX8_childCount_28 : decode cX8_childCount 28 = .ok (.if_icmp .ge 31, 3) := by decide +kernel
theorem dX8_childCount_31 : decode cX8_childCount 31 = .ok (.aload_n 0, 1) := by decide +kernel
theorem dX8_childCount_32 : decode cX8_childCount 32 = .ok (.getfield 12, 3) := by decide +kernel
theorem dX8_childCount_35 : decode cX8_childCount 35 = .ok (.iload 4, 2) := by decide +kernel
theorem dX8_childCount_37 : decode cX8_childCount 37 = .ok (.invokevirtual 34, 3) := by decide +kernel
theorem dX8_childCount_40 : decode cX8_childCount 40 = .ok (.checkcast 38, 3) := by decide +kernel
theorem dX8_childCount_43 : decode cX8_childCount 43 = .ok (.getfield 55, 3) := by decide +kernel
theorem dX8_childCount_46 : decode cX8_childCount 46 = .ok (.aload_n 2, 1) := by decide +kernel
theorem dX8_childCount_47 : decode cX8_childCount 47 = .ok (.if_acmp .ne 6, 3) := by decide +kernel
theorem dX8_childCount_50 : decode cX8_childCount 50 = .ok (.iinc 3 1, 3) := by decide +kernel
theorem dX8_childCount_53 : decode cX8_childCount 53 = .ok (.iinc 4 1, 3) := by decide +kernel
theorem dX8_childCount_56 : decode cX8_childCount 56 = .ok (.goto (-37), 3) := by decide +kernel
theorem dX8_childCount_59 : decode cX8_childCount 59 = .ok (.iload_n 3, 1) := by decide +kernel
theorem dX8_childCount_60 : decode cX8_childCount 60 = .ok (.ireturn, 1) := by decide +kernel
theorem dX8_nodeLabelled_0 : decode cX8_nodeLabelled 0 = .ok (.iconst 0, 1) := by decide +kernel
theorem dX8_nodeLabelled_1 : decode cX8_nodeLabelled 1 = .ok (.istore_n 3, 1) := by decide +kernel
theorem dX8_nodeLabelled_2 : decode cX8_nodeLabelled 2 = .ok (.iload_n 3, 1) := by decide +kernel
theorem dX8_nodeLabelled_3 : decode cX8_nodeLabelled 3 = .ok (.aload_n 0, 1) := by decide +kernel
theorem dX8_nodeLabelled_4 : decode cX8_nodeLabelled 4 = .ok (.getfield 12, 3) := by decide +kernel
theorem dX8_nodeLabelled_7 : decode cX8_nodeLabelled 7 = .ok (.invokevirtual 26, 3) := by decide +kernel
theorem dX8_nodeLabelled_10 : decode cX8_nodeLabelled 10 = .ok (.if_icmp .ge 36, 3) := by decide +kernel
theorem dX8_nodeLabelled_13 : decode cX8_nodeLabelled 13 = .ok (.lload_n 1, 1) := by decide +kernel
theorem dX8_nodeLabelled_14 : decode cX8_nodeLabelled 14 = .ok (.lconst 0, 1) := by decide +kernel
theorem dX8_nodeLabelled_15 : decode cX8_nodeLabelled 15 = .ok (.lcmp, 1) := by decide +kernel
theorem dX8_nodeLabelled_16 : decode cX8_nodeLabelled 16 = .ok (.ifCond .eq 24, 3) := by decide +kernel
theorem dX8_nodeLabelled_19 : decode cX8_nodeLabelled 19 = .ok (.aload_n 0, 1) := by decide +kernel
theorem dX8_nodeLabelled_20 : decode cX8_nodeLabelled 20 = .ok (.getfield 12, 3) := by decide +kernel
theorem dX8_nodeLabelled_23 : decode cX8_nodeLabelled 23 = .ok (.iload_n 3, 1) := by decide +kernel
theorem dX8_nodeLabelled_24 : decode cX8_nodeLabelled 24 = .ok (.invokevirtual 34, 3) := by decide +kernel
theorem dX8_nodeLabelled_27 : decode cX8_nodeLabelled 27 = .ok (.checkcast 38, 3) := by decide +kernel
theorem dX8_nodeLabelled_30 : decode cX8_nodeLabelled 30 = .ok (.getfield 69, 3) := by decide +kernel
theorem dX8_nodeLabelled_33 : decode cX8_nodeLabelled 33 = .ok (.lload_n 1, 1) := by decide +kernel
theorem dX8_nodeLabelled_34 : decode cX8_nodeLabelled 34 = .ok (.lcmp, 1) := by decide +kernel
theorem dX8_nodeLabelled_35 : decode cX8_nodeLabelled 35 = .ok (.ifCond .ne 5, 3) := by decide +kernel
theorem dX8_nodeLabelled_38 : decode cX8_nodeLabelled 38 = .ok (.iload_n 3, 1) := by decide +kernel
theorem dX8_nodeLabelled_39 : decode cX8_nodeLabelled 39 = .ok (.ireturn, 1) := by decide +kernel
theorem dX8_nodeLabelled_40 : decode cX8_nodeLabelled 40 = .ok (.iinc 3 1, 3) := by decide +kernel
theorem dX8_nodeLabelled_43 : decode cX8_nodeLabelled 43 = .ok (.goto (-41), 3) := by decide +kernel
theorem dX8_nodeLabelled_46 : decode cX8_nodeLabelled 46 = .ok (.iconst (-1), 1) := by decide +kernel
theorem dX8_nodeLabelled_47 : decode cX8_nodeLabelled 47 = .ok (.ireturn, 1) := by decide +kernel
theorem dX8_labelCount_0 : decode cX8_labelCount 0 = .ok (.iconst 0, 1) := by decide +kernel
theorem dX8_labelCount_1 : decode cX8_labelCount 1 = .ok (.istore_n 1, 1) := by decide +kernel
theorem dX8_labelCount_2 : decode cX8_labelCount 2 = .ok (.iconst 0, 1) := by decide +kernel
theorem dX8_labelCount_3 : decode cX8_labelCount 3 = .ok (.istore_n 2, 1) := by decide +kernel
theorem dX8_labelCount_4 : decode cX8_labelCount 4 = .ok (.iload_n 2, 1) := by decide +kernel
theorem dX8_labelCount_5 : decode cX8_labelCount 5 = .ok (.aload_n 0, 1) := by decide +kernel
theorem dX8_labelCount_6 : decode cX8_labelCount 6 = .ok (.getfield 12, 3) := by decide +kernel
theorem dX8_labelCount_9 : decode cX8_labelCount 9 = .ok (.invokevirtual 26, 3) := by decide +kernel
theorem dX8_labelCount_12 : decode cX8_labelCount 12 = .ok (.if_icmp .ge 31, 3) := by decide +kernel
theorem dX8_labelCount_15 : decode cX8_labelCount 15 = .ok (.aload_n 0, 1) := by decide +kernel
theorem dX8_labelCount_16 : decode cX8_labelCount 16 = .ok (.getfield 12, 3) := by decide +kernel
theorem dX8_labelCount_19 : decode cX8_labelCount 19 = .ok (.iload_n 2, 1) := by decide +kernel
theorem dX8_labelCount_20 : decode cX8_labelCount 20 = .ok (.invokevirtual 34, 3) := by decide +kernel
theorem dX8_labelCount_23 : decode cX8_labelCount 23 = .ok (.checkcast 38, 3) := by decide +kernel
theorem dX8_labelCount_26 : decode cX8_labelCount 26 = .ok (.getfield 69, 3) := by decide +kernel
theorem dX8_labelCount_29 : decode cX8_labelCount 29 = .ok (.lconst 0, 1) := by decide +kernel
theorem dX8_labelCount_30 : decode cX8_labelCount 30 = .ok (.lcmp, 1) := by decide +kernel
theorem dX8_labelCount_31 : decode cX8_labelCount 31 = .ok (.ifCond .eq 6, 3) := by decide +kernel
theorem dX8_labelCount_34 : decode cX8_labelCount 34 = .ok (.iinc 1 1, 3) := by decide +kernel
theorem dX8_labelCount_37 : decode cX8_labelCount 37 = .ok (.iinc 2 1, 3) := by decide +kernel
theorem dX8_labelCount_40 : decode cX8_labelCount 40 = .ok (.goto (-36), 3) := by decide +kernel
theorem dX8_labelCount_43 : decode cX8_labelCount 43 = .ok (.iload_n 1, 1) := by decide +kernel
theorem dX8_labelCount_44 : decode cX8_labelCount 44 = .ok (.ireturn, 1) := by decide +kernel
theorem dX8_postingAt_0 : decode cX8_postingAt 0 = .ok (.iconst 0, 1) := by decide +kernel
theorem dX8_postingAt_1 : decode cX8_postingAt 1 = .ok (.istore_n 3, 1) := by decide +kernel
theorem dX8_postingAt_2 : decode cX8_postingAt 2 = .ok (.iconst 0, 1) := by decide +kernel
theorem dX8_postingAt_3 : decode cX8_postingAt 3 = .ok (.istore 4, 2) := by decide +kernel
theorem dX8_postingAt_5 : decode cX8_postingAt 5 = .ok (.iload 4, 2) := by decide +kernel
theorem dX8_postingAt_7 : decode cX8_postingAt 7 = .ok (.aload_n 0, 1) := by decide +kernel
theorem dX8_postingAt_8 : decode cX8_postingAt 8 = .ok (.getfield 12, 3) := by decide +kernel
theorem dX8_postingAt_11 : decode cX8_postingAt 11 = .ok (.invokevirtual 26, 3) := by decide +kernel
theorem dX8_postingAt_14 : decode cX8_postingAt 14 = .ok (.if_icmp .ge 42, 3) := by decide +kernel
theorem dX8_postingAt_17 : decode cX8_postingAt 17 = .ok (.aload_n 0, 1) := by decide +kernel
theorem dX8_postingAt_18 : decode cX8_postingAt 18 = .ok (.getfield 12, 3) := by decide +kernel
theorem dX8_postingAt_21 : decode cX8_postingAt 21 = .ok (.iload 4, 2) := by decide +kernel
theorem dX8_postingAt_23 : decode cX8_postingAt 23 = .ok (.invokevirtual 34, 3) := by decide +kernel
theorem dX8_postingAt_26 : decode cX8_postingAt 26 = .ok (.checkcast 38, 3) := by decide +kernel
theorem dX8_postingAt_29 : decode cX8_postingAt 29 = .ok (.getfield 73, 3) := by decide +kernel
theorem dX8_postingAt_32 : decode cX8_postingAt 32 = .ok (.iload_n 1, 1) := by decide +kernel
theorem dX8_postingAt_33 : decode cX8_postingAt 33 = .ok (.invokestatic 51, 3) := by decide +kernel
theorem dX8_postingAt_36 : decode cX8_postingAt 36 = .ok (.ifCond .eq 14, 3) := by decide +kernel
theorem dX8_postingAt_39 : decode cX8_postingAt 39 = .ok (.iload_n 3, 1) := by decide +kernel
theorem dX8_postingAt_40 : decode cX8_postingAt 40 = .ok (.iload_n 2, 1) := by decide +kernel
theorem dX8_postingAt_41 : decode cX8_postingAt 41 = .ok (.if_icmp .ne 6, 3) := by decide +kernel
theorem dX8_postingAt_44 : decode cX8_postingAt 44 = .ok (.iload 4, 2) := by decide +kernel
theorem dX8_postingAt_46 : decode cX8_postingAt 46 = .ok (.ireturn, 1) := by decide +kernel
theorem dX8_postingAt_47 : decode cX8_postingAt 47 = .ok (.iinc 3 1, 3) := by decide +kernel
theorem dX8_postingAt_50 : decode cX8_postingAt 50 = .ok (.iinc 4 1, 3) := by decide +kernel
theorem dX8_postingAt_53 : decode cX8_postingAt 53 = .ok (.goto (-48), 3) := by decide +kernel
theorem dX8_postingAt_56 : decode cX8_postingAt 56 = .ok (.iconst (-1), 1) := by decide +kernel
theorem dX8_postingAt_57 : decode cX8_postingAt 57 = .ok (.ireturn, 1) := by decide +kernel
theorem dX8_nodesShowing_0 : decode cX8_nodesShowing 0 = .ok (.iconst 0, 1) := by decide +kernel
theorem dX8_nodesShowing_1 : decode cX8_nodesShowing 1 = .ok (.istore_n 3, 1) := by decide +kernel
theorem dX8_nodesShowing_2 : decode cX8_nodesShowing 2 = .ok (.iconst 0, 1) := by decide +kernel
theorem dX8_nodesShowing_3 : decode cX8_nodesShowing 3 = .ok (.istore 4, 2) := by decide +kernel
theorem dX8_nodesShowing_5 : decode cX8_nodesShowing 5 = .ok (.iload 4, 2) := by decide +kernel
theorem dX8_nodesShowing_7 : decode cX8_nodesShowing 7 = .ok (.aload_n 0, 1) := by decide +kernel
theorem dX8_nodesShowing_8 : decode cX8_nodesShowing 8 = .ok (.getfield 12, 3) := by decide +kernel
theorem dX8_nodesShowing_11 : decode cX8_nodesShowing 11 = .ok (.invokevirtual 26, 3) := by decide +kernel
theorem dX8_nodesShowing_14 : decode cX8_nodesShowing 14 = .ok (.if_icmp .ge 34, 3) := by decide +kernel
theorem dX8_nodesShowing_17 : decode cX8_nodesShowing 17 = .ok (.aload_n 0, 1) := by decide +kernel
theorem dX8_nodesShowing_18 : decode cX8_nodesShowing 18 = .ok (.getfield 12, 3) := by decide +kernel
theorem dX8_nodesShowing_21 : decode cX8_nodesShowing 21 = .ok (.iload 4, 2) := by decide +kernel
theorem dX8_nodesShowing_23 : decode cX8_nodesShowing 23 = .ok (.invokevirtual 34, 3) := by decide +kernel
theorem dX8_nodesShowing_26 : decode cX8_nodesShowing 26 = .ok (.checkcast 38, 3) := by decide +kernel
theorem dX8_nodesShowing_29 : decode cX8_nodesShowing 29 = .ok (.getfield 73, 3) := by decide +kernel
theorem dX8_nodesShowing_32 : decode cX8_nodesShowing 32 = .ok (.lload_n 1, 1) := by decide +kernel
theorem dX8_nodesShowing_33 : decode cX8_nodesShowing 33 = .ok (.land, 1) := by decide +kernel
theorem dX8_nodesShowing_34 : decode cX8_nodesShowing 34 = .ok (.lconst 0, 1) := by decide +kernel
theorem dX8_nodesShowing_35 : decode cX8_nodesShowing 35 = .ok (.lcmp, 1) := by decide +kernel
theorem dX8_nodesShowing_36 : decode cX8_nodesShowing 36 = .ok (.ifCond .eq 6, 3) := by decide +kernel
theorem dX8_nodesShowing_39 : decode cX8_nodesShowing 39 = .ok (.iinc 3 1, 3) := by decide +kernel
theorem dX8_nodesShowing_42 : decode cX8_nodesShowing 42 = .ok (.iinc 4 1, 3) := by decide +kernel
theorem dX8_nodesShowing_45 : decode cX8_nodesShowing 45 = .ok (.goto (-40), 3) := by decide +kernel
theorem dX8_nodesShowing_48 : decode cX8_nodesShowing 48 = .ok (.iload_n 3, 1) := by decide +kernel
theorem dX8_nodesShowing_49 : decode cX8_nodesShowing 49 = .ok (.ireturn, 1) := by decide +kernel
theorem dX8_byRarity_0 : decode cX8_byRarity 0 = .ok (.iconst 0, 1) := by decide +kernel
theorem dX8_byRarity_1 : decode cX8_byRarity 1 = .ok (.istore 4, 2) := by decide +kernel
theorem dX8_byRarity_3 : decode cX8_byRarity 3 = .ok (.iload 4, 2) := by decide +kernel
theorem dX8_byRarity_5 : decode cX8_byRarity 5 = .ok (.bipush 40, 2) := by decide +kernel
theorem dX8_byRarity_7 : decode cX8_byRarity 7 = .ok (.if_icmp .ge 32, 3) := by decide +kernel
theorem dX8_byRarity_10 : decode cX8_byRarity 10 = .ok (.lload_n 1, 1) := by decide +kernel
theorem dX8_byRarity_11 : decode cX8_byRarity 11 = .ok (.iload 4, 2) := by decide +kernel
theorem dX8_byRarity_13 : decode cX8_byRarity 13 = .ok (.invokestatic 51, 3) := by decide +kernel
theorem dX8_byRarity_16 : decode cX8_byRarity 16 = .ok (.ifCond .eq 17, 3) := by decide +kernel
theorem dX8_byRarity_19 : decode cX8_byRarity 19 = .ok (.aload_n 0, 1) := by decide +kernel
theorem dX8_byRarity_20 : decode cX8_byRarity 20 = .ok (.lload_n 1, 1) := by decide +kernel
theorem dX8_byRarity_21 : decode cX8_byRarity 21 = .ok (.iload 4, 2) := by decide +kernel
theorem dX8_byRarity_23 : decode cX8_byRarity 23 = .ok (.invokevirtual 76, 3) := by decide +kernel
theorem dX8_byRarity_26 : decode cX8_byRarity 26 = .ok (.iload_n 3, 1) := by decide +kernel
theorem dX8_byRarity_27 : decode cX8_byRarity 27 = .ok (.if_icmp .ne 6, 3) := by decide +kernel
theorem dX8_byRarity_30 : decode cX8_byRarity 30 = .ok (.iload 4, 2) := by decide +kernel
theorem dX8_byRarity_32 : decode cX8_byRarity 32 = .ok (.ireturn, 1) := by decide +kernel
theorem dX8_byRarity_33 : decode cX8_byRarity 33 = .ok (.iinc 4 1, 3) := by decide +kernel
theorem dX8_byRarity_36 : decode cX8_byRarity 36 = .ok (.goto (-33), 3) := by decide +kernel
theorem dX8_byRarity_39 : decode cX8_byRarity 39 = .ok (.iconst (-1), 1) := by decide +kernel
theorem dX8_byRarity_40 : decode cX8_byRarity 40 = .ok (.ireturn, 1) := by decide +kernel
theorem dX8_rarerThan_0 : decode cX8_rarerThan 0 = .ok (.iconst 0, 1) := by decide +kernel
theorem dX8_rarerThan_1 : decode cX8_rarerThan 1 = .ok (.istore 4, 2) := by decide +kernel
theorem dX8_rarerThan_3 : decode cX8_rarerThan 3 = .ok (.iconst 0, 1) := by decide +kernel
theorem dX8_rarerThan_4 : decode cX8_rarerThan 4 = .ok (.istore 5, 2) := by decide +kernel
theorem dX8_rarerThan_6 : decode cX8_rarerThan 6 = .ok (.iload 5, 2) := by decide +kernel
theorem dX8_rarerThan_8 : decode cX8_rarerThan 8 = .ok (.bipush 40, 2) := by decide +kernel
theorem dX8_rarerThan_10 : decode cX8_rarerThan 10 = .ok (.if_icmp .ge 71, 3) := by decide +kernel
theorem dX8_rarerThan_13 : decode cX8_rarerThan 13 = .ok (.aload_n 0, 1) := by decide +kernel
theorem dX8_rarerThan_14 : decode cX8_rarerThan 14 = .ok (.getfield 18, 3) := by decide +kernel
theorem dX8_rarerThan_17 : decode cX8_rarerThan 17 = .ok (.iload 5, 2) := by decide +kernel
theorem dX8_rarerThan_19 : decode cX8_rarerThan 19 = .ok (.iaload, 1) := by decide +kernel
theorem dX8_rarerThan_20 : decode cX8_rarerThan 20 = .ok (.aload_n 0, 1) := by decide +kernel
theorem dX8_rarerThan_21 : decode cX8_rarerThan 21 = .ok (.getfield 18, 3) := by decide +kernel
theorem dX8_rarerThan_24 : decode cX8_rarerThan 24 = .ok (.iload_n 3, 1) := by decide +kernel
theorem dX8_rarerThan_25 : decode cX8_rarerThan 25 = .ok (.iaload, 1) := by decide +kernel
theorem dX8_rarerThan_26 : decode cX8_rarerThan 26 = .ok (.if_icmp .lt 25, 3) := by decide +kernel
theorem dX8_rarerThan_29 : decode cX8_rarerThan 29 = .ok (.aload_n 0, 1) := by decide +kernel
theorem dX8_rarerThan_30 : decode cX8_rarerThan 30 = .ok (.getfield 18, 3) := by decide +kernel
theorem dX8_rarerThan_33 : decode cX8_rarerThan 33 = .ok (.iload 5, 2) := by decide +kernel
theorem dX8_rarerThan_35 : decode cX8_rarerThan 35 = .ok (.iaload, 1) := by decide +kernel
theorem dX8_rarerThan_36 : decode cX8_rarerThan 36 = .ok (.aload_n 0, 1) := by decide +kernel
theorem dX8_rarerThan_37 : decode cX8_rarerThan 37 = .ok (.getfield 18, 3) := by decide +kernel
theorem dX8_rarerThan_40 : decode cX8_rarerThan 40 = .ok (.iload_n 3, 1) := by decide +kernel
theorem dX8_rarerThan_41 : decode cX8_rarerThan 41 = .ok (.iaload, 1) := by decide +kernel
theorem dX8_rarerThan_42 : decode cX8_rarerThan 42 = .ok (.if_icmp .ne 13, 3) := by decide +kernel
theorem dX8_rarerThan_45 : decode cX8_rarerThan 45 = .ok (.iload 5, 2) := by decide +kernel
theorem dX8_rarerThan_47 : decode cX8_rarerThan 47 = .ok (.iload_n 3, 1) := by decide +kernel
theorem dX8_rarerThan_48 : decode cX8_rarerThan 48 = .ok (.if_icmp .ge 7, 3) := by decide +kernel
theorem dX8_rarerThan_51 : decode cX8_rarerThan 51 = .ok (.iconst 1, 1) := by decide +kernel
theorem dX8_rarerThan_52 : decode cX8_rarerThan 52 = .ok (.goto 4, 3) := by decide +kernel
theorem dX8_rarerThan_55 : decode cX8_rarerThan 55 = .ok (.iconst 0, 1) := by decide +kernel
theorem dX8_rarerThan_56 : decode cX8_rarerThan 56 = .ok (.istore 6, 2) := by decide +kernel
theorem dX8_rarerThan_58 : decode cX8_rarerThan 58 = .ok (.iload 6, 2) := by decide +kernel
theorem dX8_rarerThan_60 : decode cX8_rarerThan 60 = .ok (.ifCond .eq 15, 3) := by decide +kernel
theorem dX8_rarerThan_63 : decode cX8_rarerThan 63 = .ok (.lload_n 1, 1) := by decide +kernel
theorem dX8_rarerThan_64 : decode cX8_rarerThan 64 = .ok (.iload 5, 2) := by decide +kernel
theorem dX8_rarerThan_66 : decode cX8_rarerThan 66 = .ok (.invokestatic 51, 3) := by decide +kernel
theorem dX8_rarerThan_69 : decode cX8_rarerThan 69 = .ok (.ifCond .eq 6, 3) := by decide +kernel
theorem dX8_rarerThan_72 : decode cX8_rarerThan 72 = .ok (.iinc 4 1, 3) := by decide +kernel
theorem dX8_rarerThan_75 : decode cX8_rarerThan 75 = .ok (.iinc 5 1, 3) := by decide +kernel
theorem dX8_rarerThan_78 : decode cX8_rarerThan 78 = .ok (.goto (-72), 3) := by decide +kernel
theorem dX8_rarerThan_81 : decode cX8_rarerThan 81 = .ok (.iload 4, 2) := by decide +kernel
theorem dX8_rarerThan_83 : decode cX8_rarerThan 83 = .ok (.ireturn, 1) := by decide +kernel
theorem dX10_init_0 : decode cX10_init 0 = .ok (.aload_n 0, 1) := by decide +kernel
theorem dX10_init_1 : decode cX10_init 1 = .ok (.invokespecial 3, 3) := by decide +kernel
theorem dX10_init_4 : decode cX10_init 4 = .ok (.aload_n 0, 1) := by decide +kernel
theorem dX10_init_5 : decode cX10_init 5 = .ok (.bipush 40, 2) := by decide +kernel
theorem dX10_init_7 : decode cX10_init 7 = .ok (.newarray .long, 2) := by decide +kernel
theorem dX10_init_9 : decode cX10_init 9 = .ok (.putfield 9, 3) := by decide +kernel
theorem dX10_init_12 : decode cX10_init 12 = .ok (.aload_n 0, 1) := by decide +kernel
theorem dX10_init_13 : decode cX10_init 13 = .ok (.bipush 12, 2) := by decide +kernel
theorem dX10_init_15 : decode cX10_init 15 = .ok (.newarray .boolean, 2) := by decide +kernel
theorem dX10_init_17 : decode cX10_init 17 = .ok (.putfield 15, 3) := by decide +kernel
theorem dX10_init_20 : decode cX10_init 20 = .ok (.aload_n 0, 1) := by decide +kernel
theorem dX10_init_21 : decode cX10_init 21 = .ok (.bipush 12, 2) := by decide +kernel
theorem dX10_init_23 : decode cX10_init 23 = .ok (.newarray .long, 2) := by decide +kernel
theorem dX10_init_25 : decode cX10_init 25 = .ok (.putfield 19, 3) := by decide +kernel
theorem dX10_init_28 : decode cX10_init 28 = .ok (.aload_n 0, 1) := by decide +kernel
theorem dX10_init_29 : decode cX10_init 29 = .ok (.bipush 72, 2) := by decide +kernel
theorem dX10_init_31 : decode cX10_init 31 = .ok (.newarray .int, 2) := by decide +kernel
theorem dX10_init_33 : decode cX10_init 33 = .ok (.putfield 22, 3) := by decide +kernel
theorem dX10_init_36 : decode cX10_init 36 = .ok (.aload_n 0, 1) := by decide +kernel
theorem dX10_init_37 : decode cX10_init 37 = .ok (.bipush 72, 2) := by decide +kernel
theorem dX10_init_39 : decode cX10_init 39 = .ok (.newarray .int, 2) := by decide +kernel
theorem dX10_init_41 : decode cX10_init 41 = .ok (.putfield 26, 3) := by decide +kernel
theorem dX10_init_44 : decode cX10_init 44 = .ok (.aload_n 0, 1) := by decide +kernel
theorem dX10_init_45 : decode cX10_init 45 = .ok (.bipush 12, 2) := by decide +kernel
theorem dX10_init_47 : decode cX10_init 47 = .ok (.newarray .int, 2) := by decide +kernel
theorem dX10_init_49 : decode cX10_init 49 = .ok (.putfield 29, 3) := by decide +kernel
theorem dX10_init_52 : decode cX10_init 52 = .ok (.aload_n 0, 1) := by decide +kernel
theorem dX10_init_53 : decode cX10_init 53 = .ok (.bipush 12, 2) := by decide +kernel
theorem dX10_init_55 : decode cX10_init 55 = .ok (.newarray .int, 2) := by decide +kernel
theorem dX10_init_57 : decode cX10_init 57 = .ok (.putfield 32, 3) := by decide +kernel
theorem dX10_init_60 : decode cX10_init 60 = .ok (.aload_n 0, 1) := by decide +kernel
theorem dX10_init_61 : decode cX10_init 61 = .ok (.bipush 12, 2) := by decide +kernel
theorem dX10_init_63 : decode cX10_init 63 = .ok (.newarray .int, 2) := by decide +kernel
theorem dX10_init_65 : decode cX10_init 65 = .ok (.putfield 35, 3) := by decide +kernel
theorem dX10_init_68 : decode cX10_init 68 = .ok (.aload_n 0, 1) := by decide +kernel
theorem dX10_init_69 : decode cX10_init 69 = .ok (.bipush 12, 2) := by decide +kernel
theorem dX10_init_71 : decode cX10_init 71 = .ok (.newarray .char, 2) := by decide +kernel
theorem dX10_init_73 : decode cX10_init 73 = .ok (.putfield 38, 3) := by decide +kernel
theorem dX10_init_76 : decode cX10_init 76 = .ok (.aload_n 0, 1) := by decide +kernel
theorem dX10_init_77 : decode cX10_init 77 = .ok (.bipush 12, 2) := by decide +kernel
theorem dX10_init_79 : decode cX10_init 79 = .ok (.newarray .int, 2) := by decide +kernel
theorem dX10_init_81 : decode cX10_init 81 = .ok (.putfield 42, 3) := by decide +kernel
theorem dX10_init_84 : decode cX10_init 84 = .ok (.aload_n 0, 1) := by decide +kernel
theorem dX10_init_85 : decode cX10_init 85 = .ok (.bipush 12, 2) := by decide +kernel
theorem dX10_init_87 : decode cX10_init 87 = .ok (.newarray .long, 2) := by decide +kernel
theorem dX10_init_89 : decode cX10_init 89 = .ok (.putfield 45, 3) := by decide +kernel
theorem dX10_init_92 : decode cX10_init 92 = .ok (.aload_n 0, 1) := by decide +kernel
theorem dX10_init_93 : decode cX10_init 93 = .ok (.bipush 6, 2) := by decide +kernel
theorem dX10_init_95 : decode cX10_init 95 = .ok (.newarray .int, 2) := by decide +kernel
theorem dX10_init_97 : decode cX10_init 97 = .ok (.putfield 48, 3) := by decide +kernel
theorem dX10_init_100 : decode cX10_init 100 = .ok (.aload_n 0, 1) := by decide +kernel
theorem dX10_init_101 : decode cX10_init 101 = .ok (.bipush 6, 2) := by decide +kernel
theorem dX10_init_103 : decode cX10_init 103 = .ok (.newarray .int, 2) := by decide +kernel
theorem dX10_init_105 : decode cX10_init 105 = .ok (.putfield 51, 3) := by decide +kernel
theorem dX10_init_108 : decode cX10_init 108 = .ok (.aload_n 0, 1) := by decide +kernel
theorem dX10_init_109 : decode cX10_init 109 = .ok (.getfield 22, 3) := by decide +kernel
theorem dX10_init_112 : decode cX10_init 112 = .ok (.iconst (-1), 1) := by decide +kernel
theorem dX10_init_113 : decode cX10_init 113 = .ok (.invokestatic 54, 3) := by decide +kernel
theorem dX10_init_116 : decode cX10_init 116 = .ok (.aload_n 0, 1) := by decide +kernel
theorem dX10_init_117 : decode cX10_init 117 = .ok (.getfield 26, 3) := by decide +kernel
theorem dX10_init_120 : decode cX10_init 120 = .ok (.iconst (-1), 1) := by decide +kernel
theorem dX10_init_121 : decode cX10_init 121 = .ok (.invokestatic 54, 3) := by decide +kernel
theorem dX10_init_124 : decode cX10_init 124 = .ok (.return_, 1) := by decide +kernel
theorem dX10_hasWord_0 : decode cX10_hasWord 0 = .ok (.iload_n 1, 1) := by decide +kernel
theorem dX10_hasWord_1 : decode cX10_hasWord 1 = .ok (.ifCond .lt 15, 3) := by decide +kernel
theorem dX10_hasWord_4 : decode cX10_hasWord 4 = .ok (.iload_n 1, 1) := by decide +kernel
theorem dX10_hasWord_5 : decode cX10_hasWord 5 = .ok (.aload_n 0, 1) := by decide +kernel
theorem dX10_hasWord_6 : decode cX10_hasWord 6 = .ok (.getfield 60, 3) := by decide +kernel
theorem dX10_hasWord_9 : decode cX10_hasWord 9 = .ok (.if_icmp .ge 7, 3) := by decide +kernel
theorem dX10_hasWord_12 : decode cX10_hasWord 12 = .ok (.iconst 1, 1) := by decide +kernel
theorem dX10_hasWord_13 : decode cX10_hasWord 13 = .ok (.goto 4, 3) := by decide +kernel
theorem dX10_hasWord_16 : decode cX10_hasWord 16 = .ok (.iconst 0, 1) := by decide +kernel
theorem dX10_hasWord_17 : decode cX10_hasWord 17 = .ok (.ireturn, 1) := by decide +kernel
theorem dX10_hasRoom_0 : decode cX10_hasRoom 0 = .ok (.iload_n 1, 1) := by decide +kernel
theorem dX10_hasRoom_1 : decode cX10_hasRoom 1 = .ok (.ifCond .lt 15, 3) := by decide +kernel
theorem dX10_hasRoom_4 : decode cX10_hasRoom 4 = .ok (.iload_n 1, 1) := by decide +kernel
theorem dX10_hasRoom_5 : decode cX10_hasRoom 5 = .ok (.aload_n 0, 1) := by decide +kernel
theorem dX10_hasRoom_6 : decode cX10_hasRoom 6 = .ok (.getfield 64, 3) := by decide +kernel
theorem dX10_hasRoom_9 : decode cX10_hasRoom 9 = .ok (.if_icmp .ge 7, 3) := by decide +kernel
theorem dX10_hasRoom_12 : decode cX10_hasRoom 12 = .ok (.iconst 1, 1) := by decide +kernel
theorem dX10_hasRoom_13 : decode cX10_hasRoom 13 = .ok (.goto 4, 3) := by decide +kernel
theorem dX10_hasRoom_16 : decode cX10_hasRoom 16 = .ok (.iconst 0, 1) := by decide +kernel
theorem dX10_hasRoom_17 : decode cX10_hasRoom 17 = .ok (.ireturn, 1) := by decide +kernel
theorem dX10_hasThing_0 : decode cX10_hasThing 0 = .ok (.iload_n 1, 1) := by decide +kernel
theorem dX10_hasThing_1 : decode cX10_hasThing 1 = .ok (.ifCond .lt 15, 3) := by decide +kernel
theorem dX10_hasThing_4 : decode cX10_hasThing 4 = .ok (.iload_n 1, 1) := by decide +kernel
theorem dX10_hasThing_5 : decode cX10_hasThing 5 = .ok (.aload_n 0, 1) := by decide +kernel
theorem dX10_hasThing_6 : decode cX10_hasThing 6 = .ok (.getfield 67, 3) := by decide +kernel
theorem dX10_hasThing_9 : decode cX10_hasThing 9 = .ok (.if_icmp .ge 7, 3) := by decide +kernel
theorem dX10_hasThing_12 : decode cX10_hasThing 12 = .ok (.iconst 1, 1) := by decide +kernel
theorem dX10_hasThing_13 : decode cX10_hasThing 13 = .ok (.goto 4, 3) := by decide +kernel
theorem dX10_hasThing_16 : decode cX10_hasThing 16 = .ok (.iconst 0, 1) := by decide +kernel
theorem dX10_hasThing_17 : decode cX10_hasThing 17 = .ok (.ireturn, 1) := by decide +kernel
theorem dX10_wordOf_0 : decode cX10_wordOf 0 = .ok (.iconst 0, 1) := by decide +kernel
theorem dX10_wordOf_1 : decode cX10_wordOf 1 = .ok (.istore_n 3, 1) := by decide +kernel
theorem dX10_wordOf_2 : decode cX10_wordOf 2 = .ok (.iload_n 3, 1) := by decide +kernel
theorem dX10_wordOf_3 : decode cX10_wordOf 3 = .ok (.aload_n 0, 1) := by decide +kernel
theorem dX10_wordOf_4 : decode cX10_wordOf 4 = .ok (.getfield 60, 3) := by decide +kernel
theorem dX10_wordOf_7 : decode cX10_wordOf 7 = .ok (.if_icmp .ge 22, 3) := by decide +kernel
theorem dX10_wordOf_10 : decode cX10_wordOf 10 = .ok (.aload_n 0, 1) := by decide +kernel
theorem dX10_wordOf_11 : decode cX10_wordOf 11 = .ok (.getfield 9, 3) := by decide +kernel
theorem dX10_wordOf_14 : decode cX10_wordOf 14 = .ok (.iload_n 3, 1) := by decide +kernel
theorem dX10_wordOf_15 : decode cX10_wordOf 15 = .ok (.laload, 1) := by decide +kernel
theorem dX10_wordOf_16 : decode cX10_wordOf 16 = .ok (.lload_n 1, 1) := by decide +kernel
theorem dX10_wordOf_17 : decode cX10_wordOf 17 = .ok (.lcmp, 1) := by decide +kernel
theorem dX10_wordOf_18 : decode cX10_wordOf 18 = .ok (.ifCond .ne 5, 3) := by decide +kernel
theorem dX10_wordOf_21 : decode cX10_wordOf 21 = .ok (.iload_n 3, 1) := by decide +kernel
theorem dX10_wordOf_22 : decode cX10_wordOf 22 = .ok (.ireturn, 1) := by decide +kernel
theorem dX10_wordOf_23 : decode cX10_wordOf 23 = .ok (.iinc 3 1, 3) := by decide +kernel
theorem dX10_wordOf_26 : decode cX10_wordOf 26 = .ok (.goto (-24), 3) := by decide +kernel
theorem dX10_wordOf_29 : decode cX10_wordOf 29 = .ok (.iconst (-1), 1) := by decide +kernel
theorem dX10_wordOf_30 : decode cX10_wordOf 30 = .ok (.ireturn, 1) := by decide +kernel
theorem dX10_thingOf_0 : decode cX10_thingOf 0 = .ok (.iconst 0, 1) := by decide +kernel
theorem dX10_thingOf_1 : decode cX10_thingOf 1 = .ok (.istore_n 2, 1) := by decide +kernel
theorem dX10_thingOf_2 : decode cX10_thingOf 2 = .ok (.iload_n 2, 1) := by decide +kernel
theorem dX10_thingOf_3 : decode cX10_thingOf 3 = .ok (.aload_n 0, 1) := by decide +kernel
theorem dX10_thingOf_4 : decode cX10_thingOf 4 = .ok (.getfield 67, 3) := by decide +kernel
theorem dX10_thingOf_7 : decode cX10_thingOf 7 = .ok (.if_icmp .ge 21, 3) := by decide +kernel
theorem dX10_thingOf_10 : decode cX10_thingOf 10 = .ok (.aload_n 0, 1) := by decide +kernel
theorem dX10_thingOf_11 : decode cX10_thingOf 11 = .ok (.getfield 29, 3) := by decide +kernel
theorem dX10_thingOf_14 : decode cX10_thingOf 14 = .ok (.iload_n 2, 1) := by decide +kernel
theorem dX10_thingOf_15 : decode cX10_thingOf 15 = .ok (.iaload, 1) := by decide +kernel
theorem dX10_thingOf_16 : decode cX10_thingOf 16 = .ok (.iload_n 1, 1) := by decide +kernel
theorem dX10_thingOf_17 : decode cX10_thingOf 17 = .ok (.if_icmp .ne 5, 3) := by decide +kernel
theorem dX10_thingOf_20 : decode cX10_thingOf 20 = .ok (.iload_n 2, 1) := by decide +kernel
theorem dX10_thingOf_21 : decode cX10_thingOf 21 = .ok (.ireturn, 1) := by decide +kernel
theorem dX10_thingOf_22 : decode cX10_thingOf 22 = .ok (.iinc 2 1, 3) := by decide +kernel
theorem dX10_thingOf_25 : decode cX10_thingOf 25 = .ok (.goto (-23), 3) := by decide +kernel
theorem dX10_thingOf_28 : decode cX10_thingOf 28 = .ok (.iconst (-1), 1) := by decide +kernel
theorem dX10_thingOf_29 : decode cX10_thingOf 29 = .ok (.ireturn, 1) := by decide +kernel
theorem dX11_areOnOnePath_0 : decode cX11_areOnOnePath 0 = .ok (.aload_n 0, 1) := by decide +kernel
theorem dX11_areOnOnePath_1 : decode cX11_areOnOnePath 1 = .ok (.aload_n 1, 1) := by decide +kernel
theorem dX11_areOnOnePath_2 : decode cX11_areOnOnePath 2 = .ok (.invokevirtual 1, 3) := by decide +kernel
theorem dX11_areOnOnePath_5 : decode cX11_areOnOnePath 5 = .ok (.ifCond .ne 11, 3) := by decide +kernel
theorem dX11_areOnOnePath_8 : decode cX11_areOnOnePath 8 = .ok (.aload_n 1, 1) := by decide +kernel
theorem dX11_areOnOnePath_9 : decode cX11_areOnOnePath 9 = .ok (.aload_n 0, 1) := by decide +kernel
theorem dX11_areOnOnePath_10 : decode cX11_areOnOnePath 10 = .ok (.invokevirtual 1, 3) := by decide +kernel
theorem dX11_areOnOnePath_13 : decode cX11_areOnOnePath 13 = .ok (.ifCond .eq 7, 3) := by decide +kernel
theorem dX11_areOnOnePath_16 : decode cX11_areOnOnePath 16 = .ok (.iconst 1, 1) := by decide +kernel
theorem dX11_areOnOnePath_17 : decode cX11_areOnOnePath 17 = .ok (.goto 4, 3) := by decide +kernel
theorem dX11_areOnOnePath_20 : decode cX11_areOnOnePath 20 = .ok (.iconst 0, 1) := by decide +kernel
theorem dX11_areOnOnePath_21 : decode cX11_areOnOnePath 21 = .ok (.ireturn, 1) := by decide +kernel
theorem dX11_includes_0 : decode cX11_includes 0 = .ok (.iload_n 2, 1) := by decide +kernel
theorem dX11_includes_1 : decode cX11_includes 1 = .ok (.ifCond .lt 23, 3) := by decide +kernel
theorem dX11_includes_4 : decode cX11_includes 4 = .ok (.iload_n 2, 1) := by decide +kernel
theorem dX11_includes_5 : decode cX11_includes 5 = .ok (.bipush 40, 2) := by decide +kernel
theorem dX11_includes_7 : decode cX11_includes 7 = .ok (.if_icmp .ge 17, 3) := by decide +kernel
theorem dX11_includes_10 : decode cX11_includes 10 = .ok (.lload_n 0, 1) := by decide +kernel
theorem dX11_includes_11 : decode cX11_includes 11 = .ok (.iload_n 2, 1) := by decide +kernel
theorem dX11_includes_12 : decode cX11_includes 12 = .ok (.lshr, 1) := by decide +kernel
theorem dX11_includes_13 : decode cX11_includes 13 = .ok (.lconst 1, 1) := by decide +kernel
theorem dX11_includes_14 : decode cX11_includes 14 = .ok (.land, 1) := by decide +kernel
theorem dX11_includes_15 : decode cX11_includes 15 = .ok (.lconst 1, 1) := by decide +kernel
theorem dX11_includes_16 : decode cX11_includes 16 = .ok (.lcmp, 1) := by decide +kernel
theorem dX11_includes_17 : decode cX11_includes 17 = .ok (.ifCond .ne 7, 3) := by decide +kernel
theorem dX11_includes_20 : decode cX11_includes 20 = .ok (.iconst 1, 1) := by decide +kernel
theorem dX11_includes_21 : decode cX11_includes 21 = .ok (.goto 4, 3) := by decide +kernel
theorem dX11_includes_24 : decode cX11_includes 24 = .ok (.iconst 0, 1) := by decide +kernel
theorem dX11_includes_25 : decode cX11_includes 25 = .ok (.ireturn, 1) := by decide +kernel
theorem dX11_init_0 : decode cX11_init 0 = .ok (.aload_n 0, 1) := by decide +kernel
theorem dX11_init_1 : decode cX11_init 1 = .ok (.invokespecial 9, 3) := by decide +kernel
theorem dX11_init_4 : decode cX11_init 4 = .ok (.aload_n 0, 1) := by decide +kernel
theorem dX11_init_5 : decode cX11_init 5 = .ok (.new 15, 3) := by decide +kernel
theorem dX11_init_8 : decode cX11_init 8 = .ok (.dup, 1) := by decide +kernel
theorem dX11_init_9 : decode cX11_init 9 = .ok (.invokespecial 17, 3) := by decide +kernel
theorem dX11_init_12 : decode cX11_init 12 = .ok (.putfield 18, 3) := by decide +kernel
theorem dX11_init_15 : decode cX11_init 15 = .ok (.aload_n 0, 1) := by decide +kernel
theorem dX11_init_16 : decode cX11_init 16 = .ok (.new 22, 3) := by decide +kernel
theorem dX11_init_19 : decode cX11_init 19 = .ok (.dup, 1) := by decide +kernel
theorem dX11_init_20 : decode cX11_init 20 = .ok (.invokespecial 24, 3) := by decide +kernel
theorem dX11_init_23 : decode cX11_init 23 = .ok (.putfield 25, 3) := by decide +kernel
theorem dX11_init_26 : decode cX11_init 26 = .ok (.aload_n 0, 1) := by decide +kernel
theorem dX11_init_27 : decode cX11_init 27 = .ok (.new 29, 3) := by decide +kernel
theorem dX11_init_30 : decode cX11_init 30 = .ok (.dup, 1) := by decide +kernel
theorem dX11_init_31 : decode cX11_init 31 = .ok (.aload_n 0, 1) := by decide +kernel
theorem dX11_init_32 : decode cX11_init 32 = .ok (.getfield 25, 3) := by decide +kernel
theorem dX11_init_35 : decode cX11_init 35 = .ok (.invokespecial 31, 3) := by decide +kernel
theorem dX11_init_38 : decode cX11_init 38 = .ok (.putfield 34, 3) := by decide +kernel
theorem dX11_init_41 : decode cX11_init 41 = .ok (.aload_n 0, 1) := by decide +kernel
theorem dX11_init_42 : decode cX11_init 42 = .ok (.new 38, 3) := by decide +kernel
theorem dX11_init_45 : decode cX11_init 45 = .ok (.dup, 1) := by decide +kernel
theorem dX11_init_46 : decode cX11_init 46 = .ok (.invokespecial 40, 3) := by decide +kernel
theorem dX11_init_49 : decode cX11_init 49 = .ok (.putfield 41, 3) := by decide +kernel
theorem dX11_init_52 : decode cX11_init 52 = .ok (.aload_n 0, 1) := by decide +kernel
theorem dX11_init_53 : decode cX11_init 53 = .ok (.new 45, 3) := by decide +kernel
theorem dX11_init_56 : decode cX11_init 56 = .ok (.dup, 1) := by decide +kernel
theorem dX11_init_57 : decode cX11_init 57 = .ok (.invokespecial 47, 3) := by decide +kernel
theorem dX11_init_60 : decode cX11_init 60 = .ok (.putfield 48, 3) := by decide +kernel
theorem dX11_init_63 : decode cX11_init 63 = .ok (.aload_n 0, 1) := by decide +kernel
theorem dX11_init_64 : decode cX11_init 64 = .ok (.new 52, 3) := by decide +kernel
theorem dX11_init_67 : decode cX11_init 67 = .ok (.dup, 1) := by decide +kernel
theorem dX11_init_68 : decode cX11_init 68 = .ok (.invokespecial 54, 3) := by decide +kernel
theorem dX11_init_71 : decode cX11_init 71 = .ok (.putfield 55, 3) := by decide +kernel
theorem dX11_init_74 : decode cX11_init 74 = .ok (.aload_n 0, 1) := by decide +kernel
theorem dX11_init_75 : decode cX11_init 75 = .ok (.new 59, 3) := by decide +kernel
theorem dX11_init_78 : decode cX11_init 78 = .ok (.dup, 1) := by decide +kernel
theorem dX11_init_79 : decode cX11_init 79 = .ok (.invokespecial 61, 3) := by decide +kernel
theorem dX11_init_82 : decode cX11_init 82 = .ok (.putfield 62, 3) := by decide +kernel
theorem dX11_init_85 : decode cX11_init 85 = .ok (.return_, 1) := by decide +kernel
theorem dX11_type_0 : decode cX11_type 0 = .ok (.iload_n 1, 1) := by decide +kernel
theorem dX11_type_1 : decode cX11_type 1 = .ok (.bipush 32, 2) := by decide +kernel
theorem dX11_type_3 : decode cX11_type 3 = .ok (.if_icmp .eq 25, 3) := by decide +kernel
theorem dX11_type_6 : decode cX11_type 6 = .ok (.iload_n 1, 1) := by decide +kernel
theorem dX11_type_7 : decode cX11_type 7 = .ok (.bipush 97, 2) := by decide +kernel
theorem dX11_type_9 : decode cX11_type 9 = .ok (.if_icmp .lt 9, 3) := by decide +kernel
theorem dX11_type_12 : decode cX11_type 12 = .ok (.iload_n 1, 1) := by decide +kernel
theorem dX11_type_13 : decode cX11_type 13 = .ok (.bipush 122, 2) := by decide +kernel
theorem dX11_type_15 : decode cX11_type 15 = .ok (.if_icmp .le 13, 3) := by decide +kernel
theorem dX11_type_18 : decode cX11_type 18 = .ok (.new 66, 3) := by decide +kernel
theorem dX11_type_21 : decode cX11_type 21 = .ok (.dup, 1) := by decide +kernel
theorem dX11_type_22 : decode cX11_type 22 = .ok (.ldc 68, 2) := by decide +kernel
theorem dX11_type_24 : decode cX11_type 24 = .ok (.invokespecial 70, 3) := by decide +kernel
theorem dX11_type_27 : decode cX11_type 27 = .ok (.athrow, 1) := by decide +kernel
theorem dX11_type_28 : decode cX11_type 28 = .ok (.aload_n 0, 1) := by decide +kernel
theorem dX11_type_29 : decode cX11_type 29 = .ok (.getfield 18, 3) := by decide +kernel
theorem dX11_type_32 : decode cX11_type 32 = .ok (.getfield 73, 3) := by decide +kernel
theorem dX11_type_35 : decode cX11_type 35 = .ok (.bipush 30, 2) := by decide +kernel
theorem dX11_type_37 : decode cX11_type 37 = .ok (.if_icmp .lt 13, 3) := by decide +kernel
theorem dX11_type_40 : decode cX11_type 40 = .ok (.new 77, 3) := by decide +kernel
theorem dX11_type_43 : decode cX11_type 43 = .ok (.dup, 1) := by decide +kernel
theorem dX11_type_44 : decode cX11_type 44 = .ok (.ldc 79, 2) := by decide +kernel
theorem dX11_type_46 : decode cX11_type 46 = .ok (.invokespecial 81, 3) := by decide +kernel
theorem dX11_type_49 : decode cX11_type 49 = .ok (.athrow, 1) := by decide +kernel
theorem dX11_type_50 : decode cX11_type 50 = .ok (.aload_n 0, 1) := by decide +kernel
theorem dX11_type_51 : decode cX11_type 51 = .ok (.getfield 18, 3) := by decide +kernel
theorem dX11_type_54 : decode cX11_type 54 = .ok (.iload_n 1, 1) := by decide +kernel
theorem dX11_type_55 : decode cX11_type 55 = .ok (.invokevirtual 82, 3) := by decide +kernel
theorem dX11_type_58 : decode cX11_type 58 = .ok (.aload_n 0, 1) := by decide +kernel
theorem dX11_type_59 : decode cX11_type 59 = .ok (.getfield 18, 3) := by decide +kernel
theorem dX11_type_62 : decode cX11_type 62 = .ok (.getfield 73, 3) := by decide +kernel
theorem dX11_type_65 : decode cX11_type 65 = .ok (.ireturn, 1) := by decide +kernel
theorem dX11_clear_0 : decode cX11_clear 0 = .ok (.aload_n 0, 1) := by decide +kernel
theorem dX11_clear_1 : decode cX11_clear 1 = .ok (.getfield 18, 3) := by decide +kernel
theorem dX11_clear_4 : decode cX11_clear 4 = .ok (.getfield 73, 3) := by decide +kernel
theorem dX11_clear_7 : decode cX11_clear 7 = .ok (.istore_n 1, 1) := by decide +kernel
theorem dX11_clear_8 : decode cX11_clear 8 = .ok (.aload_n 0, 1) := by decide +kernel
theorem dX11_clear_9 : decode cX11_clear 9 = .ok (.getfield 18, 3) := by decide +kernel
theorem dX11_clear_12 : decode cX11_clear 12 = .ok (.iconst 0, 1) := by decide +kernel
theorem dX11_clear_13 : decode cX11_clear 13 = .ok (.putfield 73, 3) := by decide +kernel
theorem dX11_clear_16 : decode cX11_clear 16 = .ok (.iload_n 1, 1) := by decide +kernel
theorem dX11_clear_17 : decode cX11_clear 17 = .ok (.ireturn, 1) := by decide +kernel
theorem dX11_word_0 : decode cX11_word 0 = .ok (.aload_n 0, 1) := by decide +kernel
theorem dX11_word_1 : decode cX11_word 1 = .ok (.getfield 18, 3) := by decide +kernel
theorem dX11_word_4 : decode cX11_word 4 = .ok (.invokevirtual 86, 3) := by decide +kernel
theorem dX11_word_7 : decode cX11_word 7 = .ok (.lstore_n 1, 1) := by decide +kernel
theorem dX11_word_8 : decode cX11_word 8 = .ok (.lload_n 1, 1) := by decide +kernel
theorem dX11_word_9 : decode cX11_word 9 = .ok (.lconst 0, 1) := by decide +kernel
theorem dX11_word_10 : decode cX11_word 10 = .ok (.lcmp, 1) := by decide +kernel
theorem dX11_word_11 : decode cX11_word 11 = .ok (.ifCond .ne 13, 3) := by decide +kernel
theorem dX11_word_14 : decode cX11_word 14 = .ok (.new 66, 3) := by decide +kernel
theorem dX11_word_17 : decode cX11_word 17 = .ok (.dup, 1) := by decide +kernel
theorem dX11_word_18 : decode cX11_word 18 = .ok (.ldc 90, 2) := by decide +kernel
theorem dX11_word_20 : decode cX11_word 20 = .ok (.invokespecial 70, 3) := by decide +kernel
theorem dX11_word_23 : decode cX11_word 23 = .ok (.athrow, 1) := by decide +kernel
theorem dX11_word_24 : decode cX11_word 24 = .ok (.aload_n 0, 1) := by decide +kernel
theorem dX11_word_25 : decode cX11_word 25 = .ok (.getfield 25, 3) := by decide +kernel
theorem dX11_word_28 : decode cX11_word 28 = .ok (.lload_n 1, 1) := by decide +kernel
theorem dX11_word_29 : decode cX11_word 29 = .ok (.invokevirtual 92, 3) := by decide +kernel
theorem dX11_word_32 : decode cX11_word 32 = .ok (.iconst (-1), 1) := by decide +kernel
theorem dX11_word_33 : decode cX11_word 33 = .ok (.if_icmp .eq 13, 3) := by decide +kernel
theorem dX11_word_36 : decode cX11_word 36 = .ok (.new 96, 3) := by decide +kernel
theorem dX11_word_39 : decode cX11_word 39 = .ok (.dup, 1) := by decide +kernel
theorem dX11_word_40 : decode cX11_word 40 = .ok (.ldc 98, 2) := by decide +kernel
theorem dX11_word_42 : decode cX11_word 42 = .ok (.invokespecial 100, 3) := by decide +kernel
theorem dX11_word_45 : decode cX11_word 45 = .ok (.athrow, 1) := by decide +kernel
theorem dX11_word_46 : decode cX11_word 46 = .ok (.aload_n 0, 1) := by decide +kernel
theorem dX11_word_47 : decode cX11_word 47 = .ok (.getfield 25, 3) := by decide +kernel
theorem dX11_word_50 : decode cX11_word 50 = .ok (.getfield 101, 3) := by decide +kernel
theorem dX11_word_53 : decode cX11_word 53 = .ok (.bipush 40, 2) := by decide +kernel
theorem dX11_word_55 : decode cX11_word 55 = .ok (.if_icmp .lt 13, 3) := by decide +kernel
theorem dX11_word_58 : decode cX11_word 58 = .ok (.new 77, 3) := by decide +kernel
theorem dX11_word_61 : decode cX11_word 61 = .ok (.dup, 1) := by decide +kernel
theorem dX11_word_62 : decode cX11_word 62 = .ok (.ldc 104, 2) := by decide +kernel
theorem dX11_word_64 : decode cX11_word 64 = .ok (.invokespecial 81, 3) := by decide +kernel
theorem dX11_word_67 : decode cX11_word 67 = .ok (.athrow, 1) := by decide +kernel
theorem dX11_word_68 : decode cX11_word 68 = .ok (.aload_n 0, 1) := by decide +kernel
theorem dX11_word_69 : decode cX11_word 69 = .ok (.getfield 25, 3) := by decide +kernel
theorem dX11_word_72 : decode cX11_word 72 = .ok (.getfield 106, 3) := by decide +kernel
theorem dX11_word_75 : decode cX11_word 75 = .ok (.aload_n 0, 1) := by decide +kernel
theorem dX11_word_76 : decode cX11_word 76 = .ok (.getfield 25, 3) := by decide +kernel
theorem dX11_word_79 : decode cX11_word 79 = .ok (.getfield 101, 3) := by decide +kernel
theorem dX11_word_82 : decode cX11_word 82 = .ok (.lload_n 1, 1) := by decide +kernel
theorem dX11_word_83 : decode cX11_word 83 = .ok (.lastore, 1) := by decide +kernel
theorem dX11_word_84 : decode cX11_word 84 = .ok (.aload_n 0, 1) := by decide +kernel
theorem dX11_word_85 : decode cX11_word 85 = .ok (.getfield 25, 3) := by decide +kernel
theorem dX11_word_88 : decode cX11_word 88 = .ok (.dup, 1) := by decide +kernel
theorem dX11_word_89 : decode cX11_word 89 = .ok (.getfield 101, 3) := by decide +kernel
theorem dX11_word_92 : decode cX11_word 92 = .ok (.iconst 1, 1) := by decide +kernel
theorem dX11_word_93 : decode cX11_word 93 = .ok (.iadd, 1) := by decide +kernel
theorem dX11_word_94 : decode cX11_word 94 = .ok (.putfield 101, 3) := by decide +kernel
theorem dX11_word_97 : decode cX11_word 97 = .ok (.aload_n 0, 1) := by decide +kernel
theorem dX11_word_98 : decode cX11_word 98 = .ok (.getfield 18, 3) := by decide +kernel
theorem dX11_word_101 : decode cX11_word 101 = .ok (.iconst 0, 1) := by decide +kernel
theorem dX11_word_102 : decode cX11_word 102 = .ok (.putfield 73, 3) := by decide +kernel
theorem dX11_word_105 : decode cX11_word 105 = .ok (.aload_n 0, 1) := by decide +kernel
theorem dX11_word_106 : decode cX11_word 106 = .ok (.getfield 25, 3) := by decide +kernel
theorem dX11_word_109 : decode cX11_word 109 = .ok (.getfield 101, 3) := by decide +kernel
theorem dX11_word_112 : decode cX11_word 112 = .ok (.iconst 1, 1) := by decide +kernel
theorem dX11_word_113 : decode cX11_word 113 = .ok (.isub, 1) := by decide +kernel
theorem dX11_word_114 : decode cX11_word 114 = .ok (.ireturn, 1) := by decide +kernel
theorem dX11_room_0 : decode cX11_room 0 = .ok (.aload_n 0, 1) := by decide +kernel
theorem dX11_room_1 : decode cX11_room 1 = .ok (.invokevirtual 110, 3) := by decide +kernel
theorem dX11_room_4 : decode cX11_room 4 = .ok (.aload_n 0, 1) := by decide +kernel
theorem dX11_room_5 : decode cX11_room 5 = .ok (.getfield 25, 3) := by decide +kernel
theorem dX11_room_8 : decode cX11_room 8 = .ok (.getfield 113, 3) := by decide +kernel
theorem dX11_room_11 : decode cX11_room 11 = .ok (.bipush 12, 2) := by decide +kernel
theorem dX11_room_13 : decode cX11_room 13 = .ok (.if_icmp .lt 13, 3) := by decide +kernel
theorem dX11_room_16 : decode cX11_room 16 = .ok (.new 77, 3) := by decide +kernel
theorem dX11_room_19 : decode cX11_room 19 = .ok (.dup, 1) := by decide +kernel
theorem dX11_room_20 : decode cX11_room 20 = .ok (.ldc 116, 2) := by decide +kernel
theorem dX11_room_22 : decode cX11_room 22 = .ok (.invokespecial 81, 3) := by decide +kernel
theorem dX11_room_25 : decode cX11_room 25 = .ok (.athrow, 1) := by decide +kernel
theorem dX11_room_26 : decode cX11_room 26 = .ok (.aload_n 0, 1) := by decide +kernel
theorem dX11_room_27 : decode cX11_room 27 = .ok (.getfield 25, 3) := by decide +kernel
theorem dX11_room_30 : decode cX11_room 30 = .ok (.getfield 118, 3) := by decide +kernel
theorem dX11_room_33 : decode cX11_room 33 = .ok (.aload_n 0, 1) := by decide +kernel
theorem dX11_room_34 : decode cX11_room 34 = .ok (.getfield 25, 3) := by decide +kernel
theorem dX11_room_37 : decode cX11_room 37 = .ok (.getfield 113, 3) := by decide +kernel
theorem dX11_room_40 : decode cX11_room 40 = .ok (.iload_n 1, 1) := by decide +kernel
theorem dX11_room_41 : decode cX11_room 41 = .ok (.bastore, 1) := by decide +kernel
theorem dX11_room_42 : decode cX11_room 42 = .ok (.aload_n 0, 1) := by decide +kernel
theorem dX11_room_43 : decode cX11_room 43 = .ok (.getfield 25, 3) := by decide +kernel
theorem dX11_room_46 : decode cX11_room 46 = .ok (.dup, 1) := by decide +kernel
theorem dX11_room_47 : decode cX11_room 47 = .ok (.getfield 113, 3) := by decide +kernel
theorem dX11_room_50 : decode cX11_room 50 = .ok (.iconst 1, 1) := by decide +kernel
theorem dX11_room_51 : decode cX11_room 51 = .ok (.iadd, 1) := by decide +kernel
theorem dX11_room_52 : decode cX11_room 52 = .ok (.putfield 113, 3) := by decide +kernel
theorem dX11_room_55 : decode cX11_room 55 = .ok (.aload_n 0, 1) := by decide +kernel
theorem dX11_room_56 : decode cX11_room 56 = .ok (.getfield 25, 3) := by decide +kernel
theorem dX11_room_59 : decode cX11_room 59 = .ok (.getfield 113, 3) := by decide +kernel
theorem dX11_room_62 : decode cX11_room 62 = .ok (.iconst 1, 1) := by decide +kernel
theorem dX11_room_63 : decode cX11_room 63 = .ok (.isub, 1) := by decide +kernel
theorem dX11_room_64 : decode cX11_room 64 = .ok (.ireturn, 1) := by decide +kernel
theorem dX11_show_0 : decode cX11_show 0 = .ok (.aload_n 0, 1) := by decide +kernel
theorem dX11_show_1 : decode cX11_show 1 = .ok (.iload_n 1, 1) := by decide +kernel
theorem dX11_show_2 : decode cX11_show 2 = .ok (.invokevirtual 122, 3) := by decide +kernel
theorem dX11_show_5 : decode cX11_show 5 = .ok (.aload_n 0, 1) := by decide +kernel
theorem dX11_show_6 : decode cX11_show 6 = .ok (.iload_n 2, 1) := by decide +kernel
theorem dX11_show_7 : decode cX11_show 7 = .ok (.invokevirtual 126, 3) := by decide +kernel
theorem dX11_show_10 : decode cX11_show 10 = .ok (.aload_n 0, 1) := by decide +kernel
theorem dX11_show_11 : decode cX11_show 11 = .ok (.invokevirtual 110, 3) := by decide +kernel
theorem dX11_show_14 : decode cX11_show 14 = .ok (.aload_n 0, 1) := by decide +kernel
theorem dX11_show_15 : decode cX11_show 15 = .ok (.getfield 25, 3) := by decide +kernel
theorem dX11_show_18 : decode cX11_show 18 = .ok (.getfield 129, 3) := by decide +kernel
theorem dX11_show_21 : decode cX11_show 21 = .ok (.iload_n 1, 1) := by decide +kernel
theorem dX11_show_22 : decode cX11_show 22 = .ok (.dup2, 1) := by decide +kernel
theorem dX11_show_23 : decode cX11_show 23 = .ok (.laload, 1) := by decide +kernel
theorem dX11_show_24 : decode cX11_show 24 = .ok (.lconst 1, 1) := by decide +kernel
theorem dX11_show_25 : decode cX11_show 25 = .ok (.iload_n 2, 1) := by decide +kernel
theorem dX11_show_26 : decode cX11_show 26 = .ok (.lshl, 1) := by decide +kernel
theorem dX11_show_27 : decode cX11_show 27 = .ok (.lor, 1) := by decide +kernel
theorem dX11_show_28 : decode cX11_show 28 = .ok (.lastore, 1) := by decide +kernel
theorem dX11_show_29 : decode cX11_show 29 = .ok (.aload_n 0, 1) := by decide +kernel
theorem dX11_show_30 : decode cX11_show 30 = .ok (.getfield 25, 3) := by decide +kernel
theorem dX11_show_33 : decode cX11_show 33 = .ok (.getfield 129, 3) := by decide +kernel
theorem dX11_show_36 : decode cX11_show 36 = .ok (.iload_n 1, 1) := by decide +kernel
theorem dX11_show_37 : decode cX11_show 37 = .ok (.laload, 1) := by decide +kernel
theorem dX11_show_38 : decode cX11_show 38 = .ok (.invokestatic 132, 3) := by decide +kernel
theorem dX11_show_41 : decode cX11_show 41 = .ok (.ireturn, 1) := by decide +kernel
theorem dX11_exit_0 : decode cX11_exit 0 = .ok (.aload_n 0, 1) := by decide +kernel
theorem dX11_exit_1 : decode cX11_exit 1 = .ok (.iload_n 1, 1) := by decide +kernel
theorem dX11_exit_2 : decode cX11_exit 2 = .ok (.invokevirtual 122, 3) := by decide +kernel
theorem dX11_exit_5 : decode cX11_exit 5 = .ok (.aload_n 0, 1) := by decide +kernel
theorem dX11_exit_6 : decode cX11_exit 6 = .ok (.iload_n 3, 1) := by decide +kernel
theorem dX11_exit_7 : decode cX11_exit 7 = .ok (.invokevirtual 122, 3) := by decide +kernel
theorem dX11_exit_10 : decode cX11_exit 10 = .ok (.aload_n 0, 1) := by decide +kernel
theorem dX11_exit_11 : decode cX11_exit 11 = .ok (.iload_n 1, 1) := by decide +kernel
theorem dX11_exit_12 : decode cX11_exit 12 = .ok (.iload_n 2, 1) := by decide +kernel
theorem dX11_exit_13 : decode cX11_exit 13 = .ok (.invokevirtual 137, 3) := by decide +kernel
theorem dX11_exit_16 : decode cX11_exit 16 = .ok (.istore 4, 2) := by decide +kernel
theorem dX11_exit_18 : decode cX11_exit 18 = .ok (.aload_n 0, 1) := by decide +kernel
theorem dX11_exit_19 : decode cX11_exit 19 = .ok (.invokevirtual 110, 3) := by decide +kernel
theorem dX11_exit_22 : decode cX11_exit 22 = .ok (.aload_n 0, 1) := by decide +kernel
theorem dX11_exit_23 : decode cX11_exit 23 = .ok (.getfield 25, 3) := by decide +kernel
theorem dX11_exit_26 : decode cX11_exit 26 = .ok (.getfield 141, 3) := by decide +kernel
theorem dX11_exit_29 : decode cX11_exit 29 = .ok (.iload 4, 2) := by decide +kernel
theorem dX11_exit_31 : decode cX11_exit 31 = .ok (.iaload, 1) := by decide +kernel
theorem dX11_exit_32 : decode cX11_exit 32 = .ok (.istore 5, 2) := by decide +kernel
theorem dX11_exit_34 : decode cX11_exit 34 = .ok (.aload_n 0, 1) := by decide +kernel
theorem dX11_exit_35 : decode cX11_exit 35 = .ok (.getfield 25, 3) := by decide +kernel
theorem dX11_exit_38 : decode cX11_exit 38 = .ok (.getfield 141, 3) := by decide +kernel
theorem dX11_exit_41 : decode cX11_exit 41 = .ok (.iload 4, 2) := by decide +kernel
theorem dX11_exit_43 : decode cX11_exit 43 = .ok (.iload_n 3, 1) := by decide +kernel
theorem dX11_exit_44 : decode cX11_exit 44 = .ok (.iastore, 1) := by decide +kernel
theorem dX11_exit_45 : decode cX11_exit 45 = .ok (.aload_n 0, 1) := by decide +kernel
theorem dX11_exit_46 : decode cX11_exit 46 = .ok (.getfield 25, 3) := by decide +kernel
theorem dX11_exit_49 : decode cX11_exit 49 = .ok (.getfield 145, 3) := by decide +kernel
theorem dX11_exit_52 : decode cX11_exit 52 = .ok (.iload 4, 2) := by decide +kernel
theorem dX11_exit_54 : decode cX11_exit 54 = .ok (.iconst (-1), 1) := by decide +kernel
theorem dX11_exit_55 : decode cX11_exit 55 = .ok (.iastore, 1) := by decide +kernel
theorem dX11_exit_56 : decode cX11_exit 56 = .ok (.iload 5, 2) := by decide +kernel
theorem dX11_exit_58 : decode cX11_exit 58 = .ok (.ireturn, 1) := by decide +kernel
theorem dX11_lock_0 : decode cX11_lock 0 = .ok (.aload_n 0, 1) := by decide +kernel
theorem dX11_lock_1 : decode cX11_lock 1 = .ok (.iload_n 1, 1) := by decide +kernel
theorem dX11_lock_2 : decode cX11_lock 2 = .ok (.invokevirtual 122, 3) := by decide +kernel
theorem dX11_lock_5 : decode cX11_lock 5 = .ok (.aload_n 0, 1) := by decide +kernel
theorem dX11_lock_6 : decode cX11_lock 6 = .ok (.iload_n 3, 1) := by decide +kernel
theorem dX11_lock_7 : decode cX11_lock 7 = .ok (.invokevirtual 148, 3) := by decide +kernel
theorem dX11_lock_10 : decode cX11_lock 10 = .ok (.aload_n 0, 1) := by decide +kernel
theorem dX11_lock_11 : decode cX11_lock 11 = .ok (.iload_n 1, 1) := by decide +kernel
theorem dX11_lock_12 : decode cX11_lock 12 = .ok (.iload_n 2, 1) := by decide +kernel
theorem dX11_lock_13 : decode cX11_lock 13 = .ok (.invokevirtual 137, 3) := by decide +kernel
theorem dX11_lock_16 : decode cX11_lock 16 = .ok (.istore 4, 2) := by decide +kernel
theorem dX11_lock_18 : decode cX11_lock 18 = .ok (.aload_n 0, 1) := by decide +kernel
theorem dX11_lock_19 : decode cX11_lock 19 = .ok (.getfield 25, 3) := by decide +kernel
theorem dX11_lock_22 : decode cX11_lock 22 = .ok (.getfield 141, 3) := by decide +kernel
theorem dX11_lock_25 : decode cX11_lock 25 = .ok (.iload 4, 2) := by decide +kernel
theorem dX11_lock_27 : decode cX11_lock 27 = .ok (.iaload, 1) := by decide +kernel
theorem dX11_lock_28 : decode cX11_lock 28 = .ok (.iconst (-1), 1) := by decide +kernel
theorem dX11_lock_29 : decode cX11_lock 29 = .ok (.if_icmp .ne 13, 3) := by decide +kernel
theorem dX11_lock_32 : decode cX11_lock 32 = .ok (.new 96, 3) := by decide +kernel
theorem dX11_lock_35 : decode cX11_lock 35 = .ok (.dup, 1) := by decide +kernel
theorem dX11_lock_36 : decode cX11_lock 36 = .ok (.ldc 151, 2) := by decide +kernel
theorem dX11_lock_38 : decode cX11_lock 38 = .ok (.invokespecial 100, 3) := by decide +kernel
theorem dX11_lock_41 : decode cX11_lock 41 = .ok (.athrow, 1) := by decide +kernel
theorem dX11_lock_42 : decode cX11_lock 42 = .ok (.aload_n 0, 1) := by decide +kernel
theorem dX11_lock_43 : decode cX11_lock 43 = .ok (.invokevirtual 110, 3) := by decide +kernel
theorem dX11_lock_46 : decode cX11_lock 46 = .ok (.aload_n 0, 1) := by decide +kernel
theorem dX11_lock_47 : decode cX11_lock 47 = .ok (.getfield 25, 3) := by decide +kernel
theorem dX11_lock_50 : decode cX11_lock 50 = .ok (.getfield 145, 3) := by decide +kernel
theorem dX11_lock_53 : decode cX11_lock 53 = .ok (.iload 4, 2) := by decide +kernel
theorem dX11_lock_55 : decode cX11_lock 55 = .ok (.iaload, 1) := by decide +kernel
theorem dX11_lock_56 : decode cX11_lock 56 = .ok (.istore 5, 2) := by decide +kernel
theorem dX11_lock_58 : decode cX11_lock 58 = .ok (.aload_n 0, 1) := by decide +kernel
theorem dX11_lock_59 : decode cX11_lock 59 = .ok (.getfield 25, 3) := by decide +kernel
theorem dX11_lock_62 : decode cX11_lock 62 = .ok (.getfield 145, 3) := by decide +kernel
theorem dX11_lock_65 : decode cX11_lock 65 = .ok (.iload 4, 2) := by decide +kernel
theorem dX11_lock_67 : decode cX11_lock 67 = .ok (.iload_n 3, 1) := by decide +kernel
theorem dX11_lock_68 : decode cX11_lock 68 = .ok (.iastore, 1) := by decide +kernel
theorem dX11_lock_69 : decode cX11_lock 69 = .ok (.iload 5, 2) := by decide +kernel
theorem dX11_lock_71 : decode cX11_lock 71 = .ok (.ireturn, 1) := by decide +kernel
theorem dX11_thing_0 : decode cX11_thing 0 = .ok (.aload_n 0, 1) := by decide +kernel
theorem dX11_thing_1 : decode cX11_thing 1 = .ok (.iload_n 1, 1) := by decide +kernel
theorem dX11_thing_2 : decode cX11_thing 2 = .ok (.invokevirtual 126, 3) := by decide +kernel
theorem dX11_thing_5 : decode cX11_thing 5 = .ok (.aload_n 0, 1) := by decide +kernel
theorem dX11_thing_6 : decode cX11_thing 6 = .ok (.iload_n 2, 1) := by decide +kernel
theorem dX11_thing_7 : decode cX11_thing 7 = .ok (.invokevirtual 122, 3) := by decide +kernel
theorem dX11_thing_10 : decode cX11_thing 10 = .ok (.iload_n 3, 1) := by decide +kernel
theorem dX11_thing_11 : decode cX11_thing 11 = .ok (.iconst 1, 1) := by decide +kernel
theorem dX11_thing_12 : decode cX11_thing 12 = .ok (.if_icmp .lt 9, 3) := by decide +kernel
theorem dX11_thing_15 : decode cX11_thing 15 = .ok (.iload_n 3, 1) := by decide +kernel
theorem dX11_thing_16 : decode cX11_thing 16 = .ok (.bipush 9, 2) := by decide +kernel
theorem dX11_thing_18 : decode cX11_thing 18 = .ok (.if_icmp .le 13, 3) := by decide +kernel
theorem dX11_thing_21 : decode cX11_thing 21 = .ok (.new 66, 3) := by decide +kernel
theorem dX11_thing_24 : decode cX11_thing 24 = .ok (.dup, 1) := by decide +kernel
theorem dX11_thing_25 : decode cX11_thing 25 = .ok (.ldc 153, 2) := by decide +kernel
theorem dX11_thing_27 : decode cX11_thing 27 = .ok (.invokespecial 70, 3) := by decide +kernel
theorem dX11_thing_30 : decode cX11_thing 30 = .ok (.athrow, 1) := by decide +kernel
theorem dX11_thing_31 : decode cX11_thing 31 = .ok (.iload 4, 2) := by decide +kernel
theorem dX11_thing_33 : decode cX11_thing 33 = .ok (.bipush 112, 2) := by decide +kernel
theorem dX11_thing_35 : decode cX11_thing 35 = .ok (.if_icmp .eq 27, 3) := by decide +kernel
theorem dX11_thing_38 : decode cX11_thing 38 = .ok (.iload 4, 2) := by decide +kernel
theorem dX11_thing_40 : decode cX11_thing 40 = .ok (.bipush 108, 2) := by decide +kernel
theorem dX11_thing_42 : decode cX11_thing 42 = .ok (.if_icmp .eq 20, 3) := by decide +kernel
theorem dX11_thing_45 : decode cX11_thing 45 = .ok (.iload 4, 2) := by decide +kernel
theorem dX11_thing_47 : decode cX11_thing 47 = .ok (.bipush 98, 2) := by decide +kernel
theorem dX11_thing_49 : decode cX11_thing 49 = .ok (.if_icmp .eq 13, 3) := by decide +kernel
theorem dX11_thing_52 : decode cX11_thing 52 = .ok (.new 66, 3) := by decide +kernel
theorem dX11_thing_55 : decode cX11_thing 55 = .ok (.dup, 1) := by decide +kernel
theorem dX11_thing_56 : decode cX11_thing 56 = .ok (.ldc 155, 2) := by decide +kernel
theorem dX11_thing_58 : decode cX11_thing 58 = .ok (.invokespecial 70, 3) := by decide +kernel
theorem dX11_thing_61 : decode cX11_thing 61 = .ok (.athrow, 1) := by decide +kernel
theorem dX11_thing_62 : decode cX11_thing 62 = .ok (.aload_n 0, 1) := by decide +kernel
theorem dX11_thing_63 : decode cX11_thing 63 = .ok (.getfield 25, 3) := by decide +kernel
theorem dX11_thing_66 : decode cX11_thing 66 = .ok (.iload_n 1, 1) := by decide +kernel
theorem dX11_thing_67 : decode cX11_thing 67 = .ok (.invokevirtual 157, 3) := by decide +kernel
theorem dX11_thing_70 : decode cX11_thing 70 = .ok (.iconst (-1), 1) := by decide +kernel
theorem dX11_thing_71 : decode cX11_thing 71 = .ok (.if_icmp .eq 13, 3) := by decide +kernel
theorem dX11_thing_74 : decode cX11_thing 74 = .ok (.new 96, 3) := by decide +kernel
theorem dX11_thing_77 : decode cX11_thing 77 = .ok (.dup, 1) := by decide +kernel
theorem dX11_thing_78 : decode cX11_thing 78 = .ok (.ldc 161, 2) := by decide +kernel
theorem dX11_thing_80 : decode cX11_thing 80 = .ok (.invokespecial 100, 3) := by decide +kernel
theorem dX11_thing_83 : decode cX11_thing 83 = .ok (.athrow, 1) := by decide +kernel
theorem dX11_thing_84 : decode cX11_thing 84 = .ok (.aload_n 0, 1) := by decide +kernel
theorem dX11_thing_85 : decode cX11_thing 85 = .ok (.invokevirtual 110, 3) := by decide +kernel
theorem dX11_thing_88 : decode cX11_thing 88 = .ok (.aload_n 0, 1) := by decide +kernel
theorem dX11_thing_89 : decode cX11_thing 89 = .ok (.getfield 25, 3) := by decide +kernel
theorem dX11_thing_92 : decode cX11_thing 92 = .ok (.getfield 163, 3) := by decide +kernel
theorem dX11_thing_95 : decode cX11_thing 95 = .ok (.bipush 12, 2) := by decide +kernel
theorem dX11_thing_97 : decode cX11_thing 97 = .ok (.if_icmp .lt 13, 3) := by decide +kernel
theorem dX11_thing_100 : decode cX11_thing 100 = .ok (.new 77, 3) := by decide +kernel
theorem dX11_thing_103 : decode cX11_thing 103 = .ok (.dup, 1) := by decide +kernel
theorem dX11_thing_104 : decode cX11_thing 104 = .ok (.ldc 166, 2) := by decide +kernel
theorem dX11_thing_106 : decode cX11_thing 106 = .ok (.invokespecial 81, 3) := by decide +kernel
theorem dX11_thing_109 : decode cX11_thing 109 = .ok (.athrow, 1) := by decide +kernel
theorem dX11_thing_110 : decode cX11_thing 110 = .ok (.aload_n 0, 1) := by decide +kernel
theorem dX11_thing_111 : decode cX11_thing 111 = .ok (.getfield 25, 3) := by decide +kernel
theorem dX11_thing_114 : decode cX11_thing 114 = .ok (.getfield 163, 3) := by decide +kernel
theorem dX11_thing_117 : decode cX11_thing 117 = .ok (.istore 5, 2) := by decide +kernel
theorem dX11_thing_119 : decode cX11_thing 119 = .ok (.aload_n 0, 1) := by decide +kernel
theorem dX11_thing_120 : decode cX11_thing 120 = .ok (.getfield 25, 3) := by decide +kernel
theorem dX11_thing_123 : decode cX11_thing 123 = .ok (.getfield 168, 3) := by decide +kernel
theorem dX11_thing_126 : decode cX11_thing 126 = .ok (.iload 5, 2) := by decide +kernel
theorem dX11_thing_128 : decode cX11_thing 128 = .ok (.iload_n 1, 1) := by decide +kernel
theorem dX11_thing_129 : decode cX11_thing 129 = .ok (.iastore, 1) := by decide +kernel
theorem dX11_thing_130 : decode cX11_thing 130 = .ok (.aload_n 0, 1) := by decide +kernel
theorem dX11_thing_131 : decode cX11_thing 131 = .ok (.getfield 25, 3) := by decide +kernel
theorem dX11_thing_134 : decode cX11_thing 134 = .ok (.getfield 171, 3) := by decide +kernel
theorem dX11_thing_137 : decode cX11_thing 137 = .ok (.iload 5, 2) := by decide +kernel
theorem dX11_thing_139 : decode cX11_thing 139 = .ok (.iload_n 2, 1) := by decide +kernel
theorem dX11_thing_140 : decode cX11_thing 140 = .ok (.iastore, 1) := by decide +kernel
theorem dX11_thing_141 : decode cX11_thing 141 = .ok (.aload_n 0, 1) := by decide +kernel
theorem dX11_thing_142 : decode cX11_thing 142 = .ok (.getfield 25, 3) := by decide +kernel
theorem dX11_thing_145 : decode cX11_thing 145 = .ok (.getfield 174, 3) := by decide +kernel
theorem dX11_thing_148 : decode cX11_thing 148 = .ok (.iload 5, 2) := by decide +kernel
theorem dX11_thing_150 : decode cX11_thing 150 = .ok (.iload_n 3, 1) := by decide +kernel
theorem dX11_thing_151 : decode cX11_thing 151 = .ok (.iastore, 1) := by decide +kernel
theorem dX11_thing_152 : decode cX11_thing 152 = .ok (.aload_n 0, 1) := by decide +kernel
theorem dX11_thing_153 : decode cX11_thing 153 = .ok (.getfield 25, 3) := by decide +kernel
theorem dX11_thing_156 : decode cX11_thing 156 = .ok (.getfield 177, 3) := by decide +kernel
theorem dX11_thing_159 : decode cX11_thing 159 = .ok (.iload 5, 2) := by decide +kernel
theorem dX11_thing_161 : decode cX11_thing 161 = .ok (.iload 4, 2) := by decide +kernel
theorem dX11_thing_163 : decode cX11_thing 163 = .ok (.castore, 1) := by decide +kernel
theorem dX11_thing_164 : decode cX11_thing 164 = .ok (.aload_n 0, 1) := by decide +kernel
theorem dX11_thing_165 : decode cX11_thing 165 = .ok (.getfield 25, 3) := by decide +kernel
theorem dX11_thing_168 : decode cX11_thing 168 = .ok (.getfield 181, 3) := by decide +kernel
theorem dX11_thing_171 : decode cX11_thing 171 = .ok (.iload 5, 2) := by decide +kernel
theorem dX11_thing_173 : decode cX11_thing 173 = .ok (.iload 4, 2) := by decide +kernel
theorem dX11_thing_175 : decode cX11_thing 175 = .ok (.bipush 108, 2) := by decide +kernel
theorem dX11_thing_177 : decode cX11_thing 177 = .ok (.if_icmp .ne 8, 3) := by decide +kernel
theorem dX11_thing_180 : decode cX11_thing 180 = .ok (.bipush 10, 2) := by decide +kernel
theorem dX11_thing_182 : decode cX11_thing 182 = .ok (.goto 4, 3) := by decide +kernel
theorem dX11_thing_185 : decode cX11_thing 185 = .ok (.iconst 0, 1) := by decide +kernel
theorem dX11_thing_186 : decode cX11_thing 186 = .ok (.iastore, 1) := by decide +kernel
theorem dX11_thing_187 : decode cX11_thing 187 = .ok (.aload_n 0, 1) := by decide +kernel
theorem dX11_thing_188 : decode cX11_thing 188 = .ok (.getfield 25, 3) := by decide +kernel
theorem dX11_thing_191 : decode cX11_thing 191 = .ok (.dup, 1) := by decide +kernel
theorem dX11_thing_192 : decode cX11_thing 192 = .ok (.getfield 163, 3) := by decide +kernel
theorem dX11_thing_195 : decode cX11_thing 195 = .ok (.iconst 1, 1) := by decide +kernel
theorem dX11_thing_196 : decode cX11_thing 196 = .ok (.iadd, 1) := by decide +kernel
theorem dX11_thing_197 : decode cX11_thing 197 = .ok (.putfield 163, 3) := by decide +kernel
theorem dX11_thing_200 : decode cX11_thing 200 = .ok (.iload 5, 2) := by decide +kernel
theorem dX11_thing_202 : decode cX11_thing 202 = .ok (.ireturn, 1) := by decide +kernel
theorem dX11_fuel_0 : decode cX11_fuel 0 = .ok (.aload_n 0, 1) := by decide +kernel
theorem dX11_fuel_1 : decode cX11_fuel 1 = .ok (.iload_n 1, 1) := by decide +kernel
theorem dX11_fuel_2 : decode cX11_fuel 2 = .ok (.invokevirtual 148, 3) := by decide +kernel
theorem dX11_fuel_5 : decode cX11_fuel 5 = .ok (.iload_n 2, 1) := by decide +kernel
theorem dX11_fuel_6 : decode cX11_fuel 6 = .ok (.ifCond .lt 9, 3) := by decide +kernel
theorem dX11_fuel_9 : decode cX11_fuel 9 = .ok (.iload_n 2, 1) := by decide +kernel
theorem dX11_fuel_10 : decode cX11_fuel 10 = .ok (.bipush 99, 2) := by decide +kernel
theorem dX11_fuel_12 : decode cX11_fuel 12 = .ok (.if_icmp .le 13, 3) := by decide +kernel
theorem dX11_fuel_15 : decode cX11_fuel 15 = .ok (.new 66, 3) := by decide +kernel
theorem dX11_fuel_18 : decode cX11_fuel 18 = .ok (.dup, 1) := by decide +kernel
theorem dX11_fuel_19 : decode cX11_fuel 19 = .ok (.ldc 184, 2) := by decide +kernel
theorem dX11_fuel_21 : decode cX11_fuel 21 = .ok (.invokespecial 70, 3) := by decide +kernel
theorem dX11_fuel_24 : decode cX11_fuel 24 = .ok (.athrow, 1) := by decide +kernel
theorem dX11_fuel_25 : decode cX11_fuel 25 = .ok (.aload_n 0, 1) := by decide +kernel
theorem dX11_fuel_26 : decode cX11_fuel 26 = .ok (.iload_n 1, 1) := by decide +kernel
theorem dX11_fuel_27 : decode cX11_fuel 27 = .ok (.bipush 108, 2) := by decide +kernel
theorem dX11_fuel_29 : decode cX11_fuel 29 = .ok (.invokevirtual 186, 3) := by decide +kernel
theorem dX11_fuel_32 : decode cX11_fuel 32 = .ok (.aload_n 0, 1) := by decide +kernel
theorem dX11_fuel_33 : decode cX11_fuel 33 = .ok (.invokevirtual 110, 3) := by decide +kernel
theorem dX11_fuel_36 : decode cX11_fuel 36 = .ok (.aload_n 0, 1) := by decide +kernel
theorem dX11_fuel_37 : decode cX11_fuel 37 = .ok (.getfield 25, 3) := by decide +kernel
theorem dX11_fuel_40 : decode cX11_fuel 40 = .ok (.getfield 181, 3) := by decide +kernel
theorem dX11_fuel_43 : decode cX11_fuel 43 = .ok (.iload_n 1, 1) := by decide +kernel
theorem dX11_fuel_44 : decode cX11_fuel 44 = .ok (.iaload, 1) := by decide +kernel
theorem dX11_fuel_45 : decode cX11_fuel 45 = .ok (.istore_n 3, 1) := by decide +kernel
theorem dX11_fuel_46 : decode cX11_fuel 46 = .ok (.aload_n 0, 1) := by decide +kernel
theorem dX11_fuel_47 : decode cX11_fuel 47 = .ok (.getfield 25, 3) := by decide +kernel
theorem dX11_fuel_50 : decode cX11_fuel 50 = .ok (.getfield 181, 3) := by decide +kernel
theorem dX11_fuel_53 : decode cX11_fuel 53 = .ok (.iload_n 1, 1) := by decide +kernel
theorem dX11_fuel_54 : decode cX11_fuel 54 = .ok (.iload_n 2, 1) := by decide +kernel
theorem dX11_fuel_55 : decode cX11_fuel 55 = .ok (.iastore, 1) := by decide +kernel
theorem dX11_fuel_56 : decode cX11_fuel 56 = .ok (.iload_n 3, 1) := by decide +kernel
theorem dX11_fuel_57 : decode cX11_fuel 57 = .ok (.ireturn, 1) := by decide +kernel
theorem dX11_tell_0 : decode cX11_tell 0 = .ok (.aload_n 0, 1) := by decide +kernel
theorem dX11_tell_1 : decode cX11_tell 1 = .ok (.iload_n 1, 1) := by decide +kernel
theorem dX11_tell_2 : decode cX11_tell 2 = .ok (.invokevirtual 148, 3) := by decide +kernel
theorem dX11_tell_5 : decode cX11_tell 5 = .ok (.aload_n 0, 1) := by decide +kernel
theorem dX11_tell_6 : decode cX11_tell 6 = .ok (.iload_n 2, 1) := by decide +kernel
theorem dX11_tell_7 : decode cX11_tell 7 = .ok (.invokevirtual 126, 3) := by decide +kernel
theorem dX11_tell_10 : decode cX11_tell 10 = .ok (.aload_n 0, 1) := by decide +kernel
theorem dX11_tell_11 : decode cX11_tell 11 = .ok (.invokevirtual 110, 3) := by decide +kernel
theorem dX11_tell_14 : decode cX11_tell 14 = .ok (.aload_n 0, 1) := by decide +kernel
theorem dX11_tell_15 : decode cX11_tell 15 = .ok (.getfield 25, 3) := by decide +kernel
theorem dX11_tell_18 : decode cX11_tell 18 = .ok (.getfield 190, 3) := by decide +kernel
theorem dX11_tell_21 : decode cX11_tell 21 = .ok (.iload_n 1, 1) := by decide +kernel
theorem dX11_tell_22 : decode cX11_tell 22 = .ok (.dup2, 1) := by decide +kernel
theorem dX11_tell_23 : decode cX11_tell 23 = .ok (.laload, 1) := by decide +kernel
theorem dX11_tell_24 : decode cX11_tell 24 = .ok (.lconst 1, 1) := by decide +kernel
theorem dX11_tell_25 : decode cX11_tell 25 = .ok (.iload_n 2, 1) := by decide +kernel
theorem dX11_tell_26 : decode cX11_tell 26 = .ok (.lshl, 1) := by decide +kernel
theorem dX11_tell_27 : decode cX11_tell 27 = .ok (.lor, 1) := by decide +kernel
theorem dX11_tell_28 : decode cX11_tell 28 = .ok (.lastore, 1) := by decide +kernel
theorem dX11_tell_29 : decode cX11_tell 29 = .ok (.aload_n 0, 1) := by decide +kernel
theorem dX11_tell_30 : decode cX11_tell 30 = .ok (.getfield 25, 3) := by decide +kernel
theorem dX11_tell_33 : decode cX11_tell 33 = .ok (.getfield 190, 3) := by decide +kernel
theorem dX11_tell_36 : decode cX11_tell 36 = .ok (.iload_n 1, 1) := by decide +kernel
theorem dX11_tell_37 : decode cX11_tell 37 = .ok (.laload, 1) := by decide +kernel
theorem dX11_tell_38 : decode cX11_tell 38 = .ok (.invokestatic 132, 3) := by decide +kernel
theorem dX11_tell_41 : decode cX11_tell 41 = .ok (.ireturn, 1) := by decide +kernel
theorem dX11_goal_0 : decode cX11_goal 0 = .ok (.aload_n 0, 1) := by decide +kernel
theorem dX11_goal_1 : decode cX11_goal 1 = .ok (.iload_n 1, 1) := by decide +kernel
theorem dX11_goal_2 : decode cX11_goal 2 = .ok (.invokevirtual 148, 3) := by decide +kernel
theorem dX11_goal_5 : decode cX11_goal 5 = .ok (.aload_n 0, 1) := by decide +kernel
theorem dX11_goal_6 : decode cX11_goal 6 = .ok (.iload_n 2, 1) := by decide +kernel
theorem dX11_goal_7 : decode cX11_goal 7 = .ok (.invokevirtual 122, 3) := by decide +kernel
theorem dX11_goal_10 : decode cX11_goal 10 = .ok (.aload_n 0, 1) := by decide +kernel
theorem dX11_goal_11 : decode cX11_goal 11 = .ok (.invokevirtual 110, 3) := by decide +kernel
theorem dX11_goal_14 : decode cX11_goal 14 = .ok (.aload_n 0, 1) := by decide +kernel
theorem dX11_goal_15 : decode cX11_goal 15 = .ok (.getfield 25, 3) := by decide +kernel
theorem dX11_goal_18 : decode cX11_goal 18 = .ok (.getfield 193, 3) := by decide +kernel
theorem dX11_goal_21 : decode cX11_goal 21 = .ok (.bipush 6, 2) := by decide +kernel
theorem dX11_goal_23 : decode cX11_goal 23 = .ok (.if_icmp .lt 13, 3) := by decide +kernel
theorem dX11_goal_26 : decode cX11_goal 26 = .ok (.new 77, 3) := by decide +kernel
theorem dX11_goal_29 : decode cX11_goal 29 = .ok (.dup, 1) := by decide +kernel
theorem dX11_goal_30 : decode cX11_goal 30 = .ok (.ldc 196, 2) := by decide +kernel
theorem dX11_goal_32 : decode cX11_goal 32 = .ok (.invokespecial 81, 3) := by decide +kernel
theorem dX11_goal_35 : decode cX11_goal 35 = .ok (.athrow, 1) := by decide +kernel
theorem dX11_goal_36 : decode cX11_goal 36 = .ok (.aload_n 0, 1) := by decide +kernel
theorem dX11_goal_37 : decode cX11_goal 37 = .ok (.getfield 25, 3) := by decide +kernel
theorem dX11_goal_40 : decode cX11_goal 40 = .ok (.getfield 198, 3) := by decide +kernel
theorem dX11_goal_43 : decode cX11_goal 43 = .ok (.aload_n 0, 1) := by decide +kernel
theorem dX11_goal_44 : decode cX11_goal 44 = .ok (.getfield 25, 3) := by decide +kernel
theorem dX11_goal_47 : decode cX11_goal 47 = .ok (.getfield 193, 3) := by decide +kernel
theorem dX11_goal_50 : decode cX11_goal 50 = .ok (.iload_n 1, 1) := by decide +kernel
theorem dX11_goal_51 : decode cX11_goal 51 = .ok (.iastore, 1) := by decide +kernel
theorem dX11_goal_52 : decode cX11_goal 52 = .ok (.aload_n 0, 1) := by decide +kernel
theorem dX11_goal_53 : decode cX11_goal 53 = .ok (.getfield 25, 3) := by decide +kernel
theorem dX11_goal_56 : decode cX11_goal 56 = .ok (.getfield 201, 3) := by decide +kernel
theorem dX11_goal_59 : decode cX11_goal 59 = .ok (.aload_n 0, 1) := by decide +kernel
theorem dX11_goal_60 : decode cX11_goal 60 = .ok (.getfield 25, 3) := by decide +kernel
theorem dX11_goal_63 : decode cX11_goal 63 = .ok (.getfield 193, 3) := by decide +kernel
theorem dX11_goal_66 : decode cX11_goal 66 = .ok (.iload_n 2, 1) := by decide +kernel
theorem dX11_goal_67 : decode cX11_goal 67 = .ok (.iastore, 1) := by decide +kernel
theorem dX11_goal_68 : decode cX11_goal 68 = .ok (.aload_n 0, 1) := by decide +kernel
theorem dX11_goal_69 : decode cX11_goal 69 = .ok (.getfield 25, 3) := by decide +kernel
theorem dX11_goal_72 : decode cX11_goal 72 = .ok (.dup, 1) := by decide +kernel
theorem dX11_goal_73 : decode cX11_goal 73 = .ok (.getfield 193, 3) := by decide +kernel
theorem dX11_goal_76 : decode cX11_goal 76 = .ok (.iconst 1, 1) := by decide +kernel
theorem dX11_goal_77 : decode cX11_goal 77 = .ok (.iadd, 1) := by decide +kernel
theorem dX11_goal_78 : decode cX11_goal 78 = .ok (.putfield 193, 3) := by decide +kernel
theorem dX11_goal_81 : decode cX11_goal 81 = .ok (.aload_n 0, 1) := by decide +kernel
theorem dX11_goal_82 : decode cX11_goal 82 = .ok (.getfield 25, 3) := by decide +kernel
theorem dX11_goal_85 : decode cX11_goal 85 = .ok (.getfield 193, 3) := by decide +kernel
theorem dX11_goal_88 : decode cX11_goal 88 = .ok (.ireturn, 1) := by decide +kernel
theorem dX11_hint_0 : decode cX11_hint 0 = .ok (.iload_n 1, 1) := by decide +kernel
theorem dX11_hint_1 : decode cX11_hint 1 = .ok (.iconst 1, 1) := by decide +kernel
theorem dX11_hint_2 : decode cX11_hint 2 = .ok (.if_icmp .lt 9, 3) := by decide +kernel
theorem dX11_hint_5 : decode cX11_hint 5 = .ok (.iload_n 1, 1) := by decide +kernel
theorem dX11_hint_6 : decode cX11_hint 6 = .ok (.bipush 50, 2) := by decide +kernel
theorem dX11_hint_8 : decode cX11_hint 8 = .ok (.if_icmp .le 13, 3) := by decide +kernel
theorem dX11_hint_11 : decode cX11_hint 11 = .ok (.new 66, 3) := by decide +kernel
theorem dX11_hint_14 : decode cX11_hint 14 = .ok (.dup, 1) := by decide +kernel
theorem dX11_hint_15 : decode cX11_hint 15 = .ok (.ldc 204, 2) := by decide +kernel
theorem dX11_hint_17 : decode cX11_hint 17 = .ok (.invokespecial 70, 3) := by decide +kernel
theorem dX11_hint_20 : decode cX11_hint 20 = .ok (.athrow, 1) := by decide +kernel
theorem dX11_hint_21 : decode cX11_hint 21 = .ok (.aload_n 0, 1) := by decide +kernel
theorem dX11_hint_22 : decode cX11_hint 22 = .ok (.getfield 48, 3) := by decide +kernel
theorem dX11_hint_25 : decode cX11_hint 25 = .ok (.getfield 206, 3) := by decide +kernel
theorem dX11_hint_28 : decode cX11_hint 28 = .ok (.bipush 12, 2) := by decide +kernel
theorem dX11_hint_30 : decode cX11_hint 30 = .ok (.if_icmp .lt 13, 3) := by decide +kernel
theorem dX11_hint_33 : decode cX11_hint 33 = .ok (.new 77, 3) := by decide +kernel
theorem dX11_hint_36 : decode cX11_hint 36 = .ok (.dup, 1) := by decide +kernel
theorem dX11_hint_37 : decode cX11_hint 37 = .ok (.ldc 209, 2) := by decide +kernel
theorem dX11_hint_39 : decode cX11_hint 39 = .ok (.invokespecial 81, 3) := by decide +kernel
theorem dX11_hint_42 : decode cX11_hint 42 = .ok (.athrow, 1) := by decide +kernel
theorem dX11_hint_43 : decode cX11_hint 43 = .ok (.aload_n 0, 1) := by decide +kernel
theorem dX11_hint_44 : decode cX11_hint 44 = .ok (.getfield 48, 3) := by decide +kernel
theorem dX11_hint_47 : decode cX11_hint 47 = .ok (.getfield 211, 3) := by decide +kernel
theorem dX11_hint_50 : decode cX11_hint 50 = .ok (.aload_n 0, 1) := by decide +kernel
theorem dX11_hint_51 : decode cX11_hint 51 = .ok (.getfield 48, 3) := by decide +kernel
theorem dX11_hint_54 : decode cX11_hint 54 = .ok (.getfield 206, 3) := by decide +kernel
theorem dX11_hint_57 : decode cX11_hint 57 = .ok (.iload_n 1, 1) := by decide +kernel
theorem dX11_hint_58 : decode cX11_hint 58 = .ok (.iastore, 1) := by decide +kernel
theorem dX11_hint_59 : decode cX11_hint 59 = .ok (.aload_n 0, 1) := by decide +kernel
theorem dX11_hint_60 : decode cX11_hint 60 = .ok (.getfield 48, 3) := by decide +kernel
theorem dX11_hint_63 : decode cX11_hint 63 = .ok (.dup, 1) := by decide +kernel
theorem dX11_hint_64 : decode cX11_hint 64 = .ok (.getfield 206, 3) := by decide +kernel
theorem dX11_hint_67 : decode cX11_hint 67 = .ok (.iconst 1, 1) := by decide +kernel
theorem dX11_hint_68 : decode cX11_hint 68 = .ok (.iadd, 1) := by decide +kernel
theorem dX11_hint_69 : decode cX11_hint 69 = .ok (.putfield 206, 3) := by decide +kernel
theorem dX11_hint_72 : decode cX11_hint 72 = .ok (.aload_n 0, 1) := by decide +kernel
theorem dX11_hint_73 : decode cX11_hint 73 = .ok (.getfield 48, 3) := by decide +kernel
theorem dX11_hint_76 : decode cX11_hint 76 = .ok (.getfield 206, 3) := by decide +kernel
theorem dX11_hint_79 : decode cX11_hint 79 = .ok (.iconst 1, 1) := by decide +kernel
theorem dX11_hint_80 : decode cX11_hint 80 = .ok (.isub, 1) := by decide +kernel
theorem dX11_hint_81 : decode cX11_hint 81 = .ok (.ireturn, 1) := by decide +kernel
theorem dX11_teach_0 : decode cX11_teach 0 = .ok (.aload_n 0, 1) := by decide +kernel
theorem dX11_teach_1 : decode cX11_teach 1 = .ok (.iload_n 1, 1) := by decide +kernel
theorem dX11_teach_2 : decode cX11_teach 2 = .ok (.invokevirtual 214, 3) := by decide +kernel
theorem dX11_teach_5 : decode cX11_teach 5 = .ok (.aload_n 0, 1) := by decide +kernel
theorem dX11_teach_6 : decode cX11_teach 6 = .ok (.iload_n 2, 1) := by decide +kernel
theorem dX11_teach_7 : decode cX11_teach 7 = .ok (.invokevirtual 126, 3) := by decide +kernel
theorem dX11_teach_10 : decode cX11_teach 10 = .ok (.aload_n 0, 1) := by decide +kernel
theorem dX11_teach_11 : decode cX11_teach 11 = .ok (.getfield 48, 3) := by decide +kernel
theorem dX11_teach_14 : decode cX11_teach 14 = .ok (.getfield 217, 3) := by decide +kernel
theorem dX11_teach_17 : decode cX11_teach 17 = .ok (.iload_n 1, 1) := by decide +kernel
theorem dX11_teach_18 : decode cX11_teach 18 = .ok (.laload, 1) := by decide +kernel
theorem dX11_teach_19 : decode cX11_teach 19 = .ok (.lstore_n 3, 1) := by decide +kernel
theorem dX11_teach_20 : decode cX11_teach 20 = .ok (.lload_n 3, 1) := by decide +kernel
theorem dX11_teach_21 : decode cX11_teach 21 = .ok (.iload_n 2, 1) := by decide +kernel
theorem dX11_teach_22 : decode cX11_teach 22 = .ok (.invokestatic 220, 3) := by decide +kernel
theorem dX11_teach_25 : decode cX11_teach 25 = .ok (.ifCond .eq 13, 3) := by decide +kernel
theorem dX11_teach_28 : decode cX11_teach 28 = .ok (.new 96, 3) := by decide +kernel
theorem dX11_teach_31 : decode cX11_teach 31 = .ok (.dup, 1) := by decide +kernel
theorem dX11_teach_32 : decode cX11_teach 32 = .ok (.ldc 224, 2) := by decide +kernel
theorem dX11_teach_34 : decode cX11_teach 34 = .ok (.invokespecial 100, 3) := by decide +kernel
theorem dX11_teach_37 : decode cX11_teach 37 = .ok (.athrow, 1) := by decide +kernel
theorem dX11_teach_38 : decode cX11_teach 38 = .ok (.aload_n 0, 1) := by decide +kernel
theorem dX11_teach_39 : decode cX11_teach 39 = .ok (.getfield 48, 3) := by decide +kernel
theorem dX11_teach_42 : decode cX11_teach 42 = .ok (.iload_n 1, 1) := by decide +kernel
theorem dX11_teach_43 : decode cX11_teach 43 = .ok (.invokevirtual 226, 3) := by decide +kernel
theorem dX11_teach_46 : decode cX11_teach 46 = .ok (.ifCond .eq 13, 3) := by decide +kernel
theorem dX11_teach_49 : decode cX11_teach 49 = .ok (.new 96, 3) := by decide +kernel
theorem dX11_teach_52 : decode cX11_teach 52 = .ok (.dup, 1) := by decide +kernel
theorem dX11_teach_53 : decode cX11_teach 53 = .ok (.ldc 230, 2) := by decide +kernel
theorem dX11_teach_55 : decode cX11_teach 55 = .ok (.invokespecial 100, 3) := by decide +kernel
theorem dX11_teach_58 : decode cX11_teach 58 = .ok (.athrow, 1) := by decide +kernel
theorem dX11_teach_59 : decode cX11_teach 59 = .ok (.lload_n 3, 1) := by decide +kernel
theorem dX11_teach_60 : decode cX11_teach 60 = .ok (.invokestatic 132, 3) := by decide +kernel
theorem dX11_teach_63 : decode cX11_teach 63 = .ok (.bipush 6, 2) := by decide +kernel
theorem dX11_teach_65 : decode cX11_teach 65 = .ok (.if_icmp .lt 13, 3) := by decide +kernel
theorem dX11_teach_68 : decode cX11_teach 68 = .ok (.new 77, 3) := by decide +kernel
theorem dX11_teach_71 : decode cX11_teach 71 = .ok (.dup, 1) := by decide +kernel
theorem dX11_teach_72 : decode cX11_teach 72 = .ok (.ldc 232, 2) := by decide +kernel
theorem dX11_teach_74 : decode cX11_teach 74 = .ok (.invokespecial 81, 3) := by decide +kernel
theorem dX11_teach_77 : decode cX11_teach 77 = .ok (.athrow, 1) := by decide +kernel
theorem dX11_teach_78 : decode cX11_teach 78 = .ok (.aload_n 0, 1) := by decide +kernel
theorem dX11_teach_79 : decode cX11_teach 79 = .ok (.getfield 48, 3) := by decide +kernel
theorem dX11_teach_82 : decode cX11_teach 82 = .ok (.getfield 217, 3) := by decide +kernel
theorem dX11_teach_85 : decode cX11_teach 85 = .ok (.iload_n 1, 1) := by decide +kernel
theorem dX11_teach_86 : decode cX11_teach 86 = .ok (.lload_n 3, 1) := by decide +kernel
theorem dX11_teach_87 : decode cX11_teach 87 = .ok (.lconst 1, 1) := by decide +kernel
theorem dX11_teach_88 : decode cX11_teach 88 = .ok (.iload_n 2, 1) := by decide +kernel
theorem dX11_teach_89 : decode cX11_teach 89 = .ok (.lshl, 1) := by decide +kernel
theorem dX11_teach_90 : decode cX11_teach 90 = .ok (.lor, 1) := by decide +kernel
theorem dX11_teach_91 : decode cX11_teach 91 = .ok (.lastore, 1) := by decide +kernel
theorem dX11_teach_92 : decode cX11_teach 92 = .ok (.aload_n 0, 1) := by decide +kernel
theorem dX11_teach_93 : decode cX11_teach 93 = .ok (.getfield 48, 3) := by decide +kernel
theorem dX11_teach_96 : decode cX11_teach 96 = .ok (.getfield 217, 3) := by decide +kernel
theorem dX11_teach_99 : decode cX11_teach 99 = .ok (.iload_n 1, 1) := by decide +kernel
theorem dX11_teach_100 : decode cX11_teach 100 = .ok (.laload, 1) := by decide +kernel
theorem dX11_teach_101 : decode cX11_teach 101 = .ok (.invokestatic 132, 3) := by decide +kernel
theorem dX11_teach_104 : decode cX11_teach 104 = .ok (.ireturn, 1) := by decide +kernel
theorem dX11_begin_0 : decode cX11_begin 0 = .ok (.aload_n 0, 1) := by decide +kernel
theorem dX11_begin_1 : decode cX11_begin 1 = .ok (.iload_n 1, 1) := by decide +kernel
theorem dX11_begin_2 : decode cX11_begin 2 = .ok (.invokevirtual 122, 3) := by decide +kernel
theorem dX11_begin_5 : decode cX11_begin 5 = .ok (.aload_n 0, 1) := by decide +kernel
theorem dX11_begin_6 : decode cX11_begin 6 = .ok (.invokevirtual 110, 3) := by decide +kernel
theorem dX11_begin_9 : decode cX11_begin 9 = .ok (.aload_n 0, 1) := by decide +kernel
theorem dX11_begin_10 : decode cX11_begin 10 = .ok (.getfield 34, 3) := by decide +kernel
theorem dX11_begin_13 : decode cX11_begin 13 = .ok (.aload_n 0, 1) := by decide +kernel
theorem dX11_begin_14 : decode cX11_begin 14 = .ok (.getfield 55, 3) := by decide +kernel
theorem dX11_begin_17 : decode cX11_begin 17 = .ok (.iload_n 1, 1) := by decide +kernel
theorem dX11_begin_18 : decode cX11_begin 18 = .ok (.invokevirtual 234, 3) := by decide +kernel
theorem dX11_begin_21 : decode cX11_begin 21 = .ok (.aload_n 0, 1) := by decide +kernel
theorem dX11_begin_22 : decode cX11_begin 22 = .ok (.getfield 41, 3) := by decide +kernel
theorem dX11_begin_25 : decode cX11_begin 25 = .ok (.new 238, 3) := by decide +kernel
theorem dX11_begin_28 : decode cX11_begin 28 = .ok (.dup, 1) := by decide +kernel
theorem dX11_begin_29 : decode cX11_begin 29 = .ok (.getstatic 240, 3) := by decide +kernel
theorem dX11_begin_32 : decode cX11_begin 32 = .ok (.iload_n 1, 1) := by decide +kernel
theorem dX11_begin_33 : decode cX11_begin 33 = .ok (.iconst (-1), 1) := by decide +kernel
theorem dX11_begin_34 : decode cX11_begin 34 = .ok (.invokespecial 246, 3) := by decide +kernel
theorem dX11_begin_37 : decode cX11_begin 37 = .ok (.aload_n 0, 1) := by decide +kernel
theorem dX11_begin_38 : decode cX11_begin 38 = .ok (.getfield 55, 3) := by decide +kernel
theorem dX11_begin_41 : decode cX11_begin 41 = .ok (.aload_n 0, 1) := by decide +kernel
theorem dX11_begin_42 : decode cX11_begin 42 = .ok (.getfield 34, 3) := by decide +kernel
theorem dX11_begin_45 : decode cX11_begin 45 = .ok (.aload_n 0, 1) := by decide +kernel
theorem dX11_begin_46 : decode cX11_begin 46 = .ok (.getfield 55, 3) := by decide +kernel
theorem dX11_begin_49 : decode cX11_begin 49 = .ok (.invokevirtual 249, 3) := by decide +kernel
theorem dX11_begin_52 : decode cX11_begin 52 = .ok (.invokevirtual 253, 3) := by decide +kernel
theorem dX11_begin_55 : decode cX11_begin 55 = .ok (.pop, 1) := by decide +kernel
theorem dX11_begin_56 : decode cX11_begin 56 = .ok (.aload_n 0, 1) := by decide +kernel
theorem dX11_begin_57 : decode cX11_begin 57 = .ok (.invokevirtual 256, 3) := by decide +kernel
theorem dX11_begin_60 : decode cX11_begin 60 = .ok (.ireturn, 1) := by decide +kernel
theorem dX11_say_0 : decode cX11_say 0 = .ok (.aload_n 0, 1) := by decide +kernel
theorem dX11_say_1 : decode cX11_say 1 = .ok (.invokevirtual 260, 3) := by decide +kernel
theorem dX11_say_4 : decode cX11_say 4 = .ok (.aload_n 0, 1) := by decide +kernel
theorem dX11_say_5 : decode cX11_say 5 = .ok (.invokevirtual 263, 3) := by decide +kernel
theorem dX11_say_8 : decode cX11_say 8 = .ok (.astore_n 1, 1) := by decide +kernel
theorem dX11_say_9 : decode cX11_say 9 = .ok (.aload_n 1, 1) := by decide +kernel
theorem dX11_say_10 : decode cX11_say 10 = .ok (.ifnonnull 8, 3) := by decide +kernel
theorem dX11_say_13 : decode cX11_say 13 = .ok (.bipush 63, 2) := by decide +kernel
theorem dX11_say_15 : decode cX11_say 15 = .ok (.goto 8, 3) := by decide +kernel
theorem dX11_say_18 : decode cX11_say 18 = .ok (.aload_n 0, 1) := by decide +kernel
theorem dX11_say_19 : decode cX11_say 19 = .ok (.aload_n 1, 1) := by decide +kernel
theorem dX11_say_20 : decode cX11_say 20 = .ok (.invokevirtual 267, 3) := by decide +kernel
theorem dX11_say_23 : decode cX11_say 23 = .ok (.istore_n 2, 1) := by decide +kernel
theorem dX11_say_24 : decode cX11_say 24 = .ok (.aload_n 1, 1) := by decide +kernel
theorem dX11_say_25 : decode cX11_say 25 = .ok (.ifnull 19, 3) := by decide +kernel
theorem dX11_say_28 : decode cX11_say 28 = .ok (.iload_n 2, 1) := by decide +kernel
theorem dX11_say_29 : decode cX11_say 29 = .ok (.bipush 111, 2) := by decide +kernel
theorem dX11_say_31 : decode cX11_say 31 = .ok (.if_icmp .ne 13, 3) := by decide +kernel
theorem dX11_say_34 : decode cX11_say 34 = .ok (.aload_n 0, 1) := by decide +kernel
theorem dX11_say_35 : decode cX11_say 35 = .ok (.aload_n 1, 1) := by decide +kernel
theorem dX11_say_36 : decode cX11_say 36 = .ok (.invokevirtual 271, 3) := by decide +kernel
theorem dX11_say_39 : decode cX11_say 39 = .ok (.aload_n 0, 1) := by decide +kernel
theorem dX11_say_40 : decode cX11_say 40 = .ok (.aload_n 1, 1) := by decide +kernel
theorem dX11_say_41 : decode cX11_say 41 = .ok (.invokevirtual 275, 3) := by decide +kernel
theorem dX11_say_44 : decode cX11_say 44 = .ok (.aload_n 0, 1) := by decide +kernel
theorem dX11_say_45 : decode cX11_say 45 = .ok (.getfield 18, 3) := by decide +kernel
theorem dX11_say_48 : decode cX11_say 48 = .ok (.iconst 0, 1) := by decide +kernel
theorem dX11_say_49 : decode cX11_say 49 = .ok (.putfield 73, 3) := by decide +kernel
theorem dX11_say_52 : decode cX11_say 52 = .ok (.iload_n 2, 1) := by decide +kernel
theorem dX11_say_53 : decode cX11_say 53 = .ok (.ireturn, 1) := by decide +kernel
theorem dX11_at_0 : decode cX11_at 0 = .ok (.aload_n 0, 1) := by decide +kernel
theorem dX11_at_1 : decode cX11_at 1 = .ok (.invokevirtual 278, 3) := by decide +kernel
theorem dX11_at_4 : decode cX11_at 4 = .ok (.getfield 282, 3) := by decide +kernel
theorem dX11_at_7 : decode cX11_at 7 = .ok (.ireturn, 1) := by decide +kernel
theorem dX11_place_0 : decode cX11_place 0 = .ok (.aload_n 0, 1) := by decide +kernel
theorem dX11_place_1 : decode cX11_place 1 = .ok (.iload_n 1, 1) := by decide +kernel
theorem dX11_place_2 : decode cX11_place 2 = .ok (.invokevirtual 148, 3) := by decide +kernel
theorem dX11_place_5 : decode cX11_place 5 = .ok (.aload_n 0, 1) := by decide +kernel
theorem dX11_place_6 : decode cX11_place 6 = .ok (.invokevirtual 278, 3) := by decide +kernel
theorem dX11_place_9 : decode cX11_place 9 = .ok (.getfield 285, 3) := by decide +kernel
theorem dX11_place_12 : decode cX11_place 12 = .ok (.iload_n 1, 1) := by decide +kernel
theorem dX11_place_13 : decode cX11_place 13 = .ok (.iaload, 1) := by decide +kernel
theorem dX11_place_14 : decode cX11_place 14 = .ok (.ireturn, 1) := by decide +kernel
theorem dX11_isOpen_0 : decode cX11_isOpen 0 = .ok (.aload_n 0, 1) := by decide +kernel
theorem dX11_isOpen_1 : decode cX11_isOpen 1 = .ok (.iload_n 1, 1) := by decide +kernel
theorem dX11_isOpen_2 : decode cX11_isOpen 2 = .ok (.invokevirtual 148, 3) := by decide +kernel
theorem dX11_isOpen_5 : decode cX11_isOpen 5 = .ok (.aload_n 0, 1) := by decide +kernel
theorem dX11_isOpen_6 : decode cX11_isOpen 6 = .ok (.invokevirtual 278, 3) := by decide +kernel
theorem dX11_isOpen_9 : decode cX11_isOpen 9 = .ok (.astore_n 2, 1) := by decide +kernel
theorem dX11_isOpen_10 : decode cX11_isOpen 10 = .ok (.aload_n 0, 1) := by decide +kernel
theorem dX11_isOpen_11 : decode cX11_isOpen 11 = .ok (.iload_n 1, 1) := by decide +kernel
theorem dX11_isOpen_12 : decode cX11_isOpen 12 = .ok (.bipush 98, 2) := by decide +kernel
theorem dX11_isOpen_14 : decode cX11_isOpen 14 = .ok (.invokevirtual 186, 3) := by decide +kernel
theorem dX11_isOpen_17 : decode cX11_isOpen 17 = .ok (.aload_n 2, 1) := by decide +kernel
theorem dX11_isOpen_18 : decode cX11_isOpen 18 = .ok (.getfield 288, 3) := by decide +kernel
theorem dX11_isOpen_21 : decode cX11_isOpen 21 = .ok (.iload_n 1, 1) := by decide +kernel
theorem dX11_isOpen_22 : decode cX11_isOpen 22 = .ok (.baload, 1) := by decide +kernel
theorem dX11_isOpen_23 : decode cX11_isOpen 23 = .ok (.ireturn, 1) := by decide +kernel
theorem dX11_lit_0 : decode cX11_lit 0 = .ok (.aload_n 0, 1) := by decide +kernel
theorem dX11_lit_1 : decode cX11_lit 1 = .ok (.iload_n 1, 1) := by decide +kernel
theorem dX11_lit_2 : decode cX11_lit 2 = .ok (.invokevirtual 148, 3) := by decide +kernel
theorem dX11_lit_5 : decode cX11_lit 5 = .ok (.aload_n 0, 1) := by decide +kernel
theorem dX11_lit_6 : decode cX11_lit 6 = .ok (.invokevirtual 278, 3) := by decide +kernel
theorem dX11_lit_9 : decode cX11_lit 9 = .ok (.astore_n 2, 1) := by decide +kernel
theorem dX11_lit_10 : decode cX11_lit 10 = .ok (.aload_n 0, 1) := by decide +kernel
theorem dX11_lit_11 : decode cX11_lit 11 = .ok (.iload_n 1, 1) := by decide +kernel
theorem dX11_lit_12 : decode cX11_lit 12 = .ok (.bipush 108, 2) := by decide +kernel
theorem dX11_lit_14 : decode cX11_lit 14 = .ok (.invokevirtual 186, 3) := by decide +kernel
theorem dX11_lit_17 : decode cX11_lit 17 = .ok (.aload_n 2, 1) := by decide +kernel
theorem dX11_lit_18 : decode cX11_lit 18 = .ok (.getfield 288, 3) := by decide +kernel
theorem dX11_lit_21 : decode cX11_lit 21 = .ok (.iload_n 1, 1) := by decide +kernel
theorem dX11_lit_22 : decode cX11_lit 22 = .ok (.baload, 1) := by decide +kernel
theorem dX11_lit_23 : decode cX11_lit 23 = .ok (.ifCond .eq 12, 3) := by decide +kernel
theorem dX11_lit_26 : decode cX11_lit 26 = .ok (.aload_n 2, 1) := by decide +kernel
theorem dX11_lit_27 : decode cX11_lit 27 = .ok (.getfield 291, 3) := by decide +kernel
theorem dX11_lit_30 : decode cX11_lit 30 = .ok (.iload_n 1, 1) := by decide +kernel
theorem dX11_lit_31 : decode cX11_lit 31 = .ok (.iaload, 1) := by decide +kernel
theorem dX11_lit_32 : decode cX11_lit 32 = .ok (.goto 11, 3) := by decide +kernel
theorem dX11_lit_35 : decode cX11_lit 35 = .ok (.iconst (-1), 1) := by decide +kernel
theorem dX11_lit_36 : decode cX11_lit 36 = .ok (.aload_n 2, 1) := by decide +kernel
theorem dX11_lit_37 : decode cX11_lit 37 = .ok (.getfield 291, 3) := by decide +kernel
theorem dX11_lit_40 : decode cX11_lit 40 = .ok (.iload_n 1, 1) := by decide +kernel
theorem dX11_lit_41 : decode cX11_lit 41 = .ok (.iaload, 1) := by decide +kernel
theorem dX11_lit_42 : decode cX11_lit 42 = .ok (.isub, 1) := by decide +kernel
theorem dX11_lit_43 : decode cX11_lit 43 = .ok (.ireturn, 1) := by decide +kernel
theorem dX11_isBright_0 : decode cX11_isBright 0 = .ok (.aload_n 0, 1) := by decide +kernel
theorem dX11_isBright_1 : decode cX11_isBright 1 = .ok (.getfield 34, 3) := by decide +kernel
theorem dX11_isBright_4 : decode cX11_isBright 4 = .ok (.aload_n 0, 1) := by decide +kernel
theorem dX11_isBright_5 : decode cX11_isBright 5 = .ok (.invokevirtual 278, 3) := by decide +kernel
theorem dX11_isBright_8 : decode cX11_isBright 8 = .ok (.invokevirtual 292, 3) := by decide +kernel
theorem dX11_isBright_11 : decode cX11_isBright 11 = .ok (.ireturn, 1) := by decide +kernel
theorem dX11_weight_0 : decode cX11_weight 0 = .ok (.aload_n 0, 1) := by decide +kernel
theorem dX11_weight_1 : decode cX11_weight 1 = .ok (.getfield 34, 3) := by decide +kernel
theorem dX11_weight_4 : decode cX11_weight 4 = .ok (.aload_n 0, 1) := by decide +kernel
theorem dX11_weight_5 : decode cX11_weight 5 = .ok (.invokevirtual 278, 3) := by decide +kernel
theorem dX11_weight_8 : decode cX11_weight 8 = .ok (.invokevirtual 296, 3) := by decide +kernel
theorem dX11_weight_11 : decode cX11_weight 11 = .ok (.ireturn, 1) := by decide +kernel
theorem dX11_node_0 : decode cX11_node 0 = .ok (.aload_n 0, 1) := by decide +kernel
theorem dX11_node_1 : decode cX11_node 1 = .ok (.invokevirtual 260, 3) := by decide +kernel
theorem dX11_node_4 : decode cX11_node 4 = .ok (.aload_n 0, 1) := by decide +kernel
theorem dX11_node_5 : decode cX11_node 5 = .ok (.getfield 41, 3) := by decide +kernel
theorem dX11_node_8 : decode cX11_node 8 = .ok (.getfield 300, 3) := by decide +kernel
theorem dX11_node_11 : decode cX11_node 11 = .ok (.ireturn, 1) := by decide +kernel
theorem dX11_nodes_0 : decode cX11_nodes 0 = .ok (.aload_n 0, 1) := by decide +kernel
theorem dX11_nodes_1 : decode cX11_nodes 1 = .ok (.invokevirtual 260, 3) := by decide +kernel
theorem dX11_nodes_4 : decode cX11_nodes 4 = .ok (.aload_n 0, 1) := by decide +kernel
theorem dX11_nodes_5 : decode cX11_nodes 5 = .ok (.getfield 41, 3) := by decide +kernel
theorem dX11_nodes_8 : decode cX11_nodes 8 = .ok (.getfield 303, 3) := by decide +kernel
theorem dX11_nodes_11 : decode cX11_nodes 11 = .ok (.invokevirtual 307, 3) := by decide +kernel
theorem dX11_nodes_14 : decode cX11_nodes 14 = .ok (.ireturn, 1) := by decide +kernel
theorem dX11_parent_0 : decode cX11_parent 0 = .ok (.aload_n 0, 1) := by decide +kernel
theorem dX11_parent_1 : decode cX11_parent 1 = .ok (.iload_n 1, 1) := by decide +kernel
theorem dX11_parent_2 : decode cX11_parent 2 = .ok (.invokevirtual 312, 3) := by decide +kernel
theorem dX11_parent_5 : decode cX11_parent 5 = .ok (.getfield 316, 3) := by decide +kernel
theorem dX11_parent_8 : decode cX11_parent 8 = .ok (.astore_n 2, 1) := by decide +kernel
theorem dX11_parent_9 : decode cX11_parent 9 = .ok (.aload_n 2, 1) := by decide +kernel
theorem dX11_parent_10 : decode cX11_parent 10 = .ok (.ifnonnull 14, 3) := by decide +kernel
theorem dX11_parent_13 : decode cX11_parent 13 = .ok (.new 320, 3) := by decide +kernel
theorem dX11_parent_16 : decode cX11_parent 16 = .ok (.dup, 1) := by decide +kernel
theorem dX11_parent_17 : decode cX11_parent 17 = .ok (.ldc_w 322, 3) := by decide +kernel
theorem dX11_parent_20 : decode cX11_parent 20 = .ok (.invokespecial 324, 3) := by decide +kernel
theorem dX11_parent_23 : decode cX11_parent 23 = .ok (.athrow, 1) := by decide +kernel
theorem dX11_parent_24 : decode cX11_parent 24 = .ok (.aload_n 2, 1) := by decide +kernel
theorem dX11_parent_25 : decode cX11_parent 25 = .ok (.getfield 325, 3) := by decide +kernel
theorem dX11_parent_28 : decode cX11_parent 28 = .ok (.ireturn, 1) := by decide +kernel
theorem dX11_depth_0 : decode cX11_depth 0 = .ok (.aload_n 0, 1) := by decide +kernel
theorem dX11_depth_1 : decode cX11_depth 1 = .ok (.iload_n 1, 1) := by decide +kernel
theorem dX11_depth_2 : decode cX11_depth 2 = .ok (.invokevirtual 312, 3) := by decide +kernel
theorem dX11_depth_5 : decode cX11_depth 5 = .ok (.invokevirtual 328, 3) := by decide +kernel
theorem dX11_depth_8 : decode cX11_depth 8 = .ok (.ireturn, 1) := by decide +kernel
theorem dX11_children_0 : decode cX11_children 0 = .ok (.aload_n 0, 1) := by decide +kernel
theorem dX11_children_1 : decode cX11_children 1 = .ok (.getfield 41, 3) := by decide +kernel
theorem dX11_children_4 : decode cX11_children 4 = .ok (.aload_n 0, 1) := by decide +kernel
theorem dX11_children_5 : decode cX11_children 5 = .ok (.iload_n 1, 1) := by decide +kernel
theorem dX11_children_6 : decode cX11_children 6 = .ok (.invokevirtual 312, 3) := by decide +kernel
theorem dX11_children_9 : decode cX11_children 9 = .ok (.getfield 325, 3) := by decide +kernel
theorem dX11_children_12 : decode cX11_children 12 = .ok (.invokevirtual 331, 3) := by decide +kernel
theorem dX11_children_15 : decode cX11_children 15 = .ok (.ireturn, 1) := by decide +kernel
theorem dX11_common_0 : decode cX11_common 0 = .ok (.aload_n 0, 1) := by decide +kernel
theorem dX11_common_1 : decode cX11_common 1 = .ok (.iload_n 1, 1) := by decide +kernel
theorem dX11_common_2 : decode cX11_common 2 = .ok (.invokevirtual 312, 3) := by decide +kernel
theorem dX11_common_5 : decode cX11_common 5 = .ok (.astore_n 3, 1) := by decide +kernel
theorem dX11_common_6 : decode cX11_common 6 = .ok (.aload_n 3, 1) := by decide +kernel
theorem dX11_common_7 : decode cX11_common 7 = .ok (.aload_n 0, 1) := by decide +kernel
theorem dX11_common_8 : decode cX11_common 8 = .ok (.iload_n 2, 1) := by decide +kernel
theorem dX11_common_9 : decode cX11_common 9 = .ok (.invokevirtual 312, 3) := by decide +kernel
theorem dX11_common_12 : decode cX11_common 12 = .ok (.invokevirtual 334, 3) := by decide +kernel
theorem dX11_common_15 : decode cX11_common 15 = .ok (.ireturn, 1) := by decide +kernel
theorem dX11_undo_0 : decode cX11_undo 0 = .ok (.aload_n 0, 1) := by decide +kernel
theorem dX11_undo_1 : decode cX11_undo 1 = .ok (.invokevirtual 260, 3) := by decide +kernel
theorem dX11_undo_4 : decode cX11_undo 4 = .ok (.aload_n 0, 1) := by decide +kernel
theorem dX11_undo_5 : decode cX11_undo 5 = .ok (.getfield 41, 3) := by decide +kernel
theorem dX11_undo_8 : decode cX11_undo 8 = .ok (.invokevirtual 338, 3) := by decide +kernel
theorem dX11_undo_11 : decode cX11_undo 11 = .ok (.getfield 316, 3) := by decide +kernel
theorem dX11_undo_14 : decode cX11_undo 14 = .ok (.astore_n 1, 1) := by decide +kernel
theorem dX11_undo_15 : decode cX11_undo 15 = .ok (.aload_n 1, 1) := by decide +kernel
theorem dX11_undo_16 : decode cX11_undo 16 = .ok (.ifnonnull 14, 3) := by decide +kernel
theorem dX11_undo_19 : decode cX11_undo 19 = .ok (.new 320, 3) := by decide +kernel
theorem dX11_undo_22 : decode cX11_undo 22 = .ok (.dup, 1) := by decide +kernel
theorem dX11_undo_23 : decode cX11_undo 23 = .ok (.ldc_w 342, 3) := by decide +kernel
theorem dX11_undo_26 : decode cX11_undo 26 = .ok (.invokespecial 324, 3) := by decide +kernel
theorem dX11_undo_29 : decode cX11_undo 29 = .ok (.athrow, 1) := by decide +kernel
theorem dX11_undo_30 : decode cX11_undo 30 = .ok (.aload_n 0, 1) := by decide +kernel
theorem dX11_undo_31 : decode cX11_undo 31 = .ok (.getfield 41, 3) := by decide +kernel
theorem dX11_undo_34 : decode cX11_undo 34 = .ok (.aload_n 1, 1) := by decide +kernel
theorem dX11_undo_35 : decode cX11_undo 35 = .ok (.getfield 325, 3) := by decide +kernel
theorem dX11_undo_38 : decode cX11_undo 38 = .ok (.putfield 300, 3) := by decide +kernel
theorem dX11_undo_41 : decode cX11_undo 41 = .ok (.aload_n 0, 1) := by decide +kernel
theorem dX11_undo_42 : decode cX11_undo 42 = .ok (.getfield 41, 3) := by decide +kernel
theorem dX11_undo_45 : decode cX11_undo 45 = .ok (.getfield 300, 3) := by decide +kernel
theorem dX11_undo_48 : decode cX11_undo 48 = .ok (.ireturn, 1) := by decide +kernel
theorem dX11_redo_0 : decode cX11_redo 0 = .ok (.aload_n 0, 1) := by decide +kernel
theorem dX11_redo_1 : decode cX11_redo 1 = .ok (.invokevirtual 260, 3) := by decide +kernel
theorem dX11_redo_4 : decode cX11_redo 4 = .ok (.aload_n 0, 1) := by decide +kernel
theorem dX11_redo_5 : decode cX11_redo 5 = .ok (.getfield 41, 3) := by decide +kernel
theorem dX11_redo_8 : decode cX11_redo 8 = .ok (.iload_n 1, 1) := by decide +kernel
theorem dX11_redo_9 : decode cX11_redo 9 = .ok (.invokevirtual 344, 3) := by decide +kernel
theorem dX11_redo_12 : decode cX11_redo 12 = .ok (.istore_n 2, 1) := by decide +kernel
theorem dX11_redo_13 : decode cX11_redo 13 = .ok (.iload_n 2, 1) := by decide +kernel
theorem dX11_redo_14 : decode cX11_redo 14 = .ok (.iconst (-1), 1) := by decide +kernel
theorem dX11_redo_15 : decode cX11_redo 15 = .ok (.if_icmp .ne 14, 3) := by decide +kernel
theorem dX11_redo_18 : decode cX11_redo 18 = .ok (.new 320, 3) := by decide +kernel
theorem dX11_redo_21 : decode cX11_redo 21 = .ok (.dup, 1) := by decide +kernel
theorem dX11_redo_22 : decode cX11_redo 22 = .ok (.ldc_w 347, 3) := by decide +kernel
theorem dX11_redo_25 : decode cX11_redo 25 = .ok (.invokespecial 324, 3) := by decide +kernel
theorem dX11_redo_28 : decode cX11_redo 28 = .ok (.athrow, 1) := by decide +kernel
theorem dX11_redo_29 : decode cX11_redo 29 = .ok (.aload_n 0, 1) := by decide +kernel
theorem dX11_redo_30 : decode cX11_redo 30 = .ok (.getfield 41, 3) := by decide +kernel
theorem dX11_redo_33 : decode cX11_redo 33 = .ok (.iload_n 2, 1) := by decide +kernel
theorem dX11_redo_34 : decode cX11_redo 34 = .ok (.putfield 300, 3) := by decide +kernel
theorem dX11_redo_37 : decode cX11_redo 37 = .ok (.iload_n 2, 1) := by decide +kernel
theorem dX11_redo_38 : decode cX11_redo 38 = .ok (.ireturn, 1) := by decide +kernel
theorem dX11_name_0 : decode cX11_name 0 = .ok (.aload_n 0, 1) := by decide +kernel
theorem dX11_name_1 : decode cX11_name 1 = .ok (.invokevirtual 260, 3) := by decide +kernel
theorem dX11_name_4 : decode cX11_name 4 = .ok (.aload_n 0, 1) := by decide +kernel
theorem dX11_name_5 : decode cX11_name 5 = .ok (.getfield 18, 3) := by decide +kernel
theorem dX11_name_8 : decode cX11_name 8 = .ok (.invokevirtual 86, 3) := by decide +kernel
theorem dX11_name_11 : decode cX11_name 11 = .ok (.lstore_n 1, 1) := by decide +kernel
theorem dX11_name_12 : decode cX11_name 12 = .ok (.lload_n 1, 1) := by decide +kernel
theorem dX11_name_13 : decode cX11_name 13 = .ok (.lconst 0, 1) := by decide +kernel
theorem dX11_name_14 : decode cX11_name 14 = .ok (.lcmp, 1) := by decide +kernel
theorem dX11_name_15 : decode cX11_name 15 = .ok (.ifCond .ne 13, 3) := by decide +kernel
theorem dX11_name_18 : decode cX11_name 18 = .ok (.new 66, 3) := by decide +kernel
theorem dX11_name_21 : decode cX11_name 21 = .ok (.dup, 1) := by decide +kernel
theorem dX11_name_22 : decode cX11_name 22 = .ok (.ldc 90, 2) := by decide +kernel
theorem dX11_name_24 : decode cX11_name 24 = .ok (.invokespecial 70, 3) := by decide +kernel
theorem dX11_name_27 : decode cX11_name 27 = .ok (.athrow, 1) := by decide +kernel
theorem dX11_name_28 : decode cX11_name 28 = .ok (.aload_n 0, 1) := by decide +kernel
theorem dX11_name_29 : decode cX11_name 29 = .ok (.getfield 41, 3) := by decide +kernel
theorem dX11_name_32 : decode cX11_name 32 = .ok (.lload_n 1, 1) := by decide +kernel
theorem dX11_name_33 : decode cX11_name 33 = .ok (.invokevirtual 349, 3) := by decide +kernel
theorem dX11_name_36 : decode cX11_name 36 = .ok (.istore_n 3, 1) := by decide +kernel
theorem dX11_name_37 : decode cX11_name 37 = .ok (.iload_n 3, 1) := by decide +kernel
theorem dX11_name_38 : decode cX11_name 38 = .ok (.iconst (-1), 1) := by decide +kernel
theorem dX11_name_39 : decode cX11_name 39 = .ok (.if_icmp .eq 25, 3) := by decide +kernel
theorem dX11_name_42 : decode cX11_name 42 = .ok (.iload_n 3, 1) := by decide +kernel
theorem dX11_name_43 : decode cX11_name 43 = .ok (.aload_n 0, 1) := by decide +kernel
theorem dX11_name_44 : decode cX11_name 44 = .ok (.getfield 41, 3) := by decide +kernel
theorem dX11_name_47 : decode cX11_name 47 = .ok (.getfield 300, 3) := by decide +kernel
theorem dX11_name_50 : decode cX11_name 50 = .ok (.if_icmp .eq 14, 3) := by decide +kernel
theorem dX11_name_53 : decode cX11_name 53 = .ok (.new 96, 3) := by decide +kernel
theorem dX11_name_56 : decode cX11_name 56 = .ok (.dup, 1) := by decide +kernel
theorem dX11_name_57 : decode cX11_name 57 = .ok (.ldc_w 352, 3) := by decide +kernel
theorem dX11_name_60 : decode cX11_name 60 = .ok (.invokespecial 100, 3) := by decide +kernel
theorem dX11_name_63 : decode cX11_name 63 = .ok (.athrow, 1) := by decide +kernel
theorem dX11_name_64 : decode cX11_name 64 = .ok (.aload_n 0, 1) := by decide +kernel
theorem dX11_name_65 : decode cX11_name 65 = .ok (.getfield 41, 3) := by decide +kernel
theorem dX11_name_68 : decode cX11_name 68 = .ok (.invokevirtual 338, 3) := by decide +kernel
theorem dX11_name_71 : decode cX11_name 71 = .ok (.lload_n 1, 1) := by decide +kernel
theorem dX11_name_72 : decode cX11_name 72 = .ok (.putfield 354, 3) := by decide +kernel
theorem dX11_name_75 : decode cX11_name 75 = .ok (.aload_n 0, 1) := by decide +kernel
theorem dX11_name_76 : decode cX11_name 76 = .ok (.getfield 18, 3) := by decide +kernel
theorem dX11_name_79 : decode cX11_name 79 = .ok (.iconst 0, 1) := by decide +kernel
theorem dX11_name_80 : decode cX11_name 80 = .ok (.putfield 73, 3) := by decide +kernel
theorem dX11_name_83 : decode cX11_name 83 = .ok (.aload_n 0, 1) := by decide +kernel
theorem dX11_name_84 : decode cX11_name 84 = .ok (.getfield 41, 3) := by decide +kernel
theorem dX11_name_87 : decode cX11_name 87 = .ok (.invokevirtual 358, 3) := by decide +kernel
theorem dX11_name_90 : decode cX11_name 90 = .ok (.ireturn, 1) := by decide +kernel
theorem dX11_jump_0 : decode cX11_jump 0 = .ok (.aload_n 0, 1) := by decide +kernel
theorem dX11_jump_1 : decode cX11_jump 1 = .ok (.invokevirtual 260, 3) := by decide +kernel
theorem dX11_jump_4 : decode cX11_jump 4 = .ok (.aload_n 0, 1) := by decide +kernel
theorem dX11_jump_5 : decode cX11_jump 5 = .ok (.getfield 41, 3) := by decide +kernel
theorem dX11_jump_8 : decode cX11_jump 8 = .ok (.aload_n 0, 1) := by decide +kernel
theorem dX11_jump_9 : decode cX11_jump 9 = .ok (.getfield 18, 3) := by decide +kernel
theorem dX11_jump_12 : decode cX11_jump 12 = .ok (.invokevirtual 86, 3) := by decide +kernel
theorem dX11_jump_15 : decode cX11_jump 15 = .ok (.invokevirtual 349, 3) := by decide +kernel
theorem dX11_jump_18 : decode cX11_jump 18 = .ok (.istore_n 1, 1) := by decide +kernel
theorem dX11_jump_19 : decode cX11_jump 19 = .ok (.iload_n 1, 1) := by decide +kernel
theorem dX11_jump_20 : decode cX11_jump 20 = .ok (.iconst (-1), 1) := by decide +kernel
theorem dX11_jump_21 : decode cX11_jump 21 = .ok (.if_icmp .ne 14, 3) := by decide +kernel
theorem dX11_jump_24 : decode cX11_jump 24 = .ok (.new 320, 3) := by decide +kernel
theorem dX11_jump_27 : decode cX11_jump 27 = .ok (.dup, 1) := by decide +kernel
theorem dX11_jump_28 : decode cX11_jump 28 = .ok (.ldc_w 361, 3) := by decide +kernel
theorem dX11_jump_31 : decode cX11_jump 31 = .ok (.invokespecial 324, 3) := by decide +kernel
theorem dX11_jump_34 : decode cX11_jump 34 = .ok (.athrow, 1) := by decide +kernel
theorem dX11_jump_35 : decode cX11_jump 35 = .ok (.aload_n 0, 1) := by decide +kernel
theorem dX11_jump_36 : decode cX11_jump 36 = .ok (.getfield 41, 3) := by decide +kernel
theorem dX11_jump_39 : decode cX11_jump 39 = .ok (.iload_n 1, 1) := by decide +kernel
theorem dX11_jump_40 : decode cX11_jump 40 = .ok (.putfield 300, 3) := by decide +kernel
theorem dX11_jump_43 : decode cX11_jump 43 = .ok (.aload_n 0, 1) := by decide +kernel
theorem dX11_jump_44 : decode cX11_jump 44 = .ok (.getfield 18, 3) := by decide +kernel
theorem dX11_jump_47 : decode cX11_jump 47 = .ok (.iconst 0, 1) := by decide +kernel
theorem dX11_jump_48 : decode cX11_jump 48 = .ok (.putfield 73, 3) := by decide +kernel
theorem dX11_jump_51 : decode cX11_jump 51 = .ok (.iload_n 1, 1) := by decide +kernel
theorem dX11_jump_52 : decode cX11_jump 52 = .ok (.ireturn, 1) := by decide +kernel
theorem dX11_isKnown_0 : decode cX11_isKnown 0 = .ok (.aload_n 0, 1) := by decide +kernel
theorem dX11_isKnown_1 : decode cX11_isKnown 1 = .ok (.iload_n 1, 1) := by decide +kernel
theorem dX11_isKnown_2 : decode cX11_isKnown 2 = .ok (.invokevirtual 126, 3) := by decide +kernel
theorem dX11_isKnown_5 : decode cX11_isKnown 5 = .ok (.aload_n 0, 1) := by decide +kernel
theorem dX11_isKnown_6 : decode cX11_isKnown 6 = .ok (.invokevirtual 260, 3) := by decide +kernel
theorem dX11_isKnown_9 : decode cX11_isKnown 9 = .ok (.aload_n 0, 1) := by decide +kernel
theorem dX11_isKnown_10 : decode cX11_isKnown 10 = .ok (.getfield 41, 3) := by decide +kernel
theorem dX11_isKnown_13 : decode cX11_isKnown 13 = .ok (.invokevirtual 338, 3) := by decide +kernel
theorem dX11_isKnown_16 : decode cX11_isKnown 16 = .ok (.invokevirtual 363, 3) := by decide +kernel
theorem dX11_isKnown_19 : decode cX11_isKnown 19 = .ok (.iload_n 1, 1) := by decide +kernel
theorem dX11_isKnown_20 : decode cX11_isKnown 20 = .ok (.invokestatic 220, 3) := by decide +kernel
theorem dX11_isKnown_23 : decode cX11_isKnown 23 = .ok (.ireturn, 1) := by decide +kernel
theorem dX11_known_0 : decode cX11_known 0 = .ok (.aload_n 0, 1) := by decide +kernel
theorem dX11_known_1 : decode cX11_known 1 = .ok (.invokevirtual 260, 3) := by decide +kernel
theorem dX11_known_4 : decode cX11_known 4 = .ok (.aload_n 0, 1) := by decide +kernel
theorem dX11_known_5 : decode cX11_known 5 = .ok (.invokevirtual 256, 3) := by decide +kernel
theorem dX11_known_8 : decode cX11_known 8 = .ok (.ireturn, 1) := by decide +kernel
theorem dX11_learnt_0 : decode cX11_learnt 0 = .ok (.aload_n 0, 1) := by decide +kernel
theorem dX11_learnt_1 : decode cX11_learnt 1 = .ok (.iload_n 1, 1) := by decide +kernel
theorem dX11_learnt_2 : decode cX11_learnt 2 = .ok (.invokevirtual 126, 3) := by decide +kernel
theorem dX11_learnt_5 : decode cX11_learnt 5 = .ok (.aload_n 0, 1) := by decide +kernel
theorem dX11_learnt_6 : decode cX11_learnt 6 = .ok (.invokevirtual 260, 3) := by decide +kernel
theorem dX11_learnt_9 : decode cX11_learnt 9 = .ok (.aload_n 0, 1) := by decide +kernel
theorem dX11_learnt_10 : decode cX11_learnt 10 = .ok (.getfield 41, 3) := by decide +kernel
theorem dX11_learnt_13 : decode cX11_learnt 13 = .ok (.invokevirtual 338, 3) := by decide +kernel
theorem dX11_learnt_16 : decode cX11_learnt 16 = .ok (.iload_n 1, 1) := by decide +kernel
theorem dX11_learnt_17 : decode cX11_learnt 17 = .ok (.invokevirtual 366, 3) := by decide +kernel
theorem dX11_learnt_20 : decode cX11_learnt 20 = .ok (.istore_n 2, 1) := by decide +kernel
theorem dX11_learnt_21 : decode cX11_learnt 21 = .ok (.iload_n 2, 1) := by decide +kernel
theorem dX11_learnt_22 : decode cX11_learnt 22 = .ok (.iconst (-1), 1) := by decide +kernel
theorem dX11_learnt_23 : decode cX11_learnt 23 = .ok (.if_icmp .ne 14, 3) := by decide +kernel
theorem dX11_learnt_26 : decode cX11_learnt 26 = .ok (.new 320, 3) := by decide +kernel
theorem dX11_learnt_29 : decode cX11_learnt 29 = .ok (.dup, 1) := by decide +kernel
theorem dX11_learnt_30 : decode cX11_learnt 30 = .ok (.ldc_w 369, 3) := by decide +kernel
theorem dX11_learnt_33 : decode cX11_learnt 33 = .ok (.invokespecial 324, 3) := by decide +kernel
theorem dX11_learnt_36 : decode cX11_learnt 36 = .ok (.athrow, 1) := by decide +kernel
theorem dX11_learnt_37 : decode cX11_learnt 37 = .ok (.iload_n 2, 1) := by decide +kernel
theorem dX11_learnt_38 : decode cX11_learnt 38 = .ok (.ireturn, 1) := by decide +kernel
theorem dX11_postings_0 : decode cX11_postings 0 = .ok (.aload_n 0, 1) := by decide +kernel
theorem dX11_postings_1 : decode cX11_postings 1 = .ok (.iload_n 1, 1) := by decide +kernel
theorem dX11_postings_2 : decode cX11_postings 2 = .ok (.invokevirtual 126, 3) := by decide +kernel
theorem dX11_postings_5 : decode cX11_postings 5 = .ok (.aload_n 0, 1) := by decide +kernel
theorem dX11_postings_6 : decode cX11_postings 6 = .ok (.getfield 41, 3) := by decide +kernel
theorem dX11_postings_9 : decode cX11_postings 9 = .ok (.getfield 371, 3) := by decide +kernel
theorem dX11_postings_12 : decode cX11_postings 12 = .ok (.iload_n 1, 1) := by decide +kernel
theorem dX11_postings_13 : decode cX11_postings 13 = .ok (.iaload, 1) := by decide +kernel
theorem dX11_postings_14 : decode cX11_postings 14 = .ok (.ireturn, 1) := by decide +kernel
theorem dX11_posting_0 : decode cX11_posting 0 = .ok (.aload_n 0, 1) := by decide +kernel
theorem dX11_posting_1 : decode cX11_posting 1 = .ok (.iload_n 1, 1) := by decide +kernel
theorem dX11_posting_2 : decode cX11_posting 2 = .ok (.invokevirtual 126, 3) := by decide +kernel
theorem dX11_posting_5 : decode cX11_posting 5 = .ok (.aload_n 0, 1) := by decide +kernel
theorem dX11_posting_6 : decode cX11_posting 6 = .ok (.getfield 41, 3) := by decide +kernel
theorem dX11_posting_9 : decode cX11_posting 9 = .ok (.iload_n 1, 1) := by decide +kernel
theorem dX11_posting_10 : decode cX11_posting 10 = .ok (.iload_n 2, 1) := by decide +kernel
theorem dX11_posting_11 : decode cX11_posting 11 = .ok (.invokevirtual 374, 3) := by decide +kernel
theorem dX11_posting_14 : decode cX11_posting 14 = .ok (.istore_n 3, 1) := by decide +kernel
theorem dX11_posting_15 : decode cX11_posting 15 = .ok (.iload_n 3, 1) := by decide +kernel
theorem dX11_posting_16 : decode cX11_posting 16 = .ok (.iconst (-1), 1) := by decide +kernel
theorem dX11_posting_17 : decode cX11_posting 17 = .ok (.if_icmp .ne 14, 3) := by decide +kernel
theorem dX11_posting_20 : decode cX11_posting 20 = .ok (.new 320, 3) := by decide +kernel
theorem dX11_posting_23 : decode cX11_posting 23 = .ok (.dup, 1) := by decide +kernel
theorem dX11_posting_24 : decode cX11_posting 24 = .ok (.ldc_w 378, 3) := by decide +kernel
theorem dX11_posting_27 : decode cX11_posting 27 = .ok (.invokespecial 324, 3) := by decide +kernel
theorem dX11_posting_30 : decode cX11_posting 30 = .ok (.athrow, 1) := by decide +kernel
theorem dX11_posting_31 : decode cX11_posting 31 = .ok (.iload_n 3, 1) := by decide +kernel
theorem dX11_posting_32 : decode cX11_posting 32 = .ok (.ireturn, 1) := by decide +kernel
theorem dX11_rare_0 : decode cX11_rare 0 = .ok (.aload_n 0, 1) := by decide +kernel
theorem dX11_rare_1 : decode cX11_rare 1 = .ok (.invokevirtual 260, 3) := by decide +kernel
theorem dX11_rare_4 : decode cX11_rare 4 = .ok (.aload_n 0, 1) := by decide +kernel
theorem dX11_rare_5 : decode cX11_rare 5 = .ok (.getfield 41, 3) := by decide +kernel
theorem dX11_rare_8 : decode cX11_rare 8 = .ok (.aload_n 0, 1) := by decide +kernel
theorem dX11_rare_9 : decode cX11_rare 9 = .ok (.getfield 41, 3) := by decide +kernel
theorem dX11_rare_12 : decode cX11_rare 12 = .ok (.invokevirtual 338, 3) := by decide +kernel
theorem dX11_rare_15 : decode cX11_rare 15 = .ok (.invokevirtual 363, 3) := by decide +kernel
theorem dX11_rare_18 : decode cX11_rare 18 = .ok (.iload_n 1, 1) := by decide +kernel
theorem dX11_rare_19 : decode cX11_rare 19 = .ok (.invokevirtual 380, 3) := by decide +kernel
theorem dX11_rare_22 : decode cX11_rare 22 = .ok (.istore_n 2, 1) := by decide +kernel
theorem dX11_rare_23 : decode cX11_rare 23 = .ok (.iload_n 2, 1) := by decide +kernel
theorem dX11_rare_24 : decode cX11_rare 24 = .ok (.iconst (-1), 1) := by decide +kernel
theorem dX11_rare_25 : decode cX11_rare 25 = .ok (.if_icmp .ne 14, 3) := by decide +kernel
theorem dX11_rare_28 : decode cX11_rare 28 = .ok (.new 320, 3) := by decide +kernel
theorem dX11_rare_31 : decode cX11_rare 31 = .ok (.dup, 1) := by decide +kernel
theorem dX11_rare_32 : decode cX11_rare 32 = .ok (.ldc_w 384, 3) := by decide +kernel
theorem dX11_rare_35 : decode cX11_rare 35 = .ok (.invokespecial 324, 3) := by decide +kernel
theorem dX11_rare_38 : decode cX11_rare 38 = .ok (.athrow, 1) := by decide +kernel
theorem dX11_rare_39 : decode cX11_rare 39 = .ok (.iload_n 2, 1) := by decide +kernel
theorem dX11_rare_40 : decode cX11_rare 40 = .ok (.ireturn, 1) := by decide +kernel
theorem dX11_price_0 : decode cX11_price 0 = .ok (.aload_n 0, 1) := by decide +kernel
theorem dX11_price_1 : decode cX11_price 1 = .ok (.iload_n 1, 1) := by decide +kernel
theorem dX11_price_2 : decode cX11_price 2 = .ok (.invokevirtual 214, 3) := by decide +kernel
theorem dX11_price_5 : decode cX11_price 5 = .ok (.aload_n 0, 1) := by decide +kernel
theorem dX11_price_6 : decode cX11_price 6 = .ok (.invokevirtual 260, 3) := by decide +kernel
theorem dX11_price_9 : decode cX11_price 9 = .ok (.aload_n 0, 1) := by decide +kernel
theorem dX11_price_10 : decode cX11_price 10 = .ok (.iload_n 1, 1) := by decide +kernel
theorem dX11_price_11 : decode cX11_price 11 = .ok (.invokevirtual 386, 3) := by decide +kernel
theorem dX11_price_14 : decode cX11_price 14 = .ok (.aload_n 0, 1) := by decide +kernel
theorem dX11_price_15 : decode cX11_price 15 = .ok (.getfield 48, 3) := by decide +kernel
theorem dX11_price_18 : decode cX11_price 18 = .ok (.iload_n 1, 1) := by decide +kernel
theorem dX11_price_19 : decode cX11_price 19 = .ok (.aload_n 0, 1) := by decide +kernel
theorem dX11_price_20 : decode cX11_price 20 = .ok (.getfield 41, 3) := by decide +kernel
theorem dX11_price_23 : decode cX11_price 23 = .ok (.invokevirtual 338, 3) := by decide +kernel
theorem dX11_price_26 : decode cX11_price 26 = .ok (.aload_n 0, 1) := by decide +kernel
theorem dX11_price_27 : decode cX11_price 27 = .ok (.getfield 41, 3) := by decide +kernel
theorem dX11_price_30 : decode cX11_price 30 = .ok (.invokevirtual 389, 3) := by decide +kernel
theorem dX11_price_33 : decode cX11_price 33 = .ok (.ireturn, 1) := by decide +kernel
theorem dX11_buy_0 : decode cX11_buy 0 = .ok (.aload_n 0, 1) := by decide +kernel
theorem dX11_buy_1 : decode cX11_buy 1 = .ok (.iload_n 1, 1) := by decide +kernel
theorem dX11_buy_2 : decode cX11_buy 2 = .ok (.invokevirtual 214, 3) := by decide +kernel
theorem dX11_buy_5 : decode cX11_buy 5 = .ok (.aload_n 0, 1) := by decide +kernel
theorem dX11_buy_6 : decode cX11_buy 6 = .ok (.invokevirtual 260, 3) := by decide +kernel
theorem dX11_buy_9 : decode cX11_buy 9 = .ok (.aload_n 0, 1) := by decide +kernel
theorem dX11_buy_10 : decode cX11_buy 10 = .ok (.getfield 41, 3) := by decide +kernel
theorem dX11_buy_13 : decode cX11_buy 13 = .ok (.invokevirtual 393, 3) := by decide +kernel
theorem dX11_buy_16 : decode cX11_buy 16 = .ok (.ifCond .eq 14, 3) := by decide +kernel
theorem dX11_buy_19 : decode cX11_buy 19 = .ok (.new 77, 3) := by decide +kernel
theorem dX11_buy_22 : decode cX11_buy 22 = .ok (.dup, 1) := by decide +kernel
theorem dX11_buy_23 : decode cX11_buy 23 = .ok (.ldc_w 397, 3) := by decide +kernel
theorem dX11_buy_26 : decode cX11_buy 26 = .ok (.invokespecial 81, 3) := by decide +kernel
theorem dX11_buy_29 : decode cX11_buy 29 = .ok (.athrow, 1) := by decide +kernel
theorem dX11_buy_30 : decode cX11_buy 30 = .ok (.aload_n 0, 1) := by decide +kernel
theorem dX11_buy_31 : decode cX11_buy 31 = .ok (.iload_n 1, 1) := by decide +kernel
theorem dX11_buy_32 : decode cX11_buy 32 = .ok (.invokevirtual 386, 3) := by decide +kernel
theorem dX11_buy_35 : decode cX11_buy 35 = .ok (.aload_n 0, 1) := by decide +kernel
theorem dX11_buy_36 : decode cX11_buy 36 = .ok (.getfield 48, 3) := by decide +kernel
theorem dX11_buy_39 : decode cX11_buy 39 = .ok (.getfield 217, 3) := by decide +kernel
theorem dX11_buy_42 : decode cX11_buy 42 = .ok (.iload_n 1, 1) := by decide +kernel
theorem dX11_buy_43 : decode cX11_buy 43 = .ok (.laload, 1) := by decide +kernel
theorem dX11_buy_44 : decode cX11_buy 44 = .ok (.aload_n 0, 1) := by decide +kernel
theorem dX11_buy_45 : decode cX11_buy 45 = .ok (.getfield 41, 3) := by decide +kernel
theorem dX11_buy_48 : decode cX11_buy 48 = .ok (.invokevirtual 338, 3) := by decide +kernel
theorem dX11_buy_51 : decode cX11_buy 51 = .ok (.invokevirtual 363, 3) := by decide +kernel
theorem dX11_buy_54 : decode cX11_buy 54 = .ok (.ldc2_w 399, 3) := by decide +kernel
theorem dX11_buy_57 : decode cX11_buy 57 = .ok (.lxor, 1) := by decide +kernel
theorem dX11_buy_58 : decode cX11_buy 58 = .ok (.land, 1) := by decide +kernel
theorem dX11_buy_59 : decode cX11_buy 59 = .ok (.lconst 0, 1) := by decide +kernel
theorem dX11_buy_60 : decode cX11_buy 60 = .ok (.lcmp, 1) := by decide +kernel
theorem dX11_buy_61 : decode cX11_buy 61 = .ok (.ifCond .ne 14, 3) := by decide +kernel
theorem dX11_buy_64 : decode cX11_buy 64 = .ok (.new 96, 3) := by decide +kernel
theorem dX11_buy_67 : decode cX11_buy 67 = .ok (.dup, 1) := by decide +kernel
theorem dX11_buy_68 : decode cX11_buy 68 = .ok (.ldc_w 401, 3) := by decide +kernel
theorem dX11_buy_71 : decode cX11_buy 71 = .ok (.invokespecial 100, 3) := by decide +kernel
theorem dX11_buy_74 : decode cX11_buy 74 = .ok (.athrow, 1) := by decide +kernel
theorem dX11_buy_75 : decode cX11_buy 75 = .ok (.aload_n 0, 1) := by decide +kernel
theorem dX11_buy_76 : decode cX11_buy 76 = .ok (.getfield 48, 3) := by decide +kernel
theorem dX11_buy_79 : decode cX11_buy 79 = .ok (.iload_n 1, 1) := by decide +kernel
theorem dX11_buy_80 : decode cX11_buy 80 = .ok (.aload_n 0, 1) := by decide +kernel
theorem dX11_buy_81 : decode cX11_buy 81 = .ok (.getfield 41, 3) := by decide +kernel
theorem dX11_buy_84 : decode cX11_buy 84 = .ok (.invokevirtual 338, 3) := by decide +kernel
theorem dX11_buy_87 : decode cX11_buy 87 = .ok (.aload_n 0, 1) := by decide +kernel
theorem dX11_buy_88 : decode cX11_buy 88 = .ok (.getfield 41, 3) := by decide +kernel
theorem dX11_buy_91 : decode cX11_buy 91 = .ok (.invokevirtual 389, 3) := by decide +kernel
theorem dX11_buy_94 : decode cX11_buy 94 = .ok (.istore_n 2, 1) := by decide +kernel
theorem dX11_buy_95 : decode cX11_buy 95 = .ok (.iload_n 2, 1) := by decide +kernel
theorem dX11_buy_96 : decode cX11_buy 96 = .ok (.aload_n 0, 1) := by decide +kernel
theorem dX11_buy_97 : decode cX11_buy 97 = .ok (.getfield 48, 3) := by decide +kernel
theorem dX11_buy_100 : decode cX11_buy 100 = .ok (.getfield 403, 3) := by decide +kernel
theorem dX11_buy_103 : decode cX11_buy 103 = .ok (.if_icmp .le 14, 3) := by decide +kernel
theorem dX11_buy_106 : decode cX11_buy 106 = .ok (.new 320, 3) := by decide +kernel
theorem dX11_buy_109 : decode cX11_buy 109 = .ok (.dup, 1) := by decide +kernel
theorem dX11_buy_110 : decode cX11_buy 110 = .ok (.ldc_w 406, 3) := by decide +kernel
theorem dX11_buy_113 : decode cX11_buy 113 = .ok (.invokespecial 324, 3) := by decide +kernel
theorem dX11_buy_116 : decode cX11_buy 116 = .ok (.athrow, 1) := by decide +kernel
theorem dX11_buy_117 : decode cX11_buy 117 = .ok (.aload_n 0, 1) := by decide +kernel
theorem dX11_buy_118 : decode cX11_buy 118 = .ok (.getfield 55, 3) := by decide +kernel
theorem dX11_buy_121 : decode cX11_buy 121 = .ok (.aload_n 0, 1) := by decide +kernel
theorem dX11_buy_122 : decode cX11_buy 122 = .ok (.getfield 41, 3) := by decide +kernel
theorem dX11_buy_125 : decode cX11_buy 125 = .ok (.invokevirtual 338, 3) := by decide +kernel
theorem dX11_buy_128 : decode cX11_buy 128 = .ok (.getfield 408, 3) := by decide +kernel
theorem dX11_buy_131 : decode cX11_buy 131 = .ok (.invokevirtual 411, 3) := by decide +kernel
theorem dX11_buy_134 : decode cX11_buy 134 = .ok (.aload_n 0, 1) := by decide +kernel
theorem dX11_buy_135 : decode cX11_buy 135 = .ok (.new 238, 3) := by decide +kernel
theorem dX11_buy_138 : decode cX11_buy 138 = .ok (.dup, 1) := by decide +kernel
theorem dX11_buy_139 : decode cX11_buy 139 = .ok (.getstatic 415, 3) := by decide +kernel
theorem dX11_buy_142 : decode cX11_buy 142 = .ok (.iload_n 1, 1) := by decide +kernel
theorem dX11_buy_143 : decode cX11_buy 143 = .ok (.iconst (-1), 1) := by decide +kernel
theorem dX11_buy_144 : decode cX11_buy 144 = .ok (.invokespecial 246, 3) := by decide +kernel
theorem dX11_buy_147 : decode cX11_buy 147 = .ok (.invokevirtual 275, 3) := by decide +kernel
theorem dX11_buy_150 : decode cX11_buy 150 = .ok (.aload_n 0, 1) := by decide +kernel
theorem dX11_buy_151 : decode cX11_buy 151 = .ok (.getfield 48, 3) := by decide +kernel
theorem dX11_buy_154 : decode cX11_buy 154 = .ok (.dup, 1) := by decide +kernel
theorem dX11_buy_155 : decode cX11_buy 155 = .ok (.getfield 403, 3) := by decide +kernel
theorem dX11_buy_158 : decode cX11_buy 158 = .ok (.iload_n 2, 1) := by decide +kernel
theorem dX11_buy_159 : decode cX11_buy 159 = .ok (.isub, 1) := by decide +kernel
theorem dX11_buy_160 : decode cX11_buy 160 = .ok (.putfield 403, 3) := by decide +kernel
theorem dX11_buy_163 : decode cX11_buy 163 = .ok (.aload_n 0, 1) := by decide +kernel
theorem dX11_buy_164 : decode cX11_buy 164 = .ok (.getfield 48, 3) := by decide +kernel
theorem dX11_buy_167 : decode cX11_buy 167 = .ok (.getfield 418, 3) := by decide +kernel
theorem dX11_buy_170 : decode cX11_buy 170 = .ok (.new 421, 3) := by decide +kernel
theorem dX11_buy_173 : decode cX11_buy 173 = .ok (.dup, 1) := by decide +kernel
theorem dX11_buy_174 : decode cX11_buy 174 = .ok (.iload_n 1, 1) := by decide +kernel
theorem dX11_buy_175 : decode cX11_buy 175 = .ok (.aload_n 0, 1) := by decide +kernel
theorem dX11_buy_176 : decode cX11_buy 176 = .ok (.getfield 41, 3) := by decide +kernel
theorem dX11_buy_179 : decode cX11_buy 179 = .ok (.invokevirtual 338, 3) := by decide +kernel
theorem dX11_buy_182 : decode cX11_buy 182 = .ok (.iload_n 2, 1) := by decide +kernel
theorem dX11_buy_183 : decode cX11_buy 183 = .ok (.invokespecial 423, 3) := by decide +kernel
theorem dX11_buy_186 : decode cX11_buy 186 = .ok (.invokevirtual 426, 3) := by decide +kernel
theorem dX11_buy_189 : decode cX11_buy 189 = .ok (.pop, 1) := by decide +kernel
theorem dX11_buy_190 : decode cX11_buy 190 = .ok (.aload_n 0, 1) := by decide +kernel
theorem dX11_buy_191 : decode cX11_buy 191 = .ok (.getfield 41, 3) := by decide +kernel
theorem dX11_buy_194 : decode cX11_buy 194 = .ok (.getfield 300, 3) := by decide +kernel
theorem dX11_buy_197 : decode cX11_buy 197 = .ok (.ireturn, 1) := by decide +kernel
theorem dX11_isOwned_0 : decode cX11_isOwned 0 = .ok (.aload_n 0, 1) := by decide +kernel
theorem dX11_isOwned_1 : decode cX11_isOwned 1 = .ok (.iload_n 1, 1) := by decide +kernel
theorem dX11_isOwned_2 : decode cX11_isOwned 2 = .ok (.invokevirtual 214, 3) := by decide +kernel
theorem dX11_isOwned_5 : decode cX11_isOwned 5 = .ok (.aload_n 0, 1) := by decide +kernel
theorem dX11_isOwned_6 : decode cX11_isOwned 6 = .ok (.invokevirtual 260, 3) := by decide +kernel
theorem dX11_isOwned_9 : decode cX11_isOwned 9 = .ok (.aload_n 0, 1) := by decide +kernel
theorem dX11_isOwned_10 : decode cX11_isOwned 10 = .ok (.getfield 48, 3) := by decide +kernel
theorem dX11_isOwned_13 : decode cX11_isOwned 13 = .ok (.iload_n 1, 1) := by decide +kernel
theorem dX11_isOwned_14 : decode cX11_isOwned 14 = .ok (.aload_n 0, 1) := by decide +kernel
theorem dX11_isOwned_15 : decode cX11_isOwned 15 = .ok (.getfield 41, 3) := by decide +kernel
theorem dX11_isOwned_18 : decode cX11_isOwned 18 = .ok (.invokevirtual 338, 3) := by decide +kernel
theorem dX11_isOwned_21 : decode cX11_isOwned 21 = .ok (.invokevirtual 429, 3) := by decide +kernel
theorem dX11_isOwned_24 : decode cX11_isOwned 24 = .ok (.ireturn, 1) := by decide +kernel
theorem dX11_read_0 : decode cX11_read 0 = .ok (.aload_n 0, 1) := by decide +kernel
theorem dX11_read_1 : decode cX11_read 1 = .ok (.iload_n 1, 1) := by decide +kernel
theorem dX11_read_2 : decode cX11_read 2 = .ok (.invokevirtual 214, 3) := by decide +kernel
theorem dX11_read_5 : decode cX11_read 5 = .ok (.aload_n 0, 1) := by decide +kernel
theorem dX11_read_6 : decode cX11_read 6 = .ok (.invokevirtual 260, 3) := by decide +kernel
theorem dX11_read_9 : decode cX11_read 9 = .ok (.new 238, 3) := by decide +kernel
theorem dX11_read_12 : decode cX11_read 12 = .ok (.dup, 1) := by decide +kernel
theorem dX11_read_13 : decode cX11_read 13 = .ok (.getstatic 433, 3) := by decide +kernel
theorem dX11_read_16 : decode cX11_read 16 = .ok (.iload_n 1, 1) := by decide +kernel
theorem dX11_read_17 : decode cX11_read 17 = .ok (.iconst (-1), 1) := by decide +kernel
theorem dX11_read_18 : decode cX11_read 18 = .ok (.invokespecial 246, 3) := by decide +kernel
theorem dX11_read_21 : decode cX11_read 21 = .ok (.astore_n 2, 1) := by decide +kernel
theorem dX11_read_22 : decode cX11_read 22 = .ok (.aload_n 0, 1) := by decide +kernel
theorem dX11_read_23 : decode cX11_read 23 = .ok (.aload_n 2, 1) := by decide +kernel
theorem dX11_read_24 : decode cX11_read 24 = .ok (.invokevirtual 271, 3) := by decide +kernel
theorem dX11_read_27 : decode cX11_read 27 = .ok (.aload_n 0, 1) := by decide +kernel
theorem dX11_read_28 : decode cX11_read 28 = .ok (.getfield 48, 3) := by decide +kernel
theorem dX11_read_31 : decode cX11_read 31 = .ok (.iload_n 1, 1) := by decide +kernel
theorem dX11_read_32 : decode cX11_read 32 = .ok (.aload_n 0, 1) := by decide +kernel
theorem dX11_read_33 : decode cX11_read 33 = .ok (.getfield 41, 3) := by decide +kernel
theorem dX11_read_36 : decode cX11_read 36 = .ok (.invokevirtual 338, 3) := by decide +kernel
theorem dX11_read_39 : decode cX11_read 39 = .ok (.invokevirtual 429, 3) := by decide +kernel
theorem dX11_read_42 : decode cX11_read 42 = .ok (.ifCond .ne 14, 3) := by decide +kernel
theorem dX11_read_45 : decode cX11_read 45 = .ok (.new 96, 3) := by decide +kernel
theorem dX11_read_48 : decode cX11_read 48 = .ok (.dup, 1) := by decide +kernel
theorem dX11_read_49 : decode cX11_read 49 = .ok (.ldc_w 436, 3) := by decide +kernel
theorem dX11_read_52 : decode cX11_read 52 = .ok (.invokespecial 100, 3) := by decide +kernel
theorem dX11_read_55 : decode cX11_read 55 = .ok (.athrow, 1) := by decide +kernel
theorem dX11_read_56 : decode cX11_read 56 = .ok (.aload_n 0, 1) := by decide +kernel
theorem dX11_read_57 : decode cX11_read 57 = .ok (.getfield 55, 3) := by decide +kernel
theorem dX11_read_60 : decode cX11_read 60 = .ok (.aload_n 0, 1) := by decide +kernel
theorem dX11_read_61 : decode cX11_read 61 = .ok (.getfield 41, 3) := by decide +kernel
theorem dX11_read_64 : decode cX11_read 64 = .ok (.invokevirtual 338, 3) := by decide +kernel
theorem dX11_read_67 : decode cX11_read 67 = .ok (.getfield 408, 3) := by decide +kernel
theorem dX11_read_70 : decode cX11_read 70 = .ok (.invokevirtual 411, 3) := by decide +kernel
theorem dX11_read_73 : decode cX11_read 73 = .ok (.aload_n 0, 1) := by decide +kernel
theorem dX11_read_74 : decode cX11_read 74 = .ok (.aload_n 2, 1) := by decide +kernel
theorem dX11_read_75 : decode cX11_read 75 = .ok (.invokevirtual 275, 3) := by decide +kernel
theorem dX11_read_78 : decode cX11_read 78 = .ok (.aload_n 0, 1) := by decide +kernel
theorem dX11_read_79 : decode cX11_read 79 = .ok (.getfield 41, 3) := by decide +kernel
theorem dX11_read_82 : decode cX11_read 82 = .ok (.getfield 300, 3) := by decide +kernel
theorem dX11_read_85 : decode cX11_read 85 = .ok (.ireturn, 1) := by decide +kernel
theorem dX11_coins_0 : decode cX11_coins 0 = .ok (.aload_n 0, 1) := by decide +kernel
theorem dX11_coins_1 : decode cX11_coins 1 = .ok (.getfield 48, 3) := by decide +kernel
theorem dX11_coins_4 : decode cX11_coins 4 = .ok (.getfield 403, 3) := by decide +kernel
theorem dX11_coins_7 : decode cX11_coins 7 = .ok (.ireturn, 1) := by decide +kernel
theorem dX11_earn_0 : decode cX11_earn 0 = .ok (.iload_n 1, 1) := by decide +kernel
theorem dX11_earn_1 : decode cX11_earn 1 = .ok (.iconst 1, 1) := by decide +kernel
theorem dX11_earn_2 : decode cX11_earn 2 = .ok (.if_icmp .lt 9, 3) := by decide +kernel
theorem dX11_earn_5 : decode cX11_earn 5 = .ok (.iload_n 1, 1) := by decide +kernel
theorem dX11_earn_6 : decode cX11_earn 6 = .ok (.bipush 99, 2) := by decide +kernel
theorem dX11_earn_8 : decode cX11_earn 8 = .ok (.if_icmp .le 14, 3) := by decide +kernel
theorem dX11_earn_11 : decode cX11_earn 11 = .ok (.new 66, 3) := by decide +kernel
theorem dX11_earn_14 : decode cX11_earn 14 = .ok (.dup, 1) := by decide +kernel
theorem dX11_earn_15 : decode cX11_earn 15 = .ok (.ldc_w 438, 3) := by decide +kernel
theorem dX11_earn_18 : decode cX11_earn 18 = .ok (.invokespecial 70, 3) := by decide +kernel
theorem dX11_earn_21 : decode cX11_earn 21 = .ok (.athrow, 1) := by decide +kernel
theorem dX11_earn_22 : decode cX11_earn 22 = .ok (.aload_n 0, 1) := by decide +kernel
theorem dX11_earn_23 : decode cX11_earn 23 = .ok (.getfield 48, 3) := by decide +kernel
theorem dX11_earn_26 : decode cX11_earn 26 = .ok (.dup, 1) := by decide +kernel
theorem dX11_earn_27 : decode cX11_earn 27 = .ok (.getfield 403, 3) := by decide +kernel
theorem dX11_earn_30 : decode cX11_earn 30 = .ok (.iload_n 1, 1) := by decide +kernel
theorem dX11_earn_31 : decode cX11_earn 31 = .ok (.iadd, 1) := by decide +kernel
theorem dX11_earn_32 : decode cX11_earn 32 = .ok (.putfield 403, 3) := by decide +kernel
theorem dX11_earn_35 : decode cX11_earn 35 = .ok (.aload_n 0, 1) := by decide +kernel
theorem dX11_earn_36 : decode cX11_earn 36 = .ok (.getfield 48, 3) := by decide +kernel
theorem dX11_earn_39 : decode cX11_earn 39 = .ok (.dup, 1) := by decide +kernel
theorem dX11_earn_40 : decode cX11_earn 40 = .ok (.getfield 440, 3) := by decide +kernel
theorem dX11_earn_43 : decode cX11_earn 43 = .ok (.iload_n 1, 1) := by decide +kernel
theorem dX11_earn_44 : decode cX11_earn 44 = .ok (.iadd, 1) := by decide +kernel
theorem dX11_earn_45 : decode cX11_earn 45 = .ok (.putfield 440, 3) := by decide +kernel
theorem dX11_earn_48 : decode cX11_earn 48 = .ok (.aload_n 0, 1) := by decide +kernel
theorem dX11_earn_49 : decode cX11_earn 49 = .ok (.getfield 48, 3) := by decide +kernel
theorem dX11_earn_52 : decode cX11_earn 52 = .ok (.getfield 403, 3) := by decide +kernel
theorem dX11_earn_55 : decode cX11_earn 55 = .ok (.ireturn, 1) := by decide +kernel
theorem dX11_sales_0 : decode cX11_sales 0 = .ok (.aload_n 0, 1) := by decide +kernel
theorem dX11_sales_1 : decode cX11_sales 1 = .ok (.getfield 48, 3) := by decide +kernel
theorem dX11_sales_4 : decode cX11_sales 4 = .ok (.getfield 418, 3) := by decide +kernel
theorem dX11_sales_7 : decode cX11_sales 7 = .ok (.invokevirtual 307, 3) := by decide +kernel
theorem dX11_sales_10 : decode cX11_sales 10 = .ok (.ireturn, 1) := by decide +kernel
theorem dX11_sale_0 : decode cX11_sale 0 = .ok (.iload_n 1, 1) := by decide +kernel
theorem dX11_sale_1 : decode cX11_sale 1 = .ok (.ifCond .lt 17, 3) := by decide +kernel
theorem dX11_sale_4 : decode cX11_sale 4 = .ok (.iload_n 1, 1) := by decide +kernel
theorem dX11_sale_5 : decode cX11_sale 5 = .ok (.aload_n 0, 1) := by decide +kernel
theorem dX11_sale_6 : decode cX11_sale 6 = .ok (.getfield 48, 3) := by decide +kernel
theorem dX11_sale_9 : decode cX11_sale 9 = .ok (.getfield 418, 3) := by decide +kernel
theorem dX11_sale_12 : decode cX11_sale 12 = .ok (.invokevirtual 307, 3) := by decide +kernel
theorem dX11_sale_15 : decode cX11_sale 15 = .ok (.if_icmp .lt 14, 3) := by decide +kernel
theorem dX11_sale_18 : decode cX11_sale 18 = .ok (.new 443, 3) := by decide +kernel
theorem dX11_sale_21 : decode cX11_sale 21 = .ok (.dup, 1) := by decide +kernel
theorem dX11_sale_22 : decode cX11_sale 22 = .ok (.ldc_w 445, 3) := by decide +kernel
theorem dX11_sale_25 : decode cX11_sale 25 = .ok (.invokespecial 447, 3) := by decide +kernel
theorem dX11_sale_28 : decode cX11_sale 28 = .ok (.athrow, 1) := by decide +kernel
theorem dX11_sale_29 : decode cX11_sale 29 = .ok (.aload_n 0, 1) := by decide +kernel
theorem dX11_sale_30 : decode cX11_sale 30 = .ok (.getfield 48, 3) := by decide +kernel
theorem dX11_sale_33 : decode cX11_sale 33 = .ok (.getfield 418, 3) := by decide +kernel
theorem dX11_sale_36 : decode cX11_sale 36 = .ok (.iload_n 1, 1) := by decide +kernel
theorem dX11_sale_37 : decode cX11_sale 37 = .ok (.invokevirtual 448, 3) := by decide +kernel
theorem dX11_sale_40 : decode cX11_sale 40 = .ok (.checkcast 421, 3) := by decide +kernel
theorem dX11_sale_43 : decode cX11_sale 43 = .ok (.astore_n 3, 1) := by decide +kernel
theorem dX11_sale_44 : decode cX11_sale 44 = .ok (.iload_n 2, 1) := by decide +kernel
theorem dX11_sale_45 : decode cX11_sale 45 = .ok (.lookupswitch 53 #[(99, 48), (104, 35), (110, 40)], 35) := by decide +kernel
theorem dX11_sale_80 : decode cX11_sale 80 = .ok (.aload_n 3, 1) := by decide +kernel
theorem dX11_sale_81 : decode cX11_sale 81 = .ok (.getfield 452, 3) := by decide +kernel
theorem dX11_sale_84 : decode cX11_sale 84 = .ok (.ireturn, 1) := by decide +kernel
theorem dX11_sale_85 : decode cX11_sale 85 = .ok (.aload_n 3, 1) := by decide +kernel
theorem dX11_sale_86 : decode cX11_sale 86 = .ok (.getfield 455, 3) := by decide +kernel
theorem dX11_sale_89 : decode cX11_sale 89 = .ok (.getfield 325, 3) := by decide +kernel
theorem dX11_sale_92 : decode cX11_sale 92 = .ok (.ireturn, 1) := by decide +kernel
theorem dX11_sale_93 : decode cX11_sale 93 = .ok (.aload_n 3, 1) := by decide +kernel
theorem dX11_sale_94 : decode cX11_sale 94 = .ok (.getfield 458, 3) := by decide +kernel
theorem dX11_sale_97 : decode cX11_sale 97 = .ok (.ireturn, 1) := by decide +kernel
theorem dX11_sale_98 : decode cX11_sale 98 = .ok (.new 66, 3) := by decide +kernel
theorem dX11_sale_101 : decode cX11_sale 101 = .ok (.dup, 1) := by decide +kernel
theorem dX11_sale_102 : decode cX11_sale 102 = .ok (.ldc_w 461, 3) := by decide +kernel
theorem dX11_sale_105 : decode cX11_sale 105 = .ok (.invokespecial 70, 3) := by decide +kernel
theorem dX11_sale_108 : decode cX11_sale 108 = .ok (.athrow, 1) := by decide +kernel
theorem dX11_merge_0 : decode cX11_merge 0 = .ok (.aload_n 0, 1) := by decide +kernel
theorem dX11_merge_1 : decode cX11_merge 1 = .ok (.iload_n 1, 1) := by decide +kernel
theorem dX11_merge_2 : decode cX11_merge 2 = .ok (.invokevirtual 312, 3) := by decide +kernel
theorem dX11_merge_5 : decode cX11_merge 5 = .ok (.astore_n 2, 1) := by decide +kernel
theorem dX11_merge_6 : decode cX11_merge 6 = .ok (.aload_n 0, 1) := by decide +kernel
theorem dX11_merge_7 : decode cX11_merge 7 = .ok (.invokevirtual 260, 3) := by decide +kernel
theorem dX11_merge_10 : decode cX11_merge 10 = .ok (.aload_n 0, 1) := by decide +kernel
theorem dX11_merge_11 : decode cX11_merge 11 = .ok (.getfield 55, 3) := by decide +kernel
theorem dX11_merge_14 : decode cX11_merge 14 = .ok (.aload_n 0, 1) := by decide +kernel
theorem dX11_merge_15 : decode cX11_merge 15 = .ok (.getfield 41, 3) := by decide +kernel
theorem dX11_merge_18 : decode cX11_merge 18 = .ok (.invokevirtual 338, 3) := by decide +kernel
theorem dX11_merge_21 : decode cX11_merge 21 = .ok (.getfield 408, 3) := by decide +kernel
theorem dX11_merge_24 : decode cX11_merge 24 = .ok (.invokevirtual 411, 3) := by decide +kernel
theorem dX11_merge_27 : decode cX11_merge 27 = .ok (.aload_n 0, 1) := by decide +kernel
theorem dX11_merge_28 : decode cX11_merge 28 = .ok (.getfield 34, 3) := by decide +kernel
theorem dX11_merge_31 : decode cX11_merge 31 = .ok (.aload_n 0, 1) := by decide +kernel
theorem dX11_merge_32 : decode cX11_merge 32 = .ok (.getfield 55, 3) := by decide +kernel
theorem dX11_merge_35 : decode cX11_merge 35 = .ok (.aload_n 2, 1) := by decide +kernel
theorem dX11_merge_36 : decode cX11_merge 36 = .ok (.getfield 408, 3) := by decide +kernel
theorem dX11_merge_39 : decode cX11_merge 39 = .ok (.invokevirtual 463, 3) := by decide +kernel
theorem dX11_merge_42 : decode cX11_merge 42 = .ok (.istore_n 3, 1) := by decide +kernel
theorem dX11_merge_43 : decode cX11_merge 43 = .ok (.iload_n 3, 1) := by decide +kernel
theorem dX11_merge_44 : decode cX11_merge 44 = .ok (.ifCond .ne 14, 3) := by decide +kernel
theorem dX11_merge_47 : decode cX11_merge 47 = .ok (.new 96, 3) := by decide +kernel
theorem dX11_merge_50 : decode cX11_merge 50 = .ok (.dup, 1) := by decide +kernel
theorem dX11_merge_51 : decode cX11_merge 51 = .ok (.ldc_w 467, 3) := by decide +kernel
theorem dX11_merge_54 : decode cX11_merge 54 = .ok (.invokespecial 100, 3) := by decide +kernel
theorem dX11_merge_57 : decode cX11_merge 57 = .ok (.athrow, 1) := by decide +kernel
theorem dX11_merge_58 : decode cX11_merge 58 = .ok (.new 238, 3) := by decide +kernel
theorem dX11_merge_61 : decode cX11_merge 61 = .ok (.dup, 1) := by decide +kernel
theorem dX11_merge_62 : decode cX11_merge 62 = .ok (.getstatic 469, 3) := by decide +kernel
theorem dX11_merge_65 : decode cX11_merge 65 = .ok (.iload_n 1, 1) := by decide +kernel
theorem dX11_merge_66 : decode cX11_merge 66 = .ok (.iconst (-1), 1) := by decide +kernel
theorem dX11_merge_67 : decode cX11_merge 67 = .ok (.invokespecial 246, 3) := by decide +kernel
theorem dX11_merge_70 : decode cX11_merge 70 = .ok (.astore 4, 2) := by decide +kernel
theorem dX11_merge_72 : decode cX11_merge 72 = .ok (.aload_n 0, 1) := by decide +kernel
theorem dX11_merge_73 : decode cX11_merge 73 = .ok (.aload 4, 2) := by decide +kernel
theorem dX11_merge_75 : decode cX11_merge 75 = .ok (.invokevirtual 271, 3) := by decide +kernel
theorem dX11_merge_78 : decode cX11_merge 78 = .ok (.aload_n 0, 1) := by decide +kernel
theorem dX11_merge_79 : decode cX11_merge 79 = .ok (.aload 4, 2) := by decide +kernel
theorem dX11_merge_81 : decode cX11_merge 81 = .ok (.invokevirtual 275, 3) := by decide +kernel
theorem dX11_merge_84 : decode cX11_merge 84 = .ok (.iload_n 3, 1) := by decide +kernel
theorem dX11_merge_85 : decode cX11_merge 85 = .ok (.ireturn, 1) := by decide +kernel
theorem dX11_score_0 : decode cX11_score 0 = .ok (.aload_n 0, 1) := by decide +kernel
theorem dX11_score_1 : decode cX11_score 1 = .ok (.getfield 34, 3) := by decide +kernel
theorem dX11_score_4 : decode cX11_score 4 = .ok (.aload_n 0, 1) := by decide +kernel
theorem dX11_score_5 : decode cX11_score 5 = .ok (.invokevirtual 278, 3) := by decide +kernel
theorem dX11_score_8 : decode cX11_score 8 = .ok (.invokevirtual 472, 3) := by decide +kernel
theorem dX11_score_11 : decode cX11_score 11 = .ok (.ireturn, 1) := by decide +kernel
theorem dX11_steps_0 : decode cX11_steps 0 = .ok (.aload_n 0, 1) := by decide +kernel
theorem dX11_steps_1 : decode cX11_steps 1 = .ok (.iload_n 1, 1) := by decide +kernel
theorem dX11_steps_2 : decode cX11_steps 2 = .ok (.invokevirtual 122, 3) := by decide +kernel
theorem dX11_steps_5 : decode cX11_steps 5 = .ok (.aload_n 0, 1) := by decide +kernel
theorem dX11_steps_6 : decode cX11_steps 6 = .ok (.getfield 34, 3) := by decide +kernel
theorem dX11_steps_9 : decode cX11_steps 9 = .ok (.aload_n 0, 1) := by decide +kernel
theorem dX11_steps_10 : decode cX11_steps 10 = .ok (.invokevirtual 278, 3) := by decide +kernel
theorem dX11_steps_13 : decode cX11_steps 13 = .ok (.iload_n 1, 1) := by decide +kernel
theorem dX11_steps_14 : decode cX11_steps 14 = .ok (.invokevirtual 475, 3) := by decide +kernel
theorem dX11_steps_17 : decode cX11_steps 17 = .ok (.istore_n 2, 1) := by decide +kernel
theorem dX11_steps_18 : decode cX11_steps 18 = .ok (.iload_n 2, 1) := by decide +kernel
theorem dX11_steps_19 : decode cX11_steps 19 = .ok (.iconst (-1), 1) := by decide +kernel
theorem dX11_steps_20 : decode cX11_steps 20 = .ok (.if_icmp .ne 14, 3) := by decide +kernel
theorem dX11_steps_23 : decode cX11_steps 23 = .ok (.new 320, 3) := by decide +kernel
theorem dX11_steps_26 : decode cX11_steps 26 = .ok (.dup, 1) := by decide +kernel
theorem dX11_steps_27 : decode cX11_steps 27 = .ok (.ldc_w 479, 3) := by decide +kernel
theorem dX11_steps_30 : decode cX11_steps 30 = .ok (.invokespecial 324, 3) := by decide +kernel
theorem dX11_steps_33 : decode cX11_steps 33 = .ok (.athrow, 1) := by decide +kernel
theorem dX11_steps_34 : decode cX11_steps 34 = .ok (.iload_n 2, 1) := by decide +kernel
theorem dX11_steps_35 : decode cX11_steps 35 = .ok (.ireturn, 1) := by decide +kernel
theorem dX11_line_0 : decode cX11_line 0 = .ok (.aload_n 0, 1) := by decide +kernel
theorem dX11_line_1 : decode cX11_line 1 = .ok (.invokevirtual 260, 3) := by decide +kernel
theorem dX11_line_4 : decode cX11_line 4 = .ok (.aload_n 0, 1) := by decide +kernel
theorem dX11_line_5 : decode cX11_line 5 = .ok (.invokevirtual 481, 3) := by decide +kernel
theorem dX11_line_8 : decode cX11_line 8 = .ok (.aload_n 0, 1) := by decide +kernel
theorem dX11_line_9 : decode cX11_line 9 = .ok (.getfield 62, 3) := by decide +kernel
theorem dX11_line_12 : decode cX11_line 12 = .ok (.invokevirtual 484, 3) := by decide +kernel
theorem dX11_line_15 : decode cX11_line 15 = .ok (.ireturn, 1) := by decide +kernel
theorem dX11_signOf_0 : decode cX11_signOf 0 = .ok (.aload_n 0, 1) := by decide +kernel
theorem dX11_signOf_1 : decode cX11_signOf 1 = .ok (.invokevirtual 260, 3) := by decide +kernel
theorem dX11_signOf_4 : decode cX11_signOf 4 = .ok (.aload_n 0, 1) := by decide +kernel
theorem dX11_signOf_5 : decode cX11_signOf 5 = .ok (.invokevirtual 481, 3) := by decide +kernel
theorem dX11_signOf_8 : decode cX11_signOf 8 = .ok (.iload_n 1, 1) := by decide +kernel
theorem dX11_signOf_9 : decode cX11_signOf 9 = .ok (.ifCond .lt 14, 3) := by decide +kernel
theorem dX11_signOf_12 : decode cX11_signOf 12 = .ok (.iload_n 1, 1) := by decide +kernel
theorem dX11_signOf_13 : decode cX11_signOf 13 = .ok (.aload_n 0, 1) := by decide +kernel
theorem dX11_signOf_14 : decode cX11_signOf 14 = .ok (.getfield 62, 3) := by decide +kernel
theorem dX11_signOf_17 : decode cX11_signOf 17 = .ok (.invokevirtual 484, 3) := by decide +kernel
theorem dX11_signOf_20 : decode cX11_signOf 20 = .ok (.if_icmp .lt 13, 3) := by decide +kernel
theorem dX11_signOf_23 : decode cX11_signOf 23 = .ok (.new 320, 3) := by decide +kernel
theorem dX11_signOf_26 : decode cX11_signOf 26 = .ok (.dup, 1) := by decide +kernel
theorem dX11_signOf_27 : decode cX11_signOf 27 = .ok (.ldc 68, 2) := by decide +kernel
theorem dX11_signOf_29 : decode cX11_signOf 29 = .ok (.invokespecial 324, 3) := by decide +kernel
theorem dX11_signOf_32 : decode cX11_signOf 32 = .ok (.athrow, 1) := by decide +kernel
theorem dX11_signOf_33 : decode cX11_signOf 33 = .ok (.aload_n 0, 1) := by decide +kernel
theorem dX11_signOf_34 : decode cX11_signOf 34 = .ok (.getfield 62, 3) := by decide +kernel
theorem dX11_signOf_37 : decode cX11_signOf 37 = .ok (.iload_n 1, 1) := by decide +kernel
theorem dX11_signOf_38 : decode cX11_signOf 38 = .ok (.invokevirtual 486, 3) := by decide +kernel
theorem dX11_signOf_41 : decode cX11_signOf 41 = .ok (.ireturn, 1) := by decide +kernel
theorem dX11_checksum_0 : decode cX11_checksum 0 = .ok (.aload_n 0, 1) := by decide +kernel
theorem dX11_checksum_1 : decode cX11_checksum 1 = .ok (.invokevirtual 278, 3) := by decide +kernel
theorem dX11_checksum_4 : decode cX11_checksum 4 = .ok (.astore_n 1, 1) := by decide +kernel
theorem dX11_checksum_5 : decode cX11_checksum 5 = .ok (.ldc2_w 490, 3) := by decide +kernel
theorem dX11_checksum_8 : decode cX11_checksum 8 = .ok (.aload_n 1, 1) := by decide +kernel
theorem dX11_checksum_9 : decode cX11_checksum 9 = .ok (.getfield 282, 3) := by decide +kernel
theorem dX11_checksum_12 : decode cX11_checksum 12 = .ok (.i2l, 1) := by decide +kernel
theorem dX11_checksum_13 : decode cX11_checksum 13 = .ok (.ladd, 1) := by decide +kernel
theorem dX11_checksum_14 : decode cX11_checksum 14 = .ok (.lstore_n 2, 1) := by decide +kernel
theorem dX11_checksum_15 : decode cX11_checksum 15 = .ok (.iconst 0, 1) := by decide +kernel
theorem dX11_checksum_16 : decode cX11_checksum 16 = .ok (.istore 4, 2) := by decide +kernel
theorem dX11_checksum_18 : decode cX11_checksum 18 = .ok (.iload 4, 2) := by decide +kernel
theorem dX11_checksum_20 : decode cX11_checksum 20 = .ok (.aload_n 0, 1) := by decide +kernel
theorem dX11_checksum_21 : decode cX11_checksum 21 = .ok (.getfield 25, 3) := by decide +kernel
theorem dX11_checksum_24 : decode cX11_checksum 24 = .ok (.getfield 163, 3) := by decide +kernel
theorem dX11_checksum_27 : decode cX11_checksum 27 = .ok (.if_icmp .ge 55, 3) := by decide +kernel
theorem dX11_checksum_30 : decode cX11_checksum 30 = .ok (.lload_n 2, 1) := by decide +kernel
theorem dX11_checksum_31 : decode cX11_checksum 31 = .ok (.ldc2_w 492, 3) := by decide +kernel
theorem dX11_checksum_34 : decode cX11_checksum 34 = .ok (.lmul, 1) := by decide +kernel
theorem dX11_checksum_35 : decode cX11_checksum 35 = .ok (.aload_n 1, 1) := by decide +kernel
theorem dX11_checksum_36 : decode cX11_checksum 36 = .ok (.getfield 285, 3) := by decide +kernel
theorem dX11_checksum_39 : decode cX11_checksum 39 = .ok (.iload 4, 2) := by decide +kernel
theorem dX11_checksum_41 : decode cX11_checksum 41 = .ok (.iaload, 1) := by decide +kernel
theorem dX11_checksum_42 : decode cX11_checksum 42 = .ok (.i2l, 1) := by decide +kernel
theorem dX11_checksum_43 : decode cX11_checksum 43 = .ok (.ladd, 1) := by decide +kernel
theorem dX11_checksum_44 : decode cX11_checksum 44 = .ok (.aload_n 1, 1) := by decide +kernel
theorem dX11_checksum_45 : decode cX11_checksum 45 = .ok (.getfield 288, 3) := by decide +kernel
theorem dX11_checksum_48 : decode cX11_checksum 48 = .ok (.iload 4, 2) := by decide +kernel
theorem dX11_checksum_50 : decode cX11_checksum 50 = .ok (.baload, 1) := by decide +kernel
theorem dX11_checksum_51 : decode cX11_checksum 51 = .ok (.ifCond .eq 9, 3) := by decide +kernel
theorem dX11_checksum_54 : decode cX11_checksum 54 = .ok (.ldc2_w 494, 3) := by decide +kernel
theorem dX11_checksum_57 : decode cX11_checksum 57 = .ok (.goto 4, 3) := by decide +kernel
theorem dX11_checksum_60 : decode cX11_checksum 60 = .ok (.lconst 0, 1) := by decide +kernel
theorem dX11_checksum_61 : decode cX11_checksum 61 = .ok (.ladd, 1) := by decide +kernel
theorem dX11_checksum_62 : decode cX11_checksum 62 = .ok (.ldc2_w 496, 3) := by decide +kernel
theorem dX11_checksum_65 : decode cX11_checksum 65 = .ok (.aload_n 1, 1) := by decide +kernel
theorem dX11_checksum_66 : decode cX11_checksum 66 = .ok (.getfield 291, 3) := by decide +kernel
theorem dX11_checksum_69 : decode cX11_checksum 69 = .ok (.iload 4, 2) := by decide +kernel
theorem dX11_checksum_71 : decode cX11_checksum 71 = .ok (.iaload, 1) := by decide +kernel
theorem dX11_checksum_72 : decode cX11_checksum 72 = .ok (.i2l, 1) := by decide +kernel
theorem dX11_checksum_73 : decode cX11_checksum 73 = .ok (.lmul, 1) := by decide +kernel
theorem dX11_checksum_74 : decode cX11_checksum 74 = .ok (.ladd, 1) := by decide +kernel
theorem dX11_checksum_75 : decode cX11_checksum 75 = .ok (.lstore_n 2, 1) := by decide +kernel
theorem dX11_checksum_76 : decode cX11_checksum 76 = .ok (.iinc 4 1, 3) := by decide +kernel
theorem dX11_checksum_79 : decode cX11_checksum 79 = .ok (.goto (-61), 3) := by decide +kernel
theorem dX11_checksum_82 : decode cX11_checksum 82 = .ok (.lload_n 2, 1) := by decide +kernel
theorem dX11_checksum_83 : decode cX11_checksum 83 = .ok (.lreturn, 1) := by decide +kernel
theorem dX11_knownShare_0 : decode cX11_knownShare 0 = .ok (.aload_n 0, 1) := by decide +kernel
theorem dX11_knownShare_1 : decode cX11_knownShare 1 = .ok (.invokevirtual 260, 3) := by decide +kernel
theorem dX11_knownShare_4 : decode cX11_knownShare 4 = .ok (.aload_n 0, 1) := by decide +kernel
theorem dX11_knownShare_5 : decode cX11_knownShare 5 = .ok (.getfield 25, 3) := by decide +kernel
theorem dX11_knownShare_8 : decode cX11_knownShare 8 = .ok (.getfield 101, 3) := by decide +kernel
theorem dX11_knownShare_11 : decode cX11_knownShare 11 = .ok (.ifCond .ne 14, 3) := by decide +kernel
theorem dX11_knownShare_14 : decode cX11_knownShare 14 = .ok (.new 498, 3) := by decide +kernel
theorem dX11_knownShare_17 : decode cX11_knownShare 17 = .ok (.dup, 1) := by decide +kernel
theorem dX11_knownShare_18 : decode cX11_knownShare 18 = .ok (.ldc_w 500, 3) := by decide +kernel
theorem dX11_knownShare_21 : decode cX11_knownShare 21 = .ok (.invokespecial 502, 3) := by decide +kernel
theorem dX11_knownShare_24 : decode cX11_knownShare 24 = .ok (.athrow, 1) := by decide +kernel
theorem dX11_knownShare_25 : decode cX11_knownShare 25 = .ok (.aload_n 0, 1) := by decide +kernel
theorem dX11_knownShare_26 : decode cX11_knownShare 26 = .ok (.invokevirtual 256, 3) := by decide +kernel
theorem dX11_knownShare_29 : decode cX11_knownShare 29 = .ok (.i2f, 1) := by decide +kernel
theorem dX11_knownShare_30 : decode cX11_knownShare 30 = .ok (.aload_n 0, 1) := by decide +kernel
theorem dX11_knownShare_31 : decode cX11_knownShare 31 = .ok (.getfield 25, 3) := by decide +kernel
theorem dX11_knownShare_34 : decode cX11_knownShare 34 = .ok (.getfield 101, 3) := by decide +kernel
theorem dX11_knownShare_37 : decode cX11_knownShare 37 = .ok (.i2f, 1) := by decide +kernel
theorem dX11_knownShare_38 : decode cX11_knownShare 38 = .ok (.fdiv, 1) := by decide +kernel
theorem dX11_knownShare_39 : decode cX11_knownShare 39 = .ok (.freturn, 1) := by decide +kernel
theorem dX11_meanPrice_0 : decode cX11_meanPrice 0 = .ok (.aload_n 0, 1) := by decide +kernel
theorem dX11_meanPrice_1 : decode cX11_meanPrice 1 = .ok (.getfield 48, 3) := by decide +kernel
theorem dX11_meanPrice_4 : decode cX11_meanPrice 4 = .ok (.getfield 418, 3) := by decide +kernel
theorem dX11_meanPrice_7 : decode cX11_meanPrice 7 = .ok (.invokevirtual 307, 3) := by decide +kernel
theorem dX11_meanPrice_10 : decode cX11_meanPrice 10 = .ok (.istore_n 1, 1) := by decide +kernel
theorem dX11_meanPrice_11 : decode cX11_meanPrice 11 = .ok (.iload_n 1, 1) := by decide +kernel
theorem dX11_meanPrice_12 : decode cX11_meanPrice 12 = .ok (.ifCond .ne 14, 3) := by decide +kernel
theorem dX11_meanPrice_15 : decode cX11_meanPrice 15 = .ok (.new 320, 3) := by decide +kernel
theorem dX11_meanPrice_18 : decode cX11_meanPrice 18 = .ok (.dup, 1) := by decide +kernel
theorem dX11_meanPrice_19 : decode cX11_meanPrice 19 = .ok (.ldc_w 503, 3) := by decide +kernel
theorem dX11_meanPrice_22 : decode cX11_meanPrice 22 = .ok (.invokespecial 324, 3) := by decide +kernel
theorem dX11_meanPrice_25 : decode cX11_meanPrice 25 = .ok (.athrow, 1) := by decide +kernel
theorem dX11_meanPrice_26 : decode cX11_meanPrice 26 = .ok (.aload_n 0, 1) := by decide +kernel
theorem dX11_meanPrice_27 : decode cX11_meanPrice 27 = .ok (.getfield 48, 3) := by decide +kernel
theorem dX11_meanPrice_30 : decode cX11_meanPrice 30 = .ok (.invokevirtual 505, 3) := by decide +kernel
theorem dX11_meanPrice_33 : decode cX11_meanPrice 33 = .ok (.i2d, 1) := by decide +kernel
theorem dX11_meanPrice_34 : decode cX11_meanPrice 34 = .ok (.iload_n 1, 1) := by decide +kernel
theorem dX11_meanPrice_35 : decode cX11_meanPrice 35 = .ok (.i2d, 1) := by decide +kernel
theorem dX11_meanPrice_36 : decode cX11_meanPrice 36 = .ok (.ddiv, 1) := by decide +kernel
theorem dX11_meanPrice_37 : decode cX11_meanPrice 37 = .ok (.dreturn, 1) := by decide +kernel
theorem dX11_isSound_0 : decode cX11_isSound 0 = .ok (.iconst 0, 1) := by decide +kernel
theorem dX11_isSound_1 : decode cX11_isSound 1 = .ok (.istore_n 1, 1) := by decide +kernel
theorem dX11_isSound_2 : decode cX11_isSound 2 = .ok (.iload_n 1, 1) := by decide +kernel
theorem dX11_isSound_3 : decode cX11_isSound 3 = .ok (.aload_n 0, 1) := by decide +kernel
theorem dX11_isSound_4 : decode cX11_isSound 4 = .ok (.getfield 41, 3) := by decide +kernel
theorem dX11_isSound_7 : decode cX11_isSound 7 = .ok (.getfield 303, 3) := by decide +kernel
theorem dX11_isSound_10 : decode cX11_isSound 10 = .ok (.invokevirtual 307, 3) := by decide +kernel
theorem dX11_isSound_13 : decode cX11_isSound 13 = .ok (.if_icmp .ge 32, 3) := by decide +kernel
theorem dX11_isSound_16 : decode cX11_isSound 16 = .ok (.aload_n 0, 1) := by decide +kernel
theorem dX11_isSound_17 : decode cX11_isSound 17 = .ok (.aload_n 0, 1) := by decide +kernel
theorem dX11_isSound_18 : decode cX11_isSound 18 = .ok (.getfield 41, 3) := by decide +kernel
theorem dX11_isSound_21 : decode cX11_isSound 21 = .ok (.getfield 303, 3) := by decide +kernel
theorem dX11_isSound_24 : decode cX11_isSound 24 = .ok (.iload_n 1, 1) := by decide +kernel
theorem dX11_isSound_25 : decode cX11_isSound 25 = .ok (.invokevirtual 448, 3) := by decide +kernel
theorem dX11_isSound_28 : decode cX11_isSound 28 = .ok (.checkcast 2, 3) := by decide +kernel
theorem dX11_isSound_31 : decode cX11_isSound 31 = .ok (.invokevirtual 508, 3) := by decide +kernel
theorem dX11_isSound_34 : decode cX11_isSound 34 = .ok (.ifCond .ne 5, 3) := by decide +kernel
theorem dX11_isSound_37 : decode cX11_isSound 37 = .ok (.iconst 0, 1) := by decide +kernel
theorem dX11_isSound_38 : decode cX11_isSound 38 = .ok (.ireturn, 1) := by decide +kernel
theorem dX11_isSound_39 : decode cX11_isSound 39 = .ok (.iinc 1 1, 3) := by decide +kernel
theorem dX11_isSound_42 : decode cX11_isSound 42 = .ok (.goto (-40), 3) := by decide +kernel
theorem dX11_isSound_45 : decode cX11_isSound 45 = .ok (.aload_n 0, 1) := by decide +kernel
theorem dX11_isSound_46 : decode cX11_isSound 46 = .ok (.getfield 48, 3) := by decide +kernel
theorem dX11_isSound_49 : decode cX11_isSound 49 = .ok (.invokevirtual 511, 3) := by decide +kernel
theorem dX11_isSound_52 : decode cX11_isSound 52 = .ok (.ifCond .ne 35, 3) := by decide +kernel
theorem dX11_isSound_55 : decode cX11_isSound 55 = .ok (.aload_n 0, 1) := by decide +kernel
theorem dX11_isSound_56 : decode cX11_isSound 56 = .ok (.getfield 48, 3) := by decide +kernel
theorem dX11_isSound_59 : decode cX11_isSound 59 = .ok (.invokevirtual 505, 3) := by decide +kernel
theorem dX11_isSound_62 : decode cX11_isSound 62 = .ok (.aload_n 0, 1) := by decide +kernel
theorem dX11_isSound_63 : decode cX11_isSound 63 = .ok (.getfield 48, 3) := by decide +kernel
theorem dX11_isSound_66 : decode cX11_isSound 66 = .ok (.getfield 403, 3) := by decide +kernel
theorem dX11_isSound_69 : decode cX11_isSound 69 = .ok (.iadd, 1) := by decide +kernel
theorem dX11_isSound_70 : decode cX11_isSound 70 = .ok (.bipush 100, 2) := by decide +kernel
theorem dX11_isSound_72 : decode cX11_isSound 72 = .ok (.aload_n 0, 1) := by decide +kernel
theorem dX11_isSound_73 : decode cX11_isSound 73 = .ok (.getfield 48, 3) := by decide +kernel
theorem dX11_isSound_76 : decode cX11_isSound 76 = .ok (.getfield 440, 3) := by decide +kernel
theorem dX11_isSound_79 : decode cX11_isSound 79 = .ok (.iadd, 1) := by decide +kernel
theorem dX11_isSound_80 : decode cX11_isSound 80 = .ok (.if_icmp .ne 7, 3) := by decide +kernel
theorem dX11_isSound_83 : decode cX11_isSound 83 = .ok (.iconst 1, 1) := by decide +kernel
theorem dX11_isSound_84 : decode cX11_isSound 84 = .ok (.goto 4, 3) := by decide +kernel
theorem dX11_isSound_87 : decode cX11_isSound 87 = .ok (.iconst 0, 1) := by decide +kernel
theorem dX11_isSound_88 : decode cX11_isSound 88 = .ok (.ireturn, 1) := by decide +kernel
theorem dX11_needWord_0 : decode cX11_needWord 0 = .ok (.aload_n 0, 1) := by decide +kernel
theorem dX11_needWord_1 : decode cX11_needWord 1 = .ok (.getfield 25, 3) := by decide +kernel
theorem dX11_needWord_4 : decode cX11_needWord 4 = .ok (.iload_n 1, 1) := by decide +kernel
theorem dX11_needWord_5 : decode cX11_needWord 5 = .ok (.invokevirtual 514, 3) := by decide +kernel
theorem dX11_needWord_8 : decode cX11_needWord 8 = .ok (.ifCond .ne 14, 3) := by decide +kernel
theorem dX11_needWord_11 : decode cX11_needWord 11 = .ok (.new 443, 3) := by decide +kernel
theorem dX11_needWord_14 : decode cX11_needWord 14 = .ok (.dup, 1) := by decide +kernel
theorem dX11_needWord_15 : decode cX11_needWord 15 = .ok (.ldc_w 384, 3) := by decide +kernel
theorem dX11_needWord_18 : decode cX11_needWord 18 = .ok (.invokespecial 447, 3) := by decide +kernel
theorem dX11_needWord_21 : decode cX11_needWord 21 = .ok (.athrow, 1) := by decide +kernel
theorem dX11_needWord_22 : decode cX11_needWord 22 = .ok (.return_, 1) := by decide +kernel
theorem dX11_needRoom_0 : decode cX11_needRoom 0 = .ok (.aload_n 0, 1) := by decide +kernel
theorem dX11_needRoom_1 : decode cX11_needRoom 1 = .ok (.getfield 25, 3) := by decide +kernel
theorem dX11_needRoom_4 : decode cX11_needRoom 4 = .ok (.iload_n 1, 1) := by decide +kernel
theorem dX11_needRoom_5 : decode cX11_needRoom 5 = .ok (.invokevirtual 517, 3) := by decide +kernel
theorem dX11_needRoom_8 : decode cX11_needRoom 8 = .ok (.ifCond .ne 14, 3) := by decide +kernel
theorem dX11_needRoom_11 : decode cX11_needRoom 11 = .ok (.new 443, 3) := by decide +kernel
theorem dX11_needRoom_14 : decode cX11_needRoom 14 = .ok (.dup, 1) := by decide +kernel
theorem dX11_needRoom_15 : decode cX11_needRoom 15 = .ok (.ldc_w 520, 3) := by decide +kernel
theorem dX11_needRoom_18 : decode cX11_needRoom 18 = .ok (.invokespecial 447, 3) := by decide +kernel
theorem dX11_needRoom_21 : decode cX11_needRoom 21 = .ok (.athrow, 1) := by decide +kernel
theorem dX11_needRoom_22 : decode cX11_needRoom 22 = .ok (.return_, 1) := by decide +kernel
theorem dX11_needThing_0 : decode cX11_needThing 0 = .ok (.aload_n 0, 1) := by decide +kernel
theorem dX11_needThing_1 : decode cX11_needThing 1 = .ok (.getfield 25, 3) := by decide +kernel
theorem dX11_needThing_4 : decode cX11_needThing 4 = .ok (.iload_n 1, 1) := by decide +kernel
theorem dX11_needThing_5 : decode cX11_needThing 5 = .ok (.invokevirtual 522, 3) := by decide +kernel
theorem dX11_needThing_8 : decode cX11_needThing 8 = .ok (.ifCond .ne 14, 3) := by decide +kernel
theorem dX11_needThing_11 : decode cX11_needThing 11 = .ok (.new 443, 3) := by decide +kernel
theorem dX11_needThing_14 : decode cX11_needThing 14 = .ok (.dup, 1) := by decide +kernel
theorem dX11_needThing_15 : decode cX11_needThing 15 = .ok (.ldc_w 461, 3) := by decide +kernel
theorem dX11_needThing_18 : decode cX11_needThing 18 = .ok (.invokespecial 447, 3) := by decide +kernel
theorem dX11_needThing_21 : decode cX11_needThing 21 = .ok (.athrow, 1) := by decide +kernel
theorem dX11_needThing_22 : decode cX11_needThing 22 = .ok (.return_, 1) := by decide +kernel
theorem dX11_needHint_0 : decode cX11_needHint 0 = .ok (.aload_n 0, 1) := by decide +kernel
theorem dX11_needHint_1 : decode cX11_needHint 1 = .ok (.getfield 48, 3) := by decide +kernel
theorem dX11_needHint_4 : decode cX11_needHint 4 = .ok (.iload_n 1, 1) := by decide +kernel
theorem dX11_needHint_5 : decode cX11_needHint 5 = .ok (.invokevirtual 525, 3) := by decide +kernel
theorem dX11_needHint_8 : decode cX11_needHint 8 = .ok (.ifCond .ne 14, 3) := by decide +kernel
theorem dX11_needHint_11 : decode cX11_needHint 11 = .ok (.new 443, 3) := by decide +kernel
theorem dX11_needHint_14 : decode cX11_needHint 14 = .ok (.dup, 1) := by decide +kernel
theorem dX11_needHint_15 : decode cX11_needHint 15 = .ok (.ldc_w 528, 3) := by decide +kernel
theorem dX11_needHint_18 : decode cX11_needHint 18 = .ok (.invokespecial 447, 3) := by decide +kernel
theorem dX11_needHint_21 : decode cX11_needHint 21 = .ok (.athrow, 1) := by decide +kernel
theorem dX11_needHint_22 : decode cX11_needHint 22 = .ok (.return_, 1) := by decide +kernel
theorem dX11_needKind_0 : decode cX11_needKind 0 = .ok (.aload_n 0, 1) := by decide +kernel
theorem dX11_needKind_1 : decode cX11_needKind 1 = .ok (.getfield 25, 3) := by decide +kernel
theorem dX11_needKind_4 : decode cX11_needKind 4 = .ok (.getfield 177, 3) := by decide +kernel
theorem dX11_needKind_7 : decode cX11_needKind 7 = .ok (.iload_n 1, 1) := by decide +kernel
theorem dX11_needKind_8 : decode cX11_needKind 8 = .ok (.caload, 1) := by decide +kernel
theorem dX11_needKind_9 : decode cX11_needKind 9 = .ok (.iload_n 2, 1) := by decide +kernel
theorem dX11_needKind_10 : decode cX11_needKind 10 = .ok (.if_icmp .eq 14, 3) := by decide +kernel
theorem dX11_needKind_13 : decode cX11_needKind 13 = .ok (.new 96, 3) := by decide +kernel
theorem dX11_needKind_16 : decode cX11_needKind 16 = .ok (.dup, 1) := by decide +kernel
theorem dX11_needKind_17 : decode cX11_needKind 17 = .ok (.ldc_w 530, 3) := by decide +kernel
theorem dX11_needKind_20 : decode cX11_needKind 20 = .ok (.invokespecial 100, 3) := by decide +kernel
theorem dX11_needKind_23 : decode cX11_needKind 23 = .ok (.athrow, 1) := by decide +kernel
theorem dX11_needKind_24 : decode cX11_needKind 24 = .ok (.return_, 1) := by decide +kernel
theorem dX11_needNoPlay_0 : decode cX11_needNoPlay 0 = .ok (.aload_n 0, 1) := by decide +kernel
theorem dX11_needNoPlay_1 : decode cX11_needNoPlay 1 = .ok (.getfield 41, 3) := by decide +kernel
theorem dX11_needNoPlay_4 : decode cX11_needNoPlay 4 = .ok (.invokevirtual 532, 3) := by decide +kernel
theorem dX11_needNoPlay_7 : decode cX11_needNoPlay 7 = .ok (.ifCond .ne 14, 3) := by decide +kernel
theorem dX11_needNoPlay_10 : decode cX11_needNoPlay 10 = .ok (.new 77, 3) := by decide +kernel
theorem dX11_needNoPlay_13 : decode cX11_needNoPlay 13 = .ok (.dup, 1) := by decide +kernel
theorem dX11_needNoPlay_14 : decode cX11_needNoPlay 14 = .ok (.ldc_w 535, 3) := by decide +kernel
theorem dX11_needNoPlay_17 : decode cX11_needNoPlay 17 = .ok (.invokespecial 81, 3) := by decide +kernel
theorem dX11_needNoPlay_20 : decode cX11_needNoPlay 20 = .ok (.athrow, 1) := by decide +kernel
theorem dX11_needNoPlay_21 : decode cX11_needNoPlay 21 = .ok (.return_, 1) := by decide +kernel
theorem dX11_needPlay_0 : decode cX11_needPlay 0 = .ok (.aload_n 0, 1) := by decide +kernel
theorem dX11_needPlay_1 : decode cX11_needPlay 1 = .ok (.getfield 41, 3) := by decide +kernel
theorem dX11_needPlay_4 : decode cX11_needPlay 4 = .ok (.invokevirtual 532, 3) := by decide +kernel
theorem dX11_needPlay_7 : decode cX11_needPlay 7 = .ok (.ifCond .eq 14, 3) := by decide +kernel
theorem dX11_needPlay_10 : decode cX11_needPlay 10 = .ok (.new 77, 3) := by decide +kernel
theorem dX11_needPlay_13 : decode cX11_needPlay 13 = .ok (.dup, 1) := by decide +kernel
theorem dX11_needPlay_14 : decode cX11_needPlay 14 = .ok (.ldc_w 537, 3) := by decide +kernel
theorem dX11_needPlay_17 : decode cX11_needPlay 17 = .ok (.invokespecial 81, 3) := by decide +kernel
theorem dX11_needPlay_20 : decode cX11_needPlay 20 = .ok (.athrow, 1) := by decide +kernel
theorem dX11_needPlay_21 : decode cX11_needPlay 21 = .ok (.return_, 1) := by decide +kernel
theorem dX11_needNodeFor_0 : decode cX11_needNodeFor 0 = .ok (.aload_n 0, 1) := by decide +kernel
theorem dX11_needNodeFor_1 : decode cX11_needNodeFor 1 = .ok (.getfield 41, 3) := by decide +kernel
theorem dX11_needNodeFor_4 : decode cX11_needNodeFor 4 = .ok (.invokevirtual 393, 3) := by decide +kernel
theorem dX11_needNodeFor_7 : decode cX11_needNodeFor 7 = .ok (.ifCond .eq 26, 3) := by decide +kernel
theorem dX11_needNodeFor_10 : decode cX11_needNodeFor 10 = .ok (.aload_n 0, 1) := by decide +kernel
theorem dX11_needNodeFor_11 : decode cX11_needNodeFor 11 = .ok (.getfield 41, 3) := by decide +kernel
theorem dX11_needNodeFor_14 : decode cX11_needNodeFor 14 = .ok (.aload_n 1, 1) := by decide +kernel
theorem dX11_needNodeFor_15 : decode cX11_needNodeFor 15 = .ok (.invokevirtual 539, 3) := by decide +kernel
theorem dX11_needNodeFor_18 : decode cX11_needNodeFor 18 = .ok (.iconst (-1), 1) := by decide +kernel
theorem dX11_needNodeFor_19 : decode cX11_needNodeFor 19 = .ok (.if_icmp .ne 14, 3) := by decide +kernel
theorem dX11_needNodeFor_22 : decode cX11_needNodeFor 22 = .ok (.new 77, 3) := by decide +kernel
theorem dX11_needNodeFor_25 : decode cX11_needNodeFor 25 = .ok (.dup, 1) := by decide +kernel
theorem dX11_needNodeFor_26 : decode cX11_needNodeFor 26 = .ok (.ldc_w 397, 3) := by decide +kernel
theorem dX11_needNodeFor_29 : decode cX11_needNodeFor 29 = .ok (.invokespecial 81, 3) := by decide +kernel
theorem dX11_needNodeFor_32 : decode cX11_needNodeFor 32 = .ok (.athrow, 1) := by decide +kernel
theorem dX11_needNodeFor_33 : decode cX11_needNodeFor 33 = .ok (.return_, 1) := by decide +kernel
theorem dX11_needNotOwned_0 : decode cX11_needNotOwned 0 = .ok (.aload_n 0, 1) := by decide +kernel
theorem dX11_needNotOwned_1 : decode cX11_needNotOwned 1 = .ok (.getfield 48, 3) := by decide +kernel
theorem dX11_needNotOwned_4 : decode cX11_needNotOwned 4 = .ok (.iload_n 1, 1) := by decide +kernel
theorem dX11_needNotOwned_5 : decode cX11_needNotOwned 5 = .ok (.aload_n 0, 1) := by decide +kernel
theorem dX11_needNotOwned_6 : decode cX11_needNotOwned 6 = .ok (.getfield 41, 3) := by decide +kernel
theorem dX11_needNotOwned_9 : decode cX11_needNotOwned 9 = .ok (.invokevirtual 338, 3) := by decide +kernel
theorem dX11_needNotOwned_12 : decode cX11_needNotOwned 12 = .ok (.invokevirtual 429, 3) := by decide +kernel
theorem dX11_needNotOwned_15 : decode cX11_needNotOwned 15 = .ok (.ifCond .eq 14, 3) := by decide +kernel
theorem dX11_needNotOwned_18 : decode cX11_needNotOwned 18 = .ok (.new 96, 3) := by decide +kernel
theorem dX11_needNotOwned_21 : decode cX11_needNotOwned 21 = .ok (.dup, 1) := by decide +kernel
theorem dX11_needNotOwned_22 : decode cX11_needNotOwned 22 = .ok (.ldc_w 543, 3) := by decide +kernel
theorem dX11_needNotOwned_25 : decode cX11_needNotOwned 25 = .ok (.invokespecial 100, 3) := by decide +kernel
theorem dX11_needNotOwned_28 : decode cX11_needNotOwned 28 = .ok (.athrow, 1) := by decide +kernel
theorem dX11_needNotOwned_29 : decode cX11_needNotOwned 29 = .ok (.return_, 1) := by decide +kernel
theorem dX11_exitIn_0 : decode cX11_exitIn 0 = .ok (.ldc_w 545, 3) := by decide +kernel
theorem dX11_exitIn_3 : decode cX11_exitIn 3 = .ok (.iload_n 2, 1) := by decide +kernel
theorem dX11_exitIn_4 : decode cX11_exitIn 4 = .ok (.invokevirtual 547, 3) := by decide +kernel
theorem dX11_exitIn_7 : decode cX11_exitIn 7 = .ok (.istore_n 3, 1) := by decide +kernel
theorem dX11_exitIn_8 : decode cX11_exitIn 8 = .ok (.iload_n 3, 1) := by decide +kernel
theorem dX11_exitIn_9 : decode cX11_exitIn 9 = .ok (.ifCond .ge 14, 3) := by decide +kernel
theorem dX11_exitIn_12 : decode cX11_exitIn 12 = .ok (.new 66, 3) := by decide +kernel
theorem dX11_exitIn_15 : decode cX11_exitIn 15 = .ok (.dup, 1) := by decide +kernel
theorem dX11_exitIn_16 : decode cX11_exitIn 16 = .ok (.ldc_w 552, 3) := by decide +kernel
theorem dX11_exitIn_19 : decode cX11_exitIn 19 = .ok (.invokespecial 70, 3) := by decide +kernel
theorem dX11_exitIn_22 : decode cX11_exitIn 22 = .ok (.athrow, 1) := by decide +kernel
theorem dX11_exitIn_23 : decode cX11_exitIn 23 = .ok (.iload_n 1, 1) := by decide +kernel
theorem dX11_exitIn_24 : decode cX11_exitIn 24 = .ok (.bipush 6, 2) := by decide +kernel
theorem dX11_exitIn_26 : decode cX11_exitIn 26 = .ok (.imul, 1) := by decide +kernel
theorem dX11_exitIn_27 : decode cX11_exitIn 27 = .ok (.iload_n 3, 1) := by decide +kernel
theorem dX11_exitIn_28 : decode cX11_exitIn 28 = .ok (.iadd, 1) := by decide +kernel
theorem dX11_exitIn_29 : decode cX11_exitIn 29 = .ok (.ireturn, 1) := by decide +kernel
theorem dX11_nodeOf_0 : decode cX11_nodeOf 0 = .ok (.aload_n 0, 1) := by decide +kernel
theorem dX11_nodeOf_1 : decode cX11_nodeOf 1 = .ok (.getfield 41, 3) := by decide +kernel
theorem dX11_nodeOf_4 : decode cX11_nodeOf 4 = .ok (.iload_n 1, 1) := by decide +kernel
theorem dX11_nodeOf_5 : decode cX11_nodeOf 5 = .ok (.invokevirtual 554, 3) := by decide +kernel
theorem dX11_nodeOf_8 : decode cX11_nodeOf 8 = .ok (.ifCond .ne 14, 3) := by decide +kernel
theorem dX11_nodeOf_11 : decode cX11_nodeOf 11 = .ok (.new 443, 3) := by decide +kernel
theorem dX11_nodeOf_14 : decode cX11_nodeOf 14 = .ok (.dup, 1) := by decide +kernel
theorem dX11_nodeOf_15 : decode cX11_nodeOf 15 = .ok (.ldc_w 557, 3) := by decide +kernel
theorem dX11_nodeOf_18 : decode cX11_nodeOf 18 = .ok (.invokespecial 447, 3) := by decide +kernel
theorem dX11_nodeOf_21 : decode cX11_nodeOf 21 = .ok (.athrow, 1) := by decide +kernel
theorem dX11_nodeOf_22 : decode cX11_nodeOf 22 = .ok (.aload_n 0, 1) := by decide +kernel
theorem dX11_nodeOf_23 : decode cX11_nodeOf 23 = .ok (.getfield 41, 3) := by decide +kernel
theorem dX11_nodeOf_26 : decode cX11_nodeOf 26 = .ok (.getfield 303, 3) := by decide +kernel
theorem dX11_nodeOf_29 : decode cX11_nodeOf 29 = .ok (.iload_n 1, 1) := by decide +kernel
theorem dX11_nodeOf_30 : decode cX11_nodeOf 30 = .ok (.invokevirtual 448, 3) := by decide +kernel
theorem dX11_nodeOf_33 : decode cX11_nodeOf 33 = .ok (.checkcast 2, 3) := by decide +kernel
theorem dX11_nodeOf_36 : decode cX11_nodeOf 36 = .ok (.areturn, 1) := by decide +kernel
theorem dX11_stateHere_0 : decode cX11_stateHere 0 = .ok (.aload_n 0, 1) := by decide +kernel
theorem dX11_stateHere_1 : decode cX11_stateHere 1 = .ok (.invokevirtual 260, 3) := by decide +kernel
theorem dX11_stateHere_4 : decode cX11_stateHere 4 = .ok (.aload_n 0, 1) := by decide +kernel
theorem dX11_stateHere_5 : decode cX11_stateHere 5 = .ok (.getfield 41, 3) := by decide +kernel
theorem dX11_stateHere_8 : decode cX11_stateHere 8 = .ok (.invokevirtual 338, 3) := by decide +kernel
theorem dX11_stateHere_11 : decode cX11_stateHere 11 = .ok (.getfield 408, 3) := by decide +kernel
theorem dX11_stateHere_14 : decode cX11_stateHere 14 = .ok (.areturn, 1) := by decide +kernel
theorem dX11_wordsKnown_0 : decode cX11_wordsKnown 0 = .ok (.aload_n 0, 1) := by decide +kernel
theorem dX11_wordsKnown_1 : decode cX11_wordsKnown 1 = .ok (.getfield 41, 3) := by decide +kernel
theorem dX11_wordsKnown_4 : decode cX11_wordsKnown 4 = .ok (.invokevirtual 338, 3) := by decide +kernel
theorem dX11_wordsKnown_7 : decode cX11_wordsKnown 7 = .ok (.invokevirtual 363, 3) := by decide +kernel
theorem dX11_wordsKnown_10 : decode cX11_wordsKnown 10 = .ok (.invokestatic 132, 3) := by decide +kernel
theorem dX11_wordsKnown_13 : decode cX11_wordsKnown 13 = .ok (.ireturn, 1) := by decide +kernel
theorem dX11_understood_0 : decode cX11_understood 0 = .ok (.aload_n 0, 1) := by decide +kernel
theorem dX11_understood_1 : decode cX11_understood 1 = .ok (.getfield 18, 3) := by decide +kernel
theorem dX11_understood_4 : decode cX11_understood 4 = .ok (.invokevirtual 559, 3) := by decide +kernel
theorem dX11_understood_7 : decode cX11_understood 7 = .ok (.istore_n 1, 1) := by decide +kernel
theorem dX11_understood_8 : decode cX11_understood 8 = .ok (.iconst 0, 1) := by decide +kernel
theorem dX11_understood_9 : decode cX11_understood 9 = .ok (.istore_n 2, 1) := by decide +kernel
theorem dX11_understood_10 : decode cX11_understood 10 = .ok (.iload_n 2, 1) := by decide +kernel
theorem dX11_understood_11 : decode cX11_understood 11 = .ok (.getstatic 562, 3) := by decide +kernel
theorem dX11_understood_14 : decode cX11_understood 14 = .ok (.arraylength, 1) := by decide +kernel
theorem dX11_understood_15 : decode cX11_understood 15 = .ok (.if_icmp .ge 48, 3) := by decide +kernel
theorem dX11_understood_18 : decode cX11_understood 18 = .ok (.getstatic 562, 3) := by decide +kernel
theorem dX11_understood_21 : decode cX11_understood 21 = .ok (.iload_n 2, 1) := by decide +kernel
theorem dX11_understood_22 : decode cX11_understood 22 = .ok (.aaload, 1) := by decide +kernel
theorem dX11_understood_23 : decode cX11_understood 23 = .ok (.astore_n 3, 1) := by decide +kernel
theorem dX11_understood_24 : decode cX11_understood 24 = .ok (.iload_n 1, 1) := by decide +kernel
theorem dX11_understood_25 : decode cX11_understood 25 = .ok (.ifCond .le 32, 3) := by decide +kernel
theorem dX11_understood_28 : decode cX11_understood 28 = .ok (.aload_n 3, 1) := by decide +kernel
theorem dX11_understood_29 : decode cX11_understood 29 = .ok (.getfield 566, 3) := by decide +kernel
theorem dX11_understood_32 : decode cX11_understood 32 = .ok (.iload_n 1, 1) := by decide +kernel
theorem dX11_understood_33 : decode cX11_understood 33 = .ok (.if_icmp .ne 24, 3) := by decide +kernel
theorem dX11_understood_36 : decode cX11_understood 36 = .ok (.aload_n 0, 1) := by decide +kernel
theorem dX11_understood_37 : decode cX11_understood 37 = .ok (.getfield 18, 3) := by decide +kernel
theorem dX11_understood_40 : decode cX11_understood 40 = .ok (.iconst 0, 1) := by decide +kernel
theorem dX11_understood_41 : decode cX11_understood 41 = .ok (.aload_n 3, 1) := by decide +kernel
theorem dX11_understood_42 : decode cX11_understood 42 = .ok (.getfield 569, 3) := by decide +kernel
theorem dX11_understood_45 : decode cX11_understood 45 = .ok (.invokevirtual 573, 3) := by decide +kernel
theorem dX11_understood_48 : decode cX11_understood 48 = .ok (.ifCond .eq 9, 3) := by decide +kernel
theorem dX11_understood_51 : decode cX11_understood 51 = .ok (.aload_n 0, 1) := by decide +kernel
theorem dX11_understood_52 : decode cX11_understood 52 = .ok (.aload_n 3, 1) := by decide +kernel
theorem dX11_understood_53 : decode cX11_understood 53 = .ok (.invokevirtual 577, 3) := by decide +kernel
theorem dX11_understood_56 : decode cX11_understood 56 = .ok (.areturn, 1) := by decide +kernel
theorem dX11_understood_57 : decode cX11_understood 57 = .ok (.iinc 2 1, 3) := by decide +kernel
theorem dX11_understood_60 : decode cX11_understood 60 = .ok (.goto (-50), 3) := by decide +kernel
theorem dX11_understood_63 : decode cX11_understood 63 = .ok (.aconst_null, 1) := by decide +kernel
theorem dX11_understood_64 : decode cX11_understood 64 = .ok (.areturn, 1) := by decide +kernel
theorem dX11_completed_0 : decode cX11_completed 0 = .ok (.aload_n 1, 1) := by decide +kernel
theorem dX11_completed_1 : decode cX11_completed 1 = .ok (.getstatic 581, 3) := by decide +kernel
theorem dX11_completed_4 : decode cX11_completed 4 = .ok (.if_acmp .ne 37, 3) := by decide +kernel
theorem dX11_completed_7 : decode cX11_completed 7 = .ok (.ldc_w 545, 3) := by decide +kernel
theorem dX11_completed_10 : decode cX11_completed 10 = .ok (.aload_n 0, 1) := by decide +kernel
theorem dX11_completed_11 : decode cX11_completed 11 = .ok (.getfield 18, 3) := by decide +kernel
theorem dX11_completed_14 : decode cX11_completed 14 = .ok (.iconst 1, 1) := by decide +kernel
theorem dX11_completed_15 : decode cX11_completed 15 = .ok (.invokevirtual 584, 3) := by decide +kernel
theorem dX11_completed_18 : decode cX11_completed 18 = .ok (.invokevirtual 547, 3) := by decide +kernel
theorem dX11_completed_21 : decode cX11_completed 21 = .ok (.istore_n 2, 1) := by decide +kernel
theorem dX11_completed_22 : decode cX11_completed 22 = .ok (.iload_n 2, 1) := by decide +kernel
theorem dX11_completed_23 : decode cX11_completed 23 = .ok (.ifCond .ge 7, 3) := by decide +kernel
theorem dX11_completed_26 : decode cX11_completed 26 = .ok (.aconst_null, 1) := by decide +kernel
theorem dX11_completed_27 : decode cX11_completed 27 = .ok (.goto 13, 3) := by decide +kernel
theorem dX11_completed_30 : decode cX11_completed 30 = .ok (.new 238, 3) := by decide +kernel
theorem dX11_completed_33 : decode cX11_completed 33 = .ok (.dup, 1) := by decide +kernel
theorem dX11_completed_34 : decode cX11_completed 34 = .ok (.aload_n 1, 1) := by decide +kernel
theorem dX11_completed_35 : decode cX11_completed 35 = .ok (.iload_n 2, 1) := by decide +kernel
theorem dX11_completed_36 : decode cX11_completed 36 = .ok (.iconst (-1), 1) := by decide +kernel
theorem dX11_completed_37 : decode cX11_completed 37 = .ok (.invokespecial 246, 3) := by decide +kernel
theorem dX11_completed_40 : decode cX11_completed 40 = .ok (.areturn, 1) := by decide +kernel
theorem dX11_completed_41 : decode cX11_completed 41 = .ok (.aload_n 1, 1) := by decide +kernel
theorem dX11_completed_42 : decode cX11_completed 42 = .ok (.getstatic 587, 3) := by decide +kernel
theorem dX11_completed_45 : decode cX11_completed 45 = .ok (.if_acmp .ne 19, 3) := by decide +kernel
theorem dX11_completed_48 : decode cX11_completed 48 = .ok (.aload_n 0, 1) := by decide +kernel
theorem dX11_completed_49 : decode cX11_completed 49 = .ok (.getfield 18, 3) := by decide +kernel
theorem dX11_completed_52 : decode cX11_completed 52 = .ok (.iconst 2, 1) := by decide +kernel
theorem dX11_completed_53 : decode cX11_completed 53 = .ok (.ldc_w 590, 3) := by decide +kernel
theorem dX11_completed_56 : decode cX11_completed 56 = .ok (.invokevirtual 573, 3) := by decide +kernel
theorem dX11_completed_59 : decode cX11_completed 59 = .ok (.ifCond .ne 5, 3) := by decide +kernel
theorem dX11_completed_62 : decode cX11_completed 62 = .ok (.aconst_null, 1) := by decide +kernel
theorem dX11_completed_63 : decode cX11_completed 63 = .ok (.areturn, 1) := by decide +kernel
theorem dX11_completed_64 : decode cX11_completed 64 = .ok (.aload_n 1, 1) := by decide +kernel
theorem dX11_completed_65 : decode cX11_completed 65 = .ok (.getfield 592, 3) := by decide +kernel
theorem dX11_completed_68 : decode cX11_completed 68 = .ok (.ifCond .le 21, 3) := by decide +kernel
theorem dX11_completed_71 : decode cX11_completed 71 = .ok (.aload_n 0, 1) := by decide +kernel
theorem dX11_completed_72 : decode cX11_completed 72 = .ok (.getfield 25, 3) := by decide +kernel
theorem dX11_completed_75 : decode cX11_completed 75 = .ok (.aload_n 0, 1) := by decide +kernel
theorem dX11_completed_76 : decode cX11_completed 76 = .ok (.getfield 18, 3) := by decide +kernel
theorem dX11_completed_79 : decode cX11_completed 79 = .ok (.iconst 1, 1) := by decide +kernel
theorem dX11_completed_80 : decode cX11_completed 80 = .ok (.invokevirtual 594, 3) := by decide +kernel
theorem dX11_completed_83 : decode cX11_completed 83 = .ok (.invokevirtual 92, 3) := by decide +kernel
theorem dX11_completed_86 : decode cX11_completed 86 = .ok (.goto 4, 3) := by decide +kernel
theorem dX11_completed_89 : decode cX11_completed 89 = .ok (.iconst (-1), 1) := by decide +kernel
theorem dX11_completed_90 : decode cX11_completed 90 = .ok (.istore_n 2, 1) := by decide +kernel
theorem dX11_completed_91 : decode cX11_completed 91 = .ok (.aload_n 1, 1) := by decide +kernel
theorem dX11_completed_92 : decode cX11_completed 92 = .ok (.getfield 592, 3) := by decide +kernel
theorem dX11_completed_95 : decode cX11_completed 95 = .ok (.iconst 1, 1) := by decide +kernel
theorem dX11_completed_96 : decode cX11_completed 96 = .ok (.if_icmp .le 21, 3) := by decide +kernel
theorem dX11_completed_99 : decode cX11_completed 99 = .ok (.aload_n 0, 1) := by decide +kernel
theorem dX11_completed_100 : decode cX11_completed 100 = .ok (.getfield 25, 3) := by decide +kernel
theorem dX11_completed_103 : decode cX11_completed 103 = .ok (.aload_n 0, 1) := by decide +kernel
theorem dX11_completed_104 : decode cX11_completed 104 = .ok (.getfield 18, 3) := by decide +kernel
theorem dX11_completed_107 : decode cX11_completed 107 = .ok (.iconst 3, 1) := by decide +kernel
theorem dX11_completed_108 : decode cX11_completed 108 = .ok (.invokevirtual 594, 3) := by decide +kernel
theorem dX11_completed_111 : decode cX11_completed 111 = .ok (.invokevirtual 92, 3) := by decide +kernel
theorem dX11_completed_114 : decode cX11_completed 114 = .ok (.goto 4, 3) := by decide +kernel
theorem dX11_completed_117 : decode cX11_completed 117 = .ok (.iconst (-1), 1) := by decide +kernel
theorem dX11_completed_118 : decode cX11_completed 118 = .ok (.istore_n 3, 1) := by decide +kernel
theorem dX11_completed_119 : decode cX11_completed 119 = .ok (.new 238, 3) := by decide +kernel
theorem dX11_completed_122 : decode cX11_completed 122 = .ok (.dup, 1) := by decide +kernel
theorem dX11_completed_123 : decode cX11_completed 123 = .ok (.aload_n 1, 1) := by decide +kernel
theorem dX11_completed_124 : decode cX11_completed 124 = .ok (.iload_n 2, 1) := by decide +kernel
theorem dX11_completed_125 : decode cX11_completed 125 = .ok (.iload_n 3, 1) := by decide +kernel
theorem dX11_completed_126 : decode cX11_completed 126 = .ok (.invokespecial 246, 3) := by decide +kernel
theorem dX11_completed_129 : decode cX11_completed 129 = .ok (.areturn, 1) := by decide +kernel
theorem dX11_tried_0 : decode cX11_tried 0 = .ok (.aload_n 1, 1) := by decide +kernel
theorem dX11_tried_1 : decode cX11_tried 1 = .ok (.aload_n 0, 1) := by decide +kernel
theorem dX11_tried_2 : decode cX11_tried 2 = .ok (.getfield 41, 3) := by decide +kernel
theorem dX11_tried_5 : decode cX11_tried 5 = .ok (.invokevirtual 338, 3) := by decide +kernel
theorem dX11_tried_8 : decode cX11_tried 8 = .ok (.invokestatic 598, 3) := by decide +kernel
theorem dX11_tried_11 : decode cX11_tried 11 = .ok (.ifCond .ne 6, 3) := by decide +kernel
theorem dX11_tried_14 : decode cX11_tried 14 = .ok (.bipush 119, 2) := by decide +kernel
theorem dX11_tried_16 : decode cX11_tried 16 = .ok (.ireturn, 1) := by decide +kernel
theorem dX11_tried_17 : decode cX11_tried 17 = .ok (.aload_n 0, 1) := by decide +kernel
theorem dX11_tried_18 : decode cX11_tried 18 = .ok (.getfield 55, 3) := by decide +kernel
theorem dX11_tried_21 : decode cX11_tried 21 = .ok (.aload_n 0, 1) := by decide +kernel
theorem dX11_tried_22 : decode cX11_tried 22 = .ok (.getfield 41, 3) := by decide +kernel
theorem dX11_tried_25 : decode cX11_tried 25 = .ok (.invokevirtual 338, 3) := by decide +kernel
theorem dX11_tried_28 : decode cX11_tried 28 = .ok (.getfield 408, 3) := by decide +kernel
theorem dX11_tried_31 : decode cX11_tried 31 = .ok (.invokevirtual 411, 3) := by decide +kernel
theorem dX11_tried_34 : decode cX11_tried 34 = .ok (.aload_n 0, 1) := by decide +kernel
theorem dX11_tried_35 : decode cX11_tried 35 = .ok (.getfield 34, 3) := by decide +kernel
theorem dX11_tried_38 : decode cX11_tried 38 = .ok (.aload_n 0, 1) := by decide +kernel
theorem dX11_tried_39 : decode cX11_tried 39 = .ok (.getfield 55, 3) := by decide +kernel
theorem dX11_tried_42 : decode cX11_tried 42 = .ok (.aload_n 1, 1) := by decide +kernel
theorem dX11_tried_43 : decode cX11_tried 43 = .ok (.invokevirtual 602, 3) := by decide +kernel
theorem dX11_tried_46 : decode cX11_tried 46 = .ok (.ifCond .eq 8, 3) := by decide +kernel
theorem dX11_tried_49 : decode cX11_tried 49 = .ok (.bipush 111, 2) := by decide +kernel
theorem dX11_tried_51 : decode cX11_tried 51 = .ok (.goto 5, 3) := by decide +kernel
theorem dX11_tried_54 : decode cX11_tried 54 = .ok (.bipush 110, 2) := by decide +kernel
theorem dX11_tried_56 : decode cX11_tried 56 = .ok (.ireturn, 1) := by decide +kernel
theorem dX11_usesKnownWords_0 : decode cX11_usesKnownWords 0 = .ok (.aload_n 1, 1) := by decide +kernel
theorem dX11_usesKnownWords_1 : decode cX11_usesKnownWords 1 = .ok (.invokevirtual 363, 3) := by decide +kernel
theorem dX11_usesKnownWords_4 : decode cX11_usesKnownWords 4 = .ok (.lstore_n 2, 1) := by decide +kernel
theorem dX11_usesKnownWords_5 : decode cX11_usesKnownWords 5 = .ok (.aload_n 0, 1) := by decide +kernel
theorem dX11_usesKnownWords_6 : decode cX11_usesKnownWords 6 = .ok (.getfield 606, 3) := by decide +kernel
theorem dX11_usesKnownWords_9 : decode cX11_usesKnownWords 9 = .ok (.getfield 592, 3) := by decide +kernel
theorem dX11_usesKnownWords_12 : decode cX11_usesKnownWords 12 = .ok (.istore 4, 2) := by decide +kernel
theorem dX11_usesKnownWords_14 : decode cX11_usesKnownWords 14 = .ok (.iload 4, 2) := by decide +kernel
theorem dX11_usesKnownWords_16 : decode cX11_usesKnownWords 16 = .ok (.iconst 1, 1) := by decide +kernel
theorem dX11_usesKnownWords_17 : decode cX11_usesKnownWords 17 = .ok (.if_icmp .lt 14, 3) := by decide +kernel
theorem dX11_usesKnownWords_20 : decode cX11_usesKnownWords 20 = .ok (.lload_n 2, 1) := by decide +kernel
theorem dX11_usesKnownWords_21 : decode cX11_usesKnownWords 21 = .ok (.aload_n 0, 1) := by decide +kernel
theorem dX11_usesKnownWords_22 : decode cX11_usesKnownWords 22 = .ok (.getfield 609, 3) := by decide +kernel
theorem dX11_usesKnownWords_25 : decode cX11_usesKnownWords 25 = .ok (.invokestatic 220, 3) := by decide +kernel
theorem dX11_usesKnownWords_28 : decode cX11_usesKnownWords 28 = .ok (.ifCond .eq 24, 3) := by decide +kernel
theorem dX11_usesKnownWords_31 : decode cX11_usesKnownWords 31 = .ok (.iload 4, 2) := by decide +kernel
theorem dX11_usesKnownWords_33 : decode cX11_usesKnownWords 33 = .ok (.iconst 2, 1) := by decide +kernel
theorem dX11_usesKnownWords_34 : decode cX11_usesKnownWords 34 = .ok (.if_icmp .lt 14, 3) := by decide +kernel
theorem dX11_usesKnownWords_37 : decode cX11_usesKnownWords 37 = .ok (.lload_n 2, 1) := by decide +kernel
theorem dX11_usesKnownWords_38 : decode cX11_usesKnownWords 38 = .ok (.aload_n 0, 1) := by decide +kernel
theorem dX11_usesKnownWords_39 : decode cX11_usesKnownWords 39 = .ok (.getfield 612, 3) := by decide +kernel
theorem dX11_usesKnownWords_42 : decode cX11_usesKnownWords 42 = .ok (.invokestatic 220, 3) := by decide +kernel
theorem dX11_usesKnownWords_45 : decode cX11_usesKnownWords 45 = .ok (.ifCond .eq 7, 3) := by decide +kernel
theorem dX11_usesKnownWords_48 : decode cX11_usesKnownWords 48 = .ok (.iconst 1, 1) := by decide +kernel
theorem dX11_usesKnownWords_49 : decode cX11_usesKnownWords 49 = .ok (.goto 4, 3) := by decide +kernel
theorem dX11_usesKnownWords_52 : decode cX11_usesKnownWords 52 = .ok (.iconst 0, 1) := by decide +kernel
theorem dX11_usesKnownWords_53 : decode cX11_usesKnownWords 53 = .ok (.ireturn, 1) := by decide +kernel
theorem dX11_follow_0 : decode cX11_follow 0 = .ok (.aload_n 0, 1) := by decide +kernel
theorem dX11_follow_1 : decode cX11_follow 1 = .ok (.getfield 41, 3) := by decide +kernel
theorem dX11_follow_4 : decode cX11_follow 4 = .ok (.aload_n 1, 1) := by decide +kernel
theorem dX11_follow_5 : decode cX11_follow 5 = .ok (.invokevirtual 539, 3) := by decide +kernel
theorem dX11_follow_8 : decode cX11_follow 8 = .ok (.istore_n 2, 1) := by decide +kernel
theorem dX11_follow_9 : decode cX11_follow 9 = .ok (.iload_n 2, 1) := by decide +kernel
theorem dX11_follow_10 : decode cX11_follow 10 = .ok (.iconst (-1), 1) := by decide +kernel
theorem dX11_follow_11 : decode cX11_follow 11 = .ok (.if_icmp .ne 47, 3) := by decide +kernel
theorem dX11_follow_14 : decode cX11_follow 14 = .ok (.aload_n 0, 1) := by decide +kernel
theorem dX11_follow_15 : decode cX11_follow 15 = .ok (.getfield 34, 3) := by decide +kernel
theorem dX11_follow_18 : decode cX11_follow 18 = .ok (.aload_n 0, 1) := by decide +kernel
theorem dX11_follow_19 : decode cX11_follow 19 = .ok (.getfield 55, 3) := by decide +kernel
theorem dX11_follow_22 : decode cX11_follow 22 = .ok (.invokevirtual 615, 3) := by decide +kernel
theorem dX11_follow_25 : decode cX11_follow 25 = .ok (.aload_n 0, 1) := by decide +kernel
theorem dX11_follow_26 : decode cX11_follow 26 = .ok (.getfield 41, 3) := by decide +kernel
theorem dX11_follow_29 : decode cX11_follow 29 = .ok (.aload_n 1, 1) := by decide +kernel
theorem dX11_follow_30 : decode cX11_follow 30 = .ok (.aload_n 0, 1) := by decide +kernel
theorem dX11_follow_31 : decode cX11_follow 31 = .ok (.getfield 55, 3) := by decide +kernel
theorem dX11_follow_34 : decode cX11_follow 34 = .ok (.aload_n 0, 1) := by decide +kernel
theorem dX11_follow_35 : decode cX11_follow 35 = .ok (.getfield 34, 3) := by decide +kernel
theorem dX11_follow_38 : decode cX11_follow 38 = .ok (.aload_n 0, 1) := by decide +kernel
theorem dX11_follow_39 : decode cX11_follow 39 = .ok (.getfield 55, 3) := by decide +kernel
theorem dX11_follow_42 : decode cX11_follow 42 = .ok (.invokevirtual 249, 3) := by decide +kernel
theorem dX11_follow_45 : decode cX11_follow 45 = .ok (.aload_n 0, 1) := by decide +kernel
theorem dX11_follow_46 : decode cX11_follow 46 = .ok (.aload_n 1, 1) := by decide +kernel
theorem dX11_follow_47 : decode cX11_follow 47 = .ok (.invokevirtual 618, 3) := by decide +kernel
theorem dX11_follow_50 : decode cX11_follow 50 = .ok (.lor, 1) := by decide +kernel
theorem dX11_follow_51 : decode cX11_follow 51 = .ok (.invokevirtual 253, 3) := by decide +kernel
theorem dX11_follow_54 : decode cX11_follow 54 = .ok (.getfield 325, 3) := by decide +kernel
theorem dX11_follow_57 : decode cX11_follow 57 = .ok (.istore_n 2, 1) := by decide +kernel
theorem dX11_follow_58 : decode cX11_follow 58 = .ok (.aload_n 0, 1) := by decide +kernel
theorem dX11_follow_59 : decode cX11_follow 59 = .ok (.getfield 41, 3) := by decide +kernel
theorem dX11_follow_62 : decode cX11_follow 62 = .ok (.iload_n 2, 1) := by decide +kernel
theorem dX11_follow_63 : decode cX11_follow 63 = .ok (.putfield 300, 3) := by decide +kernel
theorem dX11_follow_66 : decode cX11_follow 66 = .ok (.return_, 1) := by decide +kernel
theorem dX11_wordsBeside_0 : decode cX11_wordsBeside 0 = .ok (.getstatic 622, 3) := by decide +kernel
theorem dX11_wordsBeside_3 : decode cX11_wordsBeside 3 = .ok (.aload_n 1, 1) := by decide +kernel
theorem dX11_wordsBeside_4 : decode cX11_wordsBeside 4 = .ok (.getfield 606, 3) := by decide +kernel
theorem dX11_wordsBeside_7 : decode cX11_wordsBeside 7 = .ok (.invokevirtual 627, 3) := by decide +kernel
theorem dX11_wordsBeside_10 : decode cX11_wordsBeside 10 = .ok (.iaload, 1) := by decide +kernel
theorem dX11_wordsBeside_11 : decode cX11_wordsBeside 11 = .ok (.tableswitch 69 7 9 #[25, 56, 56], 25) := by decide +kernel
theorem dX11_wordsBeside_36 : decode cX11_wordsBeside 36 = .ok (.aload_n 0, 1) := by decide +kernel
theorem dX11_wordsBeside_37 : decode cX11_wordsBeside 37 = .ok (.getfield 25, 3) := by decide +kernel
theorem dX11_wordsBeside_40 : decode cX11_wordsBeside 40 = .ok (.aload_n 1, 1) := by decide +kernel
theorem dX11_wordsBeside_41 : decode cX11_wordsBeside 41 = .ok (.getfield 609, 3) := by decide +kernel
theorem dX11_wordsBeside_44 : decode cX11_wordsBeside 44 = .ok (.invokevirtual 157, 3) := by decide +kernel
theorem dX11_wordsBeside_47 : decode cX11_wordsBeside 47 = .ok (.istore_n 2, 1) := by decide +kernel
theorem dX11_wordsBeside_48 : decode cX11_wordsBeside 48 = .ok (.iload_n 2, 1) := by decide +kernel
theorem dX11_wordsBeside_49 : decode cX11_wordsBeside 49 = .ok (.iconst (-1), 1) := by decide +kernel
theorem dX11_wordsBeside_50 : decode cX11_wordsBeside 50 = .ok (.if_icmp .ne 7, 3) := by decide +kernel
theorem dX11_wordsBeside_53 : decode cX11_wordsBeside 53 = .ok (.lconst 0, 1) := by decide +kernel
theorem dX11_wordsBeside_54 : decode cX11_wordsBeside 54 = .ok (.goto 12, 3) := by decide +kernel
theorem dX11_wordsBeside_57 : decode cX11_wordsBeside 57 = .ok (.aload_n 0, 1) := by decide +kernel
theorem dX11_wordsBeside_58 : decode cX11_wordsBeside 58 = .ok (.getfield 25, 3) := by decide +kernel
theorem dX11_wordsBeside_61 : decode cX11_wordsBeside 61 = .ok (.getfield 190, 3) := by decide +kernel
theorem dX11_wordsBeside_64 : decode cX11_wordsBeside 64 = .ok (.iload_n 2, 1) := by decide +kernel
theorem dX11_wordsBeside_65 : decode cX11_wordsBeside 65 = .ok (.laload, 1) := by decide +kernel
theorem dX11_wordsBeside_66 : decode cX11_wordsBeside 66 = .ok (.lreturn, 1) := by decide +kernel
theorem dX11_wordsBeside_67 : decode cX11_wordsBeside 67 = .ok (.aload_n 0, 1) := by decide +kernel
theorem dX11_wordsBeside_68 : decode cX11_wordsBeside 68 = .ok (.getfield 48, 3) := by decide +kernel
theorem dX11_wordsBeside_71 : decode cX11_wordsBeside 71 = .ok (.getfield 217, 3) := by decide +kernel
theorem dX11_wordsBeside_74 : decode cX11_wordsBeside 74 = .ok (.aload_n 1, 1) := by decide +kernel
theorem dX11_wordsBeside_75 : decode cX11_wordsBeside 75 = .ok (.getfield 609, 3) := by decide +kernel
theorem dX11_wordsBeside_78 : decode cX11_wordsBeside 78 = .ok (.laload, 1) := by decide +kernel
theorem dX11_wordsBeside_79 : decode cX11_wordsBeside 79 = .ok (.lreturn, 1) := by decide +kernel
theorem dX11_wordsBeside_80 : decode cX11_wordsBeside 80 = .ok (.lconst 0, 1) := by decide +kernel
theorem dX11_wordsBeside_81 : decode cX11_wordsBeside 81 = .ok (.lreturn, 1) := by decide +kernel
theorem dX11_writeLine_0 : decode cX11_writeLine 0 = .ok (.aload_n 0, 1) := by decide +kernel
theorem dX11_writeLine_1 : decode cX11_writeLine 1 = .ok (.getfield 62, 3) := by decide +kernel
theorem dX11_writeLine_4 : decode cX11_writeLine 4 = .ok (.iconst 0, 1) := by decide +kernel
theorem dX11_writeLine_5 : decode cX11_writeLine 5 = .ok (.invokevirtual 630, 3) := by decide +kernel
theorem dX11_writeLine_8 : decode cX11_writeLine 8 = .ok (.aload_n 0, 1) := by decide +kernel
theorem dX11_writeLine_9 : decode cX11_writeLine 9 = .ok (.getfield 41, 3) := by decide +kernel
theorem dX11_writeLine_12 : decode cX11_writeLine 12 = .ok (.invokevirtual 338, 3) := by decide +kernel
theorem dX11_writeLine_15 : decode cX11_writeLine 15 = .ok (.astore_n 1, 1) := by decide +kernel
theorem dX11_writeLine_16 : decode cX11_writeLine 16 = .ok (.aload_n 0, 1) := by decide +kernel
theorem dX11_writeLine_17 : decode cX11_writeLine 17 = .ok (.aload_n 1, 1) := by decide +kernel
theorem dX11_writeLine_18 : decode cX11_writeLine 18 = .ok (.getfield 633, 3) := by decide +kernel
theorem dX11_writeLine_21 : decode cX11_writeLine 21 = .ok (.invokevirtual 637, 3) := by decide +kernel
theorem dX11_writeLine_24 : decode cX11_writeLine 24 = .ok (.aload_n 0, 1) := by decide +kernel
theorem dX11_writeLine_25 : decode cX11_writeLine 25 = .ok (.getfield 62, 3) := by decide +kernel
theorem dX11_writeLine_28 : decode cX11_writeLine 28 = .ok (.bipush 58, 2) := by decide +kernel
theorem dX11_writeLine_30 : decode cX11_writeLine 30 = .ok (.invokevirtual 640, 3) := by decide +kernel
theorem dX11_writeLine_33 : decode cX11_writeLine 33 = .ok (.pop, 1) := by decide +kernel
theorem dX11_writeLine_34 : decode cX11_writeLine 34 = .ok (.iconst 0, 1) := by decide +kernel
theorem dX11_writeLine_35 : decode cX11_writeLine 35 = .ok (.istore_n 2, 1) := by decide +kernel
theorem dX11_writeLine_36 : decode cX11_writeLine 36 = .ok (.iload_n 2, 1) := by decide +kernel
theorem dX11_writeLine_37 : decode cX11_writeLine 37 = .ok (.aload_n 0, 1) := by decide +kernel
theorem dX11_writeLine_38 : decode cX11_writeLine 38 = .ok (.getfield 25, 3) := by decide +kernel
theorem dX11_writeLine_41 : decode cX11_writeLine 41 = .ok (.getfield 163, 3) := by decide +kernel
theorem dX11_writeLine_44 : decode cX11_writeLine 44 = .ok (.if_icmp .ge 36, 3) := by decide +kernel
theorem dX11_writeLine_47 : decode cX11_writeLine 47 = .ok (.aload_n 1, 1) := by decide +kernel
theorem dX11_writeLine_48 : decode cX11_writeLine 48 = .ok (.getfield 408, 3) := by decide +kernel
theorem dX11_writeLine_51 : decode cX11_writeLine 51 = .ok (.getfield 285, 3) := by decide +kernel
theorem dX11_writeLine_54 : decode cX11_writeLine 54 = .ok (.iload_n 2, 1) := by decide +kernel
theorem dX11_writeLine_55 : decode cX11_writeLine 55 = .ok (.iaload, 1) := by decide +kernel
theorem dX11_writeLine_56 : decode cX11_writeLine 56 = .ok (.bipush 100, 2) := by decide +kernel
theorem dX11_writeLine_58 : decode cX11_writeLine 58 = .ok (.if_icmp .ne 16, 3) := by decide +kernel
theorem dX11_writeLine_61 : decode cX11_writeLine 61 = .ok (.aload_n 0, 1) := by decide +kernel
theorem dX11_writeLine_62 : decode cX11_writeLine 62 = .ok (.aload_n 0, 1) := by decide +kernel
theorem dX11_writeLine_63 : decode cX11_writeLine 63 = .ok (.getfield 25, 3) := by decide +kernel
theorem dX11_writeLine_66 : decode cX11_writeLine 66 = .ok (.getfield 168, 3) := by decide +kernel
theorem dX11_writeLine_69 : decode cX11_writeLine 69 = .ok (.iload_n 2, 1) := by decide +kernel
theorem dX11_writeLine_70 : decode cX11_writeLine 70 = .ok (.iaload, 1) := by decide +kernel
theorem dX11_writeLine_71 : decode cX11_writeLine 71 = .ok (.invokevirtual 644, 3) := by decide +kernel
theorem dX11_writeLine_74 : decode cX11_writeLine 74 = .ok (.iinc 2 1, 3) := by decide +kernel
theorem dX11_writeLine_77 : decode cX11_writeLine 77 = .ok (.goto (-41), 3) := by decide +kernel
theorem dX11_writeLine_80 : decode cX11_writeLine 80 = .ok (.return_, 1) := by decide +kernel
theorem dX11_writeCommand_0 : decode cX11_writeCommand 0 = .ok (.aload_n 0, 1) := by decide +kernel
theorem dX11_writeCommand_1 : decode cX11_writeCommand 1 = .ok (.getfield 62, 3) := by decide +kernel
theorem dX11_writeCommand_4 : decode cX11_writeCommand 4 = .ok (.aload_n 1, 1) := by decide +kernel
theorem dX11_writeCommand_5 : decode cX11_writeCommand 5 = .ok (.getfield 606, 3) := by decide +kernel
theorem dX11_writeCommand_8 : decode cX11_writeCommand 8 = .ok (.getfield 569, 3) := by decide +kernel
theorem dX11_writeCommand_11 : decode cX11_writeCommand 11 = .ok (.invokevirtual 647, 3) := by decide +kernel
theorem dX11_writeCommand_14 : decode cX11_writeCommand 14 = .ok (.pop, 1) := by decide +kernel
theorem dX11_writeCommand_15 : decode cX11_writeCommand 15 = .ok (.getstatic 622, 3) := by decide +kernel
theorem dX11_writeCommand_18 : decode cX11_writeCommand 18 = .ok (.aload_n 1, 1) := by decide +kernel
theorem dX11_writeCommand_19 : decode cX11_writeCommand 19 = .ok (.getfield 606, 3) := by decide +kernel
theorem dX11_writeCommand_22 : decode cX11_writeCommand 22 = .ok (.invokevirtual 627, 3) := by decide +kernel
theorem dX11_writeCommand_25 : decode cX11_writeCommand 25 = .ok (.iaload, 1) := by decide +kernel
theorem dX11_writeCommand_26 : decode cX11_writeCommand 26 = .ok (.tableswitch 125 8 15 #[75, 75, 46, 46, 46, 49, 75, 95], 46) := by decide +kernel
theorem dX11_writeCommand_72 : decode cX11_writeCommand 72 = .ok (.goto 87, 3) := by decide +kernel
theorem dX11_writeCommand_75 : decode cX11_writeCommand 75 = .ok (.aload_n 0, 1) := by decide +kernel
theorem dX11_writeCommand_76 : decode cX11_writeCommand 76 = .ok (.getfield 62, 3) := by decide +kernel
theorem dX11_writeCommand_79 : decode cX11_writeCommand 79 = .ok (.bipush 32, 2) := by decide +kernel
theorem dX11_writeCommand_81 : decode cX11_writeCommand 81 = .ok (.invokevirtual 640, 3) := by decide +kernel
theorem dX11_writeCommand_84 : decode cX11_writeCommand 84 = .ok (.ldc_w 545, 3) := by decide +kernel
theorem dX11_writeCommand_87 : decode cX11_writeCommand 87 = .ok (.aload_n 1, 1) := by decide +kernel
theorem dX11_writeCommand_88 : decode cX11_writeCommand 88 = .ok (.getfield 609, 3) := by decide +kernel
theorem dX11_writeCommand_91 : decode cX11_writeCommand 91 = .ok (.invokevirtual 650, 3) := by decide +kernel
theorem dX11_writeCommand_94 : decode cX11_writeCommand 94 = .ok (.invokevirtual 640, 3) := by decide +kernel
theorem dX11_writeCommand_97 : decode cX11_writeCommand 97 = .ok (.pop, 1) := by decide +kernel
theorem dX11_writeCommand_98 : decode cX11_writeCommand 98 = .ok (.goto 61, 3) := by decide +kernel
theorem dX11_writeCommand_101 : decode cX11_writeCommand 101 = .ok (.aload_n 0, 1) := by decide +kernel
theorem dX11_writeCommand_102 : decode cX11_writeCommand 102 = .ok (.getfield 62, 3) := by decide +kernel
theorem dX11_writeCommand_105 : decode cX11_writeCommand 105 = .ok (.bipush 32, 2) := by decide +kernel
theorem dX11_writeCommand_107 : decode cX11_writeCommand 107 = .ok (.invokevirtual 640, 3) := by decide +kernel
theorem dX11_writeCommand_110 : decode cX11_writeCommand 110 = .ok (.aload_n 1, 1) := by decide +kernel
theorem dX11_writeCommand_111 : decode cX11_writeCommand 111 = .ok (.getfield 609, 3) := by decide +kernel
theorem dX11_writeCommand_114 : decode cX11_writeCommand 114 = .ok (.invokevirtual 651, 3) := by decide +kernel
theorem dX11_writeCommand_117 : decode cX11_writeCommand 117 = .ok (.pop, 1) := by decide +kernel
theorem dX11_writeCommand_118 : decode cX11_writeCommand 118 = .ok (.goto 41, 3) := by decide +kernel
theorem dX11_writeCommand_121 : decode cX11_writeCommand 121 = .ok (.aload_n 0, 1) := by decide +kernel
theorem dX11_writeCommand_122 : decode cX11_writeCommand 122 = .ok (.aload_n 1, 1) := by decide +kernel
theorem dX11_writeCommand_123 : decode cX11_writeCommand 123 = .ok (.getfield 609, 3) := by decide +kernel
theorem dX11_writeCommand_126 : decode cX11_writeCommand 126 = .ok (.invokevirtual 644, 3) := by decide +kernel
theorem dX11_writeCommand_129 : decode cX11_writeCommand 129 = .ok (.aload_n 0, 1) := by decide +kernel
theorem dX11_writeCommand_130 : decode cX11_writeCommand 130 = .ok (.getfield 62, 3) := by decide +kernel
theorem dX11_writeCommand_133 : decode cX11_writeCommand 133 = .ok (.ldc_w 654, 3) := by decide +kernel
theorem dX11_writeCommand_136 : decode cX11_writeCommand 136 = .ok (.invokevirtual 647, 3) := by decide +kernel
theorem dX11_writeCommand_139 : decode cX11_writeCommand 139 = .ok (.pop, 1) := by decide +kernel
theorem dX11_writeCommand_140 : decode cX11_writeCommand 140 = .ok (.aload_n 0, 1) := by decide +kernel
theorem dX11_writeCommand_141 : decode cX11_writeCommand 141 = .ok (.aload_n 1, 1) := by decide +kernel
theorem dX11_writeCommand_142 : decode cX11_writeCommand 142 = .ok (.getfield 612, 3) := by decide +kernel
theorem dX11_writeCommand_145 : decode cX11_writeCommand 145 = .ok (.invokevirtual 644, 3) := by decide +kernel
theorem dX11_writeCommand_148 : decode cX11_writeCommand 148 = .ok (.goto 11, 3) := by decide +kernel
theorem dX11_writeCommand_151 : decode cX11_writeCommand 151 = .ok (.aload_n 0, 1) := by decide +kernel
theorem dX11_writeCommand_152 : decode cX11_writeCommand 152 = .ok (.aload_n 1, 1) := by decide +kernel
theorem dX11_writeCommand_153 : decode cX11_writeCommand 153 = .ok (.getfield 609, 3) := by decide +kernel
theorem dX11_writeCommand_156 : decode cX11_writeCommand 156 = .ok (.invokevirtual 644, 3) := by decide +kernel
theorem dX11_writeCommand_159 : decode cX11_writeCommand 159 = .ok (.return_, 1) := by decide +kernel
theorem dX11_writeWord_0 : decode cX11_writeWord 0 = .ok (.aload_n 0, 1) := by decide +kernel
theorem dX11_writeWord_1 : decode cX11_writeWord 1 = .ok (.getfield 62, 3) := by decide +kernel
theorem dX11_writeWord_4 : decode cX11_writeWord 4 = .ok (.bipush 32, 2) := by decide +kernel
theorem dX11_writeWord_6 : decode cX11_writeWord 6 = .ok (.invokevirtual 640, 3) := by decide +kernel
theorem dX11_writeWord_9 : decode cX11_writeWord 9 = .ok (.pop, 1) := by decide +kernel
theorem dX11_writeWord_10 : decode cX11_writeWord 10 = .ok (.bipush 7, 2) := by decide +kernel
theorem dX11_writeWord_12 : decode cX11_writeWord 12 = .ok (.istore_n 2, 1) := by decide +kernel
theorem dX11_writeWord_13 : decode cX11_writeWord 13 = .ok (.iload_n 2, 1) := by decide +kernel
theorem dX11_writeWord_14 : decode cX11_writeWord 14 = .ok (.ifCond .lt 46, 3) := by decide +kernel
theorem dX11_writeWord_17 : decode cX11_writeWord 17 = .ok (.aload_n 0, 1) := by decide +kernel
theorem dX11_writeWord_18 : decode cX11_writeWord 18 = .ok (.getfield 25, 3) := by decide +kernel
theorem dX11_writeWord_21 : decode cX11_writeWord 21 = .ok (.getfield 106, 3) := by decide +kernel
theorem dX11_writeWord_24 : decode cX11_writeWord 24 = .ok (.iload_n 1, 1) := by decide +kernel
theorem dX11_writeWord_25 : decode cX11_writeWord 25 = .ok (.laload, 1) := by decide +kernel
theorem dX11_writeWord_26 : decode cX11_writeWord 26 = .ok (.iload_n 2, 1) := by decide +kernel
theorem dX11_writeWord_27 : decode cX11_writeWord 27 = .ok (.iconst 5, 1) := by decide +kernel
theorem dX11_writeWord_28 : decode cX11_writeWord 28 = .ok (.imul, 1) := by decide +kernel
theorem dX11_writeWord_29 : decode cX11_writeWord 29 = .ok (.lshr, 1) := by decide +kernel
theorem dX11_writeWord_30 : decode cX11_writeWord 30 = .ok (.l2i, 1) := by decide +kernel
theorem dX11_writeWord_31 : decode cX11_writeWord 31 = .ok (.bipush 31, 2) := by decide +kernel
theorem dX11_writeWord_33 : decode cX11_writeWord 33 = .ok (.iand, 1) := by decide +kernel
theorem dX11_writeWord_34 : decode cX11_writeWord 34 = .ok (.istore_n 3, 1) := by decide +kernel
theorem dX11_writeWord_35 : decode cX11_writeWord 35 = .ok (.iload_n 3, 1) := by decide +kernel
theorem dX11_writeWord_36 : decode cX11_writeWord 36 = .ok (.ifCond .eq 18, 3) := by decide +kernel
theorem dX11_writeWord_39 : decode cX11_writeWord 39 = .ok (.aload_n 0, 1) := by decide +kernel
theorem dX11_writeWord_40 : decode cX11_writeWord 40 = .ok (.getfield 62, 3) := by decide +kernel
theorem dX11_writeWord_43 : decode cX11_writeWord 43 = .ok (.bipush 97, 2) := by decide +kernel
theorem dX11_writeWord_45 : decode cX11_writeWord 45 = .ok (.iload_n 3, 1) := by decide +kernel
theorem dX11_writeWord_46 : decode cX11_writeWord 46 = .ok (.iadd, 1) := by decide +kernel
theorem dX11_writeWord_47 : decode cX11_writeWord 47 = .ok (.iconst 1, 1) := by decide +kernel
theorem dX11_writeWord_48 : decode cX11_writeWord 48 = .ok (.isub, 1) := by decide +kernel
theorem dX11_writeWord_49 : decode cX11_writeWord 49 = .ok (.i2c, 1) := by decide +kernel
theorem dX11_writeWord_50 : decode cX11_writeWord 50 = .ok (.invokevirtual 640, 3) := by decide +kernel
theorem dX11_writeWord_53 : decode cX11_writeWord 53 = .ok (.pop, 1) := by decide +kernel
theorem dX11_writeWord_54 : decode cX11_writeWord 54 = .ok (.iinc 2 (-1), 3) := by decide +kernel
theorem dX11_writeWord_57 : decode cX11_writeWord 57 = .ok (.goto (-44), 3) := by decide +kernel
theorem dX11_writeWord_60 : decode cX11_writeWord 60 = .ok (.return_, 1) := by decide +kernel
theorem dX11_isSameAnew_0 : decode cX11_isSameAnew 0 = .ok (.aload_n 1, 1) := by decide +kernel
theorem dX11_isSameAnew_1 : decode cX11_isSameAnew 1 = .ok (.getfield 316, 3) := by decide +kernel
theorem dX11_isSameAnew_4 : decode cX11_isSameAnew 4 = .ok (.ifnonnull 33, 3) := by decide +kernel
theorem dX11_isSameAnew_7 : decode cX11_isSameAnew 7 = .ok (.aload_n 0, 1) := by decide +kernel
theorem dX11_isSameAnew_8 : decode cX11_isSameAnew 8 = .ok (.getfield 34, 3) := by decide +kernel
theorem dX11_isSameAnew_11 : decode cX11_isSameAnew 11 = .ok (.aload_n 0, 1) := by decide +kernel
theorem dX11_isSameAnew_12 : decode cX11_isSameAnew 12 = .ok (.getfield 55, 3) := by decide +kernel
theorem dX11_isSameAnew_15 : decode cX11_isSameAnew 15 = .ok (.aload_n 1, 1) := by decide +kernel
theorem dX11_isSameAnew_16 : decode cX11_isSameAnew 16 = .ok (.getfield 633, 3) := by decide +kernel
theorem dX11_isSameAnew_19 : decode cX11_isSameAnew 19 = .ok (.getfield 609, 3) := by decide +kernel
theorem dX11_isSameAnew_22 : decode cX11_isSameAnew 22 = .ok (.invokevirtual 234, 3) := by decide +kernel
theorem dX11_isSameAnew_25 : decode cX11_isSameAnew 25 = .ok (.aload_n 0, 1) := by decide +kernel
theorem dX11_isSameAnew_26 : decode cX11_isSameAnew 26 = .ok (.getfield 55, 3) := by decide +kernel
theorem dX11_isSameAnew_29 : decode cX11_isSameAnew 29 = .ok (.aload_n 1, 1) := by decide +kernel
theorem dX11_isSameAnew_30 : decode cX11_isSameAnew 30 = .ok (.getfield 408, 3) := by decide +kernel
theorem dX11_isSameAnew_33 : decode cX11_isSameAnew 33 = .ok (.invokevirtual 656, 3) := by decide +kernel
theorem dX11_isSameAnew_36 : decode cX11_isSameAnew 36 = .ok (.ireturn, 1) := by decide +kernel
theorem dX11_isSameAnew_37 : decode cX11_isSameAnew 37 = .ok (.aload_n 0, 1) := by decide +kernel
theorem dX11_isSameAnew_38 : decode cX11_isSameAnew 38 = .ok (.getfield 55, 3) := by decide +kernel
theorem dX11_isSameAnew_41 : decode cX11_isSameAnew 41 = .ok (.aload_n 1, 1) := by decide +kernel
theorem dX11_isSameAnew_42 : decode cX11_isSameAnew 42 = .ok (.getfield 316, 3) := by decide +kernel
theorem dX11_isSameAnew_45 : decode cX11_isSameAnew 45 = .ok (.getfield 408, 3) := by decide +kernel
theorem dX11_isSameAnew_48 : decode cX11_isSameAnew 48 = .ok (.invokevirtual 411, 3) := by decide +kernel
theorem dX11_isSameAnew_51 : decode cX11_isSameAnew 51 = .ok (.aload_n 1, 1) := by decide +kernel
theorem dX11_isSameAnew_52 : decode cX11_isSameAnew 52 = .ok (.getfield 633, 3) := by decide +kernel
theorem dX11_isSameAnew_55 : decode cX11_isSameAnew 55 = .ok (.aload_n 1, 1) := by decide +kernel
theorem dX11_isSameAnew_56 : decode cX11_isSameAnew 56 = .ok (.getfield 316, 3) := by decide +kernel
theorem dX11_isSameAnew_59 : decode cX11_isSameAnew 59 = .ok (.invokestatic 598, 3) := by decide +kernel
theorem dX11_isSameAnew_62 : decode cX11_isSameAnew 62 = .ok (.ifCond .eq 14, 3) := by decide +kernel
theorem dX11_isSameAnew_65 : decode cX11_isSameAnew 65 = .ok (.aload_n 0, 1) := by decide +kernel
theorem dX11_isSameAnew_66 : decode cX11_isSameAnew 66 = .ok (.aload_n 1, 1) := by decide +kernel
theorem dX11_isSameAnew_67 : decode cX11_isSameAnew 67 = .ok (.getfield 633, 3) := by decide +kernel
theorem dX11_isSameAnew_70 : decode cX11_isSameAnew 70 = .ok (.invokevirtual 659, 3) := by decide +kernel
theorem dX11_isSameAnew_73 : decode cX11_isSameAnew 73 = .ok (.ifCond .ne 5, 3) := by decide +kernel
theorem dX11_isSameAnew_76 : decode cX11_isSameAnew 76 = .ok (.iconst 0, 1) := by decide +kernel
theorem dX11_isSameAnew_77 : decode cX11_isSameAnew 77 = .ok (.ireturn, 1) := by decide +kernel
theorem dX11_isSameAnew_78 : decode cX11_isSameAnew 78 = .ok (.aload_n 0, 1) := by decide +kernel
theorem dX11_isSameAnew_79 : decode cX11_isSameAnew 79 = .ok (.getfield 34, 3) := by decide +kernel
theorem dX11_isSameAnew_82 : decode cX11_isSameAnew 82 = .ok (.aload_n 0, 1) := by decide +kernel
theorem dX11_isSameAnew_83 : decode cX11_isSameAnew 83 = .ok (.getfield 55, 3) := by decide +kernel
theorem dX11_isSameAnew_86 : decode cX11_isSameAnew 86 = .ok (.invokevirtual 615, 3) := by decide +kernel
theorem dX11_isSameAnew_89 : decode cX11_isSameAnew 89 = .ok (.aload_n 0, 1) := by decide +kernel
theorem dX11_isSameAnew_90 : decode cX11_isSameAnew 90 = .ok (.getfield 55, 3) := by decide +kernel
theorem dX11_isSameAnew_93 : decode cX11_isSameAnew 93 = .ok (.aload_n 1, 1) := by decide +kernel
theorem dX11_isSameAnew_94 : decode cX11_isSameAnew 94 = .ok (.getfield 408, 3) := by decide +kernel
theorem dX11_isSameAnew_97 : decode cX11_isSameAnew 97 = .ok (.invokevirtual 656, 3) := by decide +kernel
theorem dX11_isSameAnew_100 : decode cX11_isSameAnew 100 = .ok (.ireturn, 1) := by decide +kernel
theorem dX11_canDoAnew_0 : decode cX11_canDoAnew 0 = .ok (.getstatic 622, 3) := by decide +kernel
theorem dX11_canDoAnew_3 : decode cX11_canDoAnew 3 = .ok (.aload_n 1, 1) := by decide +kernel
theorem dX11_canDoAnew_4 : decode cX11_canDoAnew 4 = .ok (.getfield 606, 3) := by decide +kernel
theorem dX11_canDoAnew_7 : decode cX11_canDoAnew 7 = .ok (.invokevirtual 627, 3) := by decide +kernel
theorem dX11_canDoAnew_10 : decode cX11_canDoAnew 10 = .ok (.iaload, 1) := by decide +kernel
theorem dX11_canDoAnew_11 : decode cX11_canDoAnew 11 = .ok (.lookupswitch 89 #[(8, 33), (9, 33), (14, 35)], 33) := by decide +kernel
theorem dX11_canDoAnew_44 : decode cX11_canDoAnew 44 = .ok (.iconst 1, 1) := by decide +kernel
theorem dX11_canDoAnew_45 : decode cX11_canDoAnew 45 = .ok (.ireturn, 1) := by decide +kernel
theorem dX11_canDoAnew_46 : decode cX11_canDoAnew 46 = .ok (.aload_n 0, 1) := by decide +kernel
theorem dX11_canDoAnew_47 : decode cX11_canDoAnew 47 = .ok (.getfield 41, 3) := by decide +kernel
theorem dX11_canDoAnew_50 : decode cX11_canDoAnew 50 = .ok (.aload_n 1, 1) := by decide +kernel
theorem dX11_canDoAnew_51 : decode cX11_canDoAnew 51 = .ok (.getfield 609, 3) := by decide +kernel
theorem dX11_canDoAnew_54 : decode cX11_canDoAnew 54 = .ok (.invokevirtual 554, 3) := by decide +kernel
theorem dX11_canDoAnew_57 : decode cX11_canDoAnew 57 = .ok (.ifCond .eq 41, 3) := by decide +kernel
theorem dX11_canDoAnew_60 : decode cX11_canDoAnew 60 = .ok (.aload_n 0, 1) := by decide +kernel
theorem dX11_canDoAnew_61 : decode cX11_canDoAnew 61 = .ok (.getfield 34, 3) := by decide +kernel
theorem dX11_canDoAnew_64 : decode cX11_canDoAnew 64 = .ok (.aload_n 0, 1) := by decide +kernel
theorem dX11_canDoAnew_65 : decode cX11_canDoAnew 65 = .ok (.getfield 55, 3) := by decide +kernel
theorem dX11_canDoAnew_68 : decode cX11_canDoAnew 68 = .ok (.aload_n 0, 1) := by decide +kernel
theorem dX11_canDoAnew_69 : decode cX11_canDoAnew 69 = .ok (.getfield 41, 3) := by decide +kernel
theorem dX11_canDoAnew_72 : decode cX11_canDoAnew 72 = .ok (.getfield 303, 3) := by decide +kernel
theorem dX11_canDoAnew_75 : decode cX11_canDoAnew 75 = .ok (.aload_n 1, 1) := by decide +kernel
theorem dX11_canDoAnew_76 : decode cX11_canDoAnew 76 = .ok (.getfield 609, 3) := by decide +kernel
theorem dX11_canDoAnew_79 : decode cX11_canDoAnew 79 = .ok (.invokevirtual 448, 3) := by decide +kernel
theorem dX11_canDoAnew_82 : decode cX11_canDoAnew 82 = .ok (.checkcast 2, 3) := by decide +kernel
theorem dX11_canDoAnew_85 : decode cX11_canDoAnew 85 = .ok (.getfield 408, 3) := by decide +kernel
theorem dX11_canDoAnew_88 : decode cX11_canDoAnew 88 = .ok (.invokevirtual 463, 3) := by decide +kernel
theorem dX11_canDoAnew_91 : decode cX11_canDoAnew 91 = .ok (.ifCond .le 7, 3) := by decide +kernel
theorem dX11_canDoAnew_94 : decode cX11_canDoAnew 94 = .ok (.iconst 1, 1) := by decide +kernel
theorem dX11_canDoAnew_95 : decode cX11_canDoAnew 95 = .ok (.goto 4, 3) := by decide +kernel
theorem dX11_canDoAnew_98 : decode cX11_canDoAnew 98 = .ok (.iconst 0, 1) := by decide +kernel
theorem dX11_canDoAnew_99 : decode cX11_canDoAnew 99 = .ok (.ireturn, 1) := by decide +kernel
theorem dX11_canDoAnew_100 : decode cX11_canDoAnew 100 = .ok (.aload_n 0, 1) := by decide +kernel
theorem dX11_canDoAnew_101 : decode cX11_canDoAnew 101 = .ok (.getfield 34, 3) := by decide +kernel
theorem dX11_canDoAnew_104 : decode cX11_canDoAnew 104 = .ok (.aload_n 0, 1) := by decide +kernel
theorem dX11_canDoAnew_105 : decode cX11_canDoAnew 105 = .ok (.getfield 55, 3) := by decide +kernel
theorem dX11_canDoAnew_108 : decode cX11_canDoAnew 108 = .ok (.aload_n 1, 1) := by decide +kernel
theorem dX11_canDoAnew_109 : decode cX11_canDoAnew 109 = .ok (.invokevirtual 602, 3) := by decide +kernel
theorem dX11_canDoAnew_112 : decode cX11_canDoAnew 112 = .ok (.ireturn, 1) := by decide +kernel
theorem dJ5_init_d00df_0 : decode cJ5_init_d00df 0 = .ok (.aload_n 0, 1) := by decide +kernel
theorem dJ5_init_d00df_1 : decode cJ5_init_d00df 1 = .ok (.invokespecial 3, 3) := by decide +kernel
theorem dJ5_init_d00df_4 : decode cJ5_init_d00df 4 = .ok (.getstatic 18, 3) := by decide +kernel
theorem dJ5_init_d00df_7 : decode cJ5_init_d00df 7 = .ok (.ifCond .eq 18, 3) := by decide +kernel
theorem dJ5_init_d00df_10 : decode cJ5_init_d00df 10 = .ok (.aload_n 0, 1) := by decide +kernel
theorem dJ5_init_d00df_11 : decode cJ5_init_d00df 11 = .ok (.iload_n 1, 1) := by decide +kernel
theorem dJ5_init_d00df_12 : decode cJ5_init_d00df 12 = .ok (.newarray .byte, 2) := by decide +kernel
theorem dJ5_init_d00df_14 : decode cJ5_init_d00df 14 = .ok (.putfield 15, 3) := by decide +kernel
theorem dJ5_init_d00df_17 : decode cJ5_init_d00df 17 = .ok (.aload_n 0, 1) := by decide +kernel
theorem dJ5_init_d00df_18 : decode cJ5_init_d00df 18 = .ok (.iconst 0, 1) := by decide +kernel
theorem dJ5_init_d00df_19 : decode cJ5_init_d00df 19 = .ok (.putfield 22, 3) := by decide +kernel
theorem dJ5_init_d00df_22 : decode cJ5_init_d00df 22 = .ok (.goto 16, 3) := by decide +kernel
theorem dJ5_init_d00df_25 : decode cJ5_init_d00df 25 = .ok (.aload_n 0, 1) := by decide +kernel
theorem dJ5_init_d00df_26 : decode cJ5_init_d00df 26 = .ok (.iload_n 1, 1) := by decide +kernel
theorem dJ5_init_d00df_27 : decode cJ5_init_d00df 27 = .ok (.invokestatic 26, 3) := by decide +kernel
theorem dJ5_init_d00df_30 : decode cJ5_init_d00df 30 = .ok (.putfield 15, 3) := by decide +kernel
theorem dJ5_init_d00df_33 : decode cJ5_init_d00df 33 = .ok (.aload_n 0, 1) := by decide +kernel
theorem dJ5_init_d00df_34 : decode cJ5_init_d00df 34 = .ok (.iconst 1, 1) := by decide +kernel
theorem dJ5_init_d00df_35 : decode cJ5_init_d00df 35 = .ok (.putfield 22, 3) := by decide +kernel
theorem dJ5_init_d00df_38 : decode cJ5_init_d00df 38 = .ok (.return_, 1) := by decide +kernel
theorem dJ5_length_8abf5_0 : decode cJ5_length_8abf5 0 = .ok (.aload_n 0, 1) := by decide +kernel
theorem dJ5_length_8abf5_1 : decode cJ5_length_8abf5 1 = .ok (.getfield 79, 3) := by decide +kernel
theorem dJ5_length_8abf5_4 : decode cJ5_length_8abf5 4 = .ok (.ireturn, 1) := by decide +kernel
theorem dJ5_ensureCapacityInternal_d00df_0 : decode cJ5_ensureCapacityInternal_d00df 0 = .ok (.aload_n 0, 1) := by decide +kernel
theorem dJ5_ensureCapacityInternal_d00df_1 : decode cJ5_ensureCapacityInternal_d00df 1 = .ok (.getfield 15, 3) := by decide +kernel
theorem dJ5_ensureCapacityInternal_d00df_4 : decode cJ5_ensureCapacityInternal_d00df 4 = .ok (.arraylength, 1) := by decide +kernel
theorem dJ5_ensureCapacityInternal_d00df_5 : decode cJ5_ensureCapacityInternal_d00df 5 = .ok (.aload_n 0, 1) := by decide +kernel
theorem dJ5_ensureCapacityInternal_d00df_6 : decode cJ5_ensureCapacityInternal_d00df 6 = .ok (.getfield 22, 3) := by decide +kernel
theorem dJ5_ensureCapacityInternal_d00df_9 : decode cJ5_ensureCapacityInternal_d00df 9 = .ok (.ishr, 1) := by decide +kernel
theorem dJ5_ensureCapacityInternal_d00df_10 : decode cJ5_ensureCapacityInternal_d00df 10 = .ok (.istore_n 2, 1) := by decide +kernel
theorem dJ5_ensureCapacityInternal_d00df_11 : decode cJ5_ensureCapacityInternal_d00df 11 = .ok (.iload_n 1, 1) := by decide +kernel
theorem dJ5_ensureCapacityInternal_d00df_12 : decode cJ5_ensureCapacityInternal_d00df 12 = .ok (.iload_n 2, 1) := by decide +kernel
theorem dJ5_ensureCapacityInternal_d00df_13 : decode cJ5_ensureCapacityInternal_d00df 13 = .ok (.isub, 1) := by decide +kernel
theorem dJ5_ensureCapacityInternal_d00df_14 : decode cJ5_ensureCapacityInternal_d00df 14 = .ok (.ifCond .le 24, 3) := by decide +kernel
theorem dJ5_ensureCapacityInternal_d00df_17 : decode cJ5_ensureCapacityInternal_d00df 17 = .ok (.aload_n 0, 1) := by decide +kernel
theorem dJ5_ensureCapacityInternal_d00df_18 : decode cJ5_ensureCapacityInternal_d00df 18 = .ok (.aload_n 0, 1) := by decide +kernel
theorem dJ5_ensureCapacityInternal_d00df_19 : decode cJ5_ensureCapacityInternal_d00df 19 = .ok (.getfield 15, 3) := by decide +kernel
theorem dJ5_ensureCapacityInternal_d00df_22 : decode cJ5_ensureCapacityInternal_d00df 22 = .ok (.aload_n 0, 1) := by decide +kernel
theorem dJ5_ensureCapacityInternal_d00df_23 : decode cJ5_ensureCapacityInternal_d00df 23 = .ok (.iload_n 1, 1) := by decide +kernel
theorem dJ5_ensureCapacityInternal_d00df_24 : decode cJ5_ensureCapacityInternal_d00df 24 = .ok (.invokevirtual 104, 3) := by decide +kernel
theorem dJ5_ensureCapacityInternal_d00df_27 : decode cJ5_ensureCapacityInternal_d00df 27 = .ok (.aload_n 0, 1) := by decide +kernel
theorem dJ5_ensureCapacityInternal_d00df_28 : decode cJ5_ensureCapacityInternal_d00df 28 = .ok (.getfield 22, 3) := by decide +kernel
theorem dJ5_ensureCapacityInternal_d00df_31 : decode cJ5_ensureCapacityInternal_d00df 31 = .ok (.ishl, 1) := by decide +kernel
theorem dJ5_ensureCapacityInternal_d00df_32 : decode cJ5_ensureCapacityInternal_d00df 32 = .ok (.invokestatic 108, 3) := by decide +kernel
theorem dJ5_ensureCapacityInternal_d00df_35 : decode cJ5_ensureCapacityInternal_d00df 35 = .ok (.putfield 15, 3) := by decide +kernel
theorem dJ5_ensureCapacityInternal_d00df_38 : decode cJ5_ensureCapacityInternal_d00df 38 = .ok (.return_, 1) := by decide +kernel
theorem dJ5_newCapacity_0f7a4_0 : decode cJ5_newCapacity_0f7a4 0 = .ok (.aload_n 0, 1) := by decide +kernel
theorem dJ5_newCapacity_0f7a4_1 : decode cJ5_newCapacity_0f7a4 1 = .ok (.getfield 15, 3) := by decide +kernel
theorem dJ5_newCapacity_0f7a4_4 : decode cJ5_newCapacity_0f7a4 4 = .ok (.arraylength, 1) := by decide +kernel
theorem dJ5_newCapacity_0f7a4_5 : decode cJ5_newCapacity_0f7a4 5 = .ok (.istore_n 2, 1) := by decide +kernel
theorem dJ5_newCapacity_0f7a4_6 : decode cJ5_newCapacity_0f7a4 6 = .ok (.iload_n 1, 1) := by decide +kernel
theorem dJ5_newCapacity_0f7a4_7 : decode cJ5_newCapacity_0f7a4 7 = .ok (.aload_n 0, 1) := by decide +kernel
theorem dJ5_newCapacity_0f7a4_8 : decode cJ5_newCapacity_0f7a4 8 = .ok (.getfield 22, 3) := by decide +kernel
theorem dJ5_newCapacity_0f7a4_11 : decode cJ5_newCapacity_0f7a4 11 = .ok (.ishl, 1) := by decide +kernel
theorem dJ5_newCapacity_0f7a4_12 : decode cJ5_newCapacity_0f7a4 12 = .ok (.istore_n 3, 1) := by decide +kernel
theorem dJ5_newCapacity_0f7a4_13 : decode cJ5_newCapacity_0f7a4 13 = .ok (.iload_n 3, 1) := by decide +kernel
theorem dJ5_newCapacity_0f7a4_14 : decode cJ5_newCapacity_0f7a4 14 = .ok (.iload_n 2, 1) := by decide +kernel
theorem dJ5_newCapacity_0f7a4_15 : decode cJ5_newCapacity_0f7a4 15 = .ok (.isub, 1) := by decide +kernel
theorem dJ5_newCapacity_0f7a4_16 : decode cJ5_newCapacity_0f7a4 16 = .ok (.istore 4, 2) := by decide +kernel
theorem dJ5_newCapacity_0f7a4_18 : decode cJ5_newCapacity_0f7a4 18 = .ok (.iload_n 2, 1) := by decide +kernel
theorem dJ5_newCapacity_0f7a4_19 : decode cJ5_newCapacity_0f7a4 19 = .ok (.iload 4, 2) := by decide +kernel
theorem dJ5_newCapacity_0f7a4_21 : decode cJ5_newCapacity_0f7a4 21 = .ok (.iload_n 2, 1) := by decide +kernel
theorem dJ5_newCapacity_0f7a4_22 : decode cJ5_newCapacity_0f7a4 22 = .ok (.iconst 2, 1) := by decide +kernel
theorem dJ5_newCapacity_0f7a4_23 : decode cJ5_newCapacity_0f7a4 23 = .ok (.aload_n 0, 1) := by decide +kernel
theorem dJ5_newCapacity_0f7a4_24 : decode cJ5_newCapacity_0f7a4 24 = .ok (.getfield 22, 3) := by decide +kernel
theorem dJ5_newCapacity_0f7a4_27 : decode cJ5_newCapacity_0f7a4 27 = .ok (.ishl, 1) := by decide +kernel
theorem dJ5_newCapacity_0f7a4_28 : decode cJ5_newCapacity_0f7a4 28 = .ok (.iadd, 1) := by decide +kernel
theorem dJ5_newCapacity_0f7a4_29 : decode cJ5_newCapacity_0f7a4 29 = .ok (.invokestatic 114, 3) := by decide +kernel
theorem dJ5_newCapacity_0f7a4_32 : decode cJ5_newCapacity_0f7a4 32 = .ok (.istore 5, 2) := by decide +kernel
theorem dJ5_newCapacity_0f7a4_34 : decode cJ5_newCapacity_0f7a4 34 = .ok (.iload 5, 2) := by decide +kernel
theorem dJ5_newCapacity_0f7a4_36 : decode cJ5_newCapacity_0f7a4 36 = .ok (.ldc 39, 2) := by decide +kernel
theorem dJ5_newCapacity_0f7a4_38 : decode cJ5_newCapacity_0f7a4 38 = .ok (.if_icmp .ne 13, 3) := by decide +kernel
theorem dJ5_newCapacity_0f7a4_41 : decode cJ5_newCapacity_0f7a4 41 = .ok (.new 120, 3) := by decide +kernel
theorem dJ5_newCapacity_0f7a4_44 : decode cJ5_newCapacity_0f7a4 44 = .ok (.dup, 1) := by decide +kernel
theorem dJ5_newCapacity_0f7a4_45 : decode cJ5_newCapacity_0f7a4 45 = .ok (.ldc 122, 2) := by decide +kernel
theorem dJ5_newCapacity_0f7a4_47 : decode cJ5_newCapacity_0f7a4 47 = .ok (.invokespecial 124, 3) := by decide +kernel
theorem dJ5_newCapacity_0f7a4_50 : decode cJ5_newCapacity_0f7a4 50 = .ok (.athrow, 1) := by decide +kernel
theorem dJ5_newCapacity_0f7a4_51 : decode cJ5_newCapacity_0f7a4 51 = .ok (.iload 5, 2) := by decide +kernel
theorem dJ5_newCapacity_0f7a4_53 : decode cJ5_newCapacity_0f7a4 53 = .ok (.aload_n 0, 1) := by decide +kernel
theorem dJ5_newCapacity_0f7a4_54 : decode cJ5_newCapacity_0f7a4 54 = .ok (.getfield 22, 3) := by decide +kernel
theorem dJ5_newCapacity_0f7a4_57 : decode cJ5_newCapacity_0f7a4 57 = .ok (.ishr, 1) := by decide +kernel
theorem dJ5_newCapacity_0f7a4_58 : decode cJ5_newCapacity_0f7a4 58 = .ok (.ireturn, 1) := by decide +kernel
theorem dJ5_inflate_da8c8_0 : decode cJ5_inflate_da8c8 0 = .ok (.aload_n 0, 1) := by decide +kernel
theorem dJ5_inflate_da8c8_1 : decode cJ5_inflate_da8c8 1 = .ok (.invokevirtual 83, 3) := by decide +kernel
theorem dJ5_inflate_da8c8_4 : decode cJ5_inflate_da8c8 4 = .ok (.ifCond .ne 4, 3) := by decide +kernel
theorem dJ5_inflate_da8c8_7 : decode cJ5_inflate_da8c8 7 = .ok (.return_, 1) := by decide +kernel
theorem dJ5_inflate_da8c8_8 : decode cJ5_inflate_da8c8 8 = .ok (.aload_n 0, 1) := by decide +kernel
theorem dJ5_inflate_da8c8_9 : decode cJ5_inflate_da8c8 9 = .ok (.getfield 15, 3) := by decide +kernel
theorem dJ5_inflate_da8c8_12 : decode cJ5_inflate_da8c8 12 = .ok (.arraylength, 1) := by decide +kernel
theorem dJ5_inflate_da8c8_13 : decode cJ5_inflate_da8c8 13 = .ok (.invokestatic 26, 3) := by decide +kernel
theorem dJ5_inflate_da8c8_16 : decode cJ5_inflate_da8c8 16 = .ok (.astore_n 1, 1) := by decide +kernel
theorem dJ5_inflate_da8c8_17 : decode cJ5_inflate_da8c8 17 = .ok (.aload_n 0, 1) := by decide +kernel
theorem dJ5_inflate_da8c8_18 : decode cJ5_inflate_da8c8 18 = .ok (.getfield 15, 3) := by decide +kernel
theorem dJ5_inflate_da8c8_21 : decode cJ5_inflate_da8c8 21 = .ok (.iconst 0, 1) := by decide +kernel
theorem dJ5_inflate_da8c8_22 : decode cJ5_inflate_da8c8 22 = .ok (.aload_n 1, 1) := by decide +kernel
theorem dJ5_inflate_da8c8_23 : decode cJ5_inflate_da8c8 23 = .ok (.iconst 0, 1) := by decide +kernel
theorem dJ5_inflate_da8c8_24 : decode cJ5_inflate_da8c8 24 = .ok (.aload_n 0, 1) := by decide +kernel
theorem dJ5_inflate_da8c8_25 : decode cJ5_inflate_da8c8 25 = .ok (.getfield 79, 3) := by decide +kernel
theorem dJ5_inflate_da8c8_28 : decode cJ5_inflate_da8c8 28 = .ok (.invokestatic 125, 3) := by decide +kernel
theorem dJ5_inflate_da8c8_31 : decode cJ5_inflate_da8c8 31 = .ok (.aload_n 0, 1) := by decide +kernel
theorem dJ5_inflate_da8c8_32 : decode cJ5_inflate_da8c8 32 = .ok (.aload_n 1, 1) := by decide +kernel
theorem dJ5_inflate_da8c8_33 : decode cJ5_inflate_da8c8 33 = .ok (.putfield 15, 3) := by decide +kernel
theorem dJ5_inflate_da8c8_36 : decode cJ5_inflate_da8c8 36 = .ok (.aload_n 0, 1) := by decide +kernel
theorem dJ5_inflate_da8c8_37 : decode cJ5_inflate_da8c8 37 = .ok (.iconst 1, 1) := by decide +kernel
theorem dJ5_inflate_da8c8_38 : decode cJ5_inflate_da8c8 38 = .ok (.putfield 22, 3) := by decide +kernel
theorem dJ5_inflate_da8c8_41 : decode cJ5_inflate_da8c8 41 = .ok (.return_, 1) := by decide +kernel
theorem dJ5_setLength_d00df_0 : decode cJ5_setLength_d00df 0 = .ok (.iload_n 1, 1) := by decide +kernel
theorem dJ5_setLength_d00df_1 : decode cJ5_setLength_d00df 1 = .ok (.ifCond .ge 12, 3) := by decide +kernel
theorem dJ5_setLength_d00df_4 : decode cJ5_setLength_d00df 4 = .ok (.new 129, 3) := by decide +kernel
theorem dJ5_setLength_d00df_7 : decode cJ5_setLength_d00df 7 = .ok (.dup, 1) := by decide +kernel
theorem dJ5_setLength_d00df_8 : decode cJ5_setLength_d00df 8 = .ok (.iload_n 1, 1) := by decide +kernel
theorem dJ5_setLength_d00df_9 : decode cJ5_setLength_d00df 9 = .ok (.invokespecial 131, 3) := by decide +kernel
theorem dJ5_setLength_d00df_12 : decode cJ5_setLength_d00df 12 = .ok (.athrow, 1) := by decide +kernel
theorem dJ5_setLength_d00df_13 : decode cJ5_setLength_d00df 13 = .ok (.aload_n 0, 1) := by decide +kernel
theorem dJ5_setLength_d00df_14 : decode cJ5_setLength_d00df 14 = .ok (.iload_n 1, 1) := by decide +kernel
theorem dJ5_setLength_d00df_15 : decode cJ5_setLength_d00df 15 = .ok (.invokevirtual 100, 3) := by decide +kernel
theorem dJ5_setLength_d00df_18 : decode cJ5_setLength_d00df 18 = .ok (.aload_n 0, 1) := by decide +kernel
theorem dJ5_setLength_d00df_19 : decode cJ5_setLength_d00df 19 = .ok (.getfield 79, 3) := by decide +kernel
theorem dJ5_setLength_d00df_22 : decode cJ5_setLength_d00df 22 = .ok (.iload_n 1, 1) := by decide +kernel
theorem dJ5_setLength_d00df_23 : decode cJ5_setLength_d00df 23 = .ok (.if_icmp .ge 40, 3) := by decide +kernel
theorem dJ5_setLength_d00df_26 : decode cJ5_setLength_d00df 26 = .ok (.aload_n 0, 1) := by decide +kernel
theorem dJ5_setLength_d00df_27 : decode cJ5_setLength_d00df 27 = .ok (.invokevirtual 83, 3) := by decide +kernel
theorem dJ5_setLength_d00df_30 : decode cJ5_setLength_d00df 30 = .ok (.ifCond .eq 18, 3) := by decide +kernel
theorem dJ5_setLength_d00df_33 : decode cJ5_setLength_d00df 33 = .ok (.aload_n 0, 1) := by decide +kernel
theorem dJ5_setLength_d00df_34 : decode cJ5_setLength_d00df 34 = .ok (.getfield 15, 3) := by decide +kernel
theorem dJ5_setLength_d00df_37 : decode cJ5_setLength_d00df 37 = .ok (.aload_n 0, 1) := by decide +kernel
theorem dJ5_setLength_d00df_38 : decode cJ5_setLength_d00df 38 = .ok (.getfield 79, 3) := by decide +kernel
theorem dJ5_setLength_d00df_41 : decode cJ5_setLength_d00df 41 = .ok (.iload_n 1, 1) := by decide +kernel
theorem dJ5_setLength_d00df_42 : decode cJ5_setLength_d00df 42 = .ok (.invokestatic 133, 3) := by decide +kernel
theorem dJ5_setLength_d00df_45 : decode cJ5_setLength_d00df 45 = .ok (.goto 31, 3) := by decide +kernel
theorem dJ5_setLength_d00df_48 : decode cJ5_setLength_d00df 48 = .ok (.aload_n 0, 1) := by decide +kernel
theorem dJ5_setLength_d00df_49 : decode cJ5_setLength_d00df 49 = .ok (.getfield 15, 3) := by decide +kernel
theorem dJ5_setLength_d00df_52 : decode cJ5_setLength_d00df 52 = .ok (.aload_n 0, 1) := by decide +kernel
theorem dJ5_setLength_d00df_53 : decode cJ5_setLength_d00df 53 = .ok (.getfield 79, 3) := by decide +kernel
theorem dJ5_setLength_d00df_56 : decode cJ5_setLength_d00df 56 = .ok (.iload_n 1, 1) := by decide +kernel
theorem dJ5_setLength_d00df_57 : decode cJ5_setLength_d00df 57 = .ok (.invokestatic 137, 3) := by decide +kernel
theorem dJ5_setLength_d00df_60 : decode cJ5_setLength_d00df 60 = .ok (.goto 16, 3) := by decide +kernel
theorem dJ5_setLength_d00df_63 : decode cJ5_setLength_d00df 63 = .ok (.aload_n 0, 1) := by decide +kernel
theorem dJ5_setLength_d00df_64 : decode cJ5_setLength_d00df 64 = .ok (.getfield 79, 3) := by decide +kernel
theorem dJ5_setLength_d00df_67 : decode cJ5_setLength_d00df 67 = .ok (.iload_n 1, 1) := by decide +kernel
theorem dJ5_setLength_d00df_68 : decode cJ5_setLength_d00df 68 = .ok (.if_icmp .le 8, 3) := by decide +kernel
theorem dJ5_setLength_d00df_71 : decode cJ5_setLength_d00df 71 = .ok (.aload_n 0, 1) := by decide +kernel
theorem dJ5_setLength_d00df_72 : decode cJ5_setLength_d00df 72 = .ok (.iconst 1, 1) := by decide +kernel
theorem dJ5_setLength_d00df_73 : decode cJ5_setLength_d00df 73 = .ok (.putfield 73, 3) := by decide +kernel
theorem dJ5_setLength_d00df_76 : decode cJ5_setLength_d00df 76 = .ok (.aload_n 0, 1) := by decide +kernel
theorem dJ5_setLength_d00df_77 : decode cJ5_setLength_d00df 77 = .ok (.iload_n 1, 1) := by decide +kernel
theorem dJ5_setLength_d00df_78 : decode cJ5_setLength_d00df 78 = .ok (.putfield 79, 3) := by decide +kernel
theorem dJ5_setLength_d00df_81 : decode cJ5_setLength_d00df 81 = .ok (.return_, 1) := by decide +kernel
theorem dJ5_charAt_5068e_0 : decode cJ5_charAt_5068e 0 = .ok (.aload_n 0, 1) := by decide +kernel
theorem dJ5_charAt_5068e_1 : decode cJ5_charAt_5068e 1 = .ok (.getfield 22, 3) := by decide +kernel
theorem dJ5_charAt_5068e_4 : decode cJ5_charAt_5068e 4 = .ok (.istore_n 2, 1) := by decide +kernel
theorem dJ5_charAt_5068e_5 : decode cJ5_charAt_5068e 5 = .ok (.aload_n 0, 1) := by decide +kernel
theorem dJ5_charAt_5068e_6 : decode cJ5_charAt_5068e 6 = .ok (.getfield 15, 3) := by decide +kernel
theorem dJ5_charAt_5068e_9 : decode cJ5_charAt_5068e 9 = .ok (.astore_n 3, 1) := by decide +kernel
theorem dJ5_charAt_5068e_10 : decode cJ5_charAt_5068e 10 = .ok (.aload_n 0, 1) := by decide +kernel
theorem dJ5_charAt_5068e_11 : decode cJ5_charAt_5068e 11 = .ok (.getfield 79, 3) := by decide +kernel
theorem dJ5_charAt_5068e_14 : decode cJ5_charAt_5068e 14 = .ok (.aload_n 3, 1) := by decide +kernel
theorem dJ5_charAt_5068e_15 : decode cJ5_charAt_5068e 15 = .ok (.arraylength, 1) := by decide +kernel
theorem dJ5_charAt_5068e_16 : decode cJ5_charAt_5068e 16 = .ok (.iload_n 2, 1) := by decide +kernel
theorem dJ5_charAt_5068e_17 : decode cJ5_charAt_5068e 17 = .ok (.ishr, 1) := by decide +kernel
theorem dJ5_charAt_5068e_18 : decode cJ5_charAt_5068e 18 = .ok (.invokestatic 138, 3) := by decide +kernel
theorem dJ5_charAt_5068e_21 : decode cJ5_charAt_5068e 21 = .ok (.istore 4, 2) := by decide +kernel
theorem dJ5_charAt_5068e_23 : decode cJ5_charAt_5068e 23 = .ok (.iload_n 1, 1) := by decide +kernel
theorem dJ5_charAt_5068e_24 : decode cJ5_charAt_5068e 24 = .ok (.iload 4, 2) := by decide +kernel
theorem dJ5_charAt_5068e_26 : decode cJ5_charAt_5068e 26 = .ok (.invokestatic 144, 3) := by decide +kernel
theorem dJ5_charAt_5068e_29 : decode cJ5_charAt_5068e 29 = .ok (.iload_n 2, 1) := by decide +kernel
theorem dJ5_charAt_5068e_30 : decode cJ5_charAt_5068e 30 = .ok (.ifCond .ne 12, 3) := by decide +kernel
theorem dJ5_charAt_5068e_33 : decode cJ5_charAt_5068e 33 = .ok (.aload_n 3, 1) := by decide +kernel
theorem dJ5_charAt_5068e_34 : decode cJ5_charAt_5068e 34 = .ok (.iload_n 1, 1) := by decide +kernel
theorem dJ5_charAt_5068e_35 : decode cJ5_charAt_5068e 35 = .ok (.baload, 1) := by decide +kernel
theorem dJ5_charAt_5068e_36 : decode cJ5_charAt_5068e 36 = .ok (.sipush 255, 3) := by decide +kernel
theorem dJ5_charAt_5068e_39 : decode cJ5_charAt_5068e 39 = .ok (.iand, 1) := by decide +kernel
theorem dJ5_charAt_5068e_40 : decode cJ5_charAt_5068e 40 = .ok (.i2c, 1) := by decide +kernel
theorem dJ5_charAt_5068e_41 : decode cJ5_charAt_5068e 41 = .ok (.ireturn, 1) := by decide +kernel
theorem dJ5_charAt_5068e_42 : decode cJ5_charAt_5068e 42 = .ok (.aload_n 3, 1) := by decide +kernel
theorem dJ5_charAt_5068e_43 : decode cJ5_charAt_5068e 43 = .ok (.iload_n 1, 1) := by decide +kernel
theorem dJ5_charAt_5068e_44 : decode cJ5_charAt_5068e 44 = .ok (.invokestatic 148, 3) := by decide +kernel
theorem dJ5_charAt_5068e_47 : decode cJ5_charAt_5068e 47 = .ok (.ireturn, 1) := by decide +kernel
theorem dJ5_append_cf1ce_0 : decode cJ5_append_cf1ce 0 = .ok (.aload_n 1, 1) := by decide +kernel
theorem dJ5_append_cf1ce_1 : decode cJ5_append_cf1ce 1 = .ok (.ifnonnull 8, 3) := by decide +kernel
theorem dJ5_append_cf1ce_4 : decode cJ5_append_cf1ce 4 = .ok (.aload_n 0, 1) := by decide +kernel
theorem dJ5_append_cf1ce_5 : decode cJ5_append_cf1ce 5 = .ok (.invokevirtual 204, 3) := by decide +kernel
theorem dJ5_append_cf1ce_8 : decode cJ5_append_cf1ce 8 = .ok (.areturn, 1) := by decide +kernel
theorem dJ5_append_cf1ce_9 : decode cJ5_append_cf1ce 9 = .ok (.aload_n 1, 1) := by decide +kernel
theorem dJ5_append_cf1ce_10 : decode cJ5_append_cf1ce 10 = .ok (.invokevirtual 32, 3) := by decide +kernel
theorem dJ5_append_cf1ce_13 : decode cJ5_append_cf1ce 13 = .ok (.istore_n 2, 1) := by decide +kernel
theorem dJ5_append_cf1ce_14 : decode cJ5_append_cf1ce 14 = .ok (.aload_n 0, 1) := by decide +kernel
theorem dJ5_append_cf1ce_15 : decode cJ5_append_cf1ce 15 = .ok (.aload_n 0, 1) := by decide +kernel
theorem dJ5_append_cf1ce_16 : decode cJ5_append_cf1ce 16 = .ok (.getfield 79, 3) := by decide +kernel
theorem dJ5_append_cf1ce_19 : decode cJ5_append_cf1ce 19 = .ok (.iload_n 2, 1) := by decide +kernel
theorem dJ5_append_cf1ce_20 : decode cJ5_append_cf1ce 20 = .ok (.iadd, 1) := by decide +kernel
theorem dJ5_append_cf1ce_21 : decode cJ5_append_cf1ce 21 = .ok (.invokevirtual 100, 3) := by decide +kernel
theorem dJ5_append_cf1ce_24 : decode cJ5_append_cf1ce 24 = .ok (.aload_n 0, 1) := by decide +kernel
theorem dJ5_append_cf1ce_25 : decode cJ5_append_cf1ce 25 = .ok (.aload_n 0, 1) := by decide +kernel
theorem dJ5_append_cf1ce_26 : decode cJ5_append_cf1ce 26 = .ok (.getfield 79, 3) := by decide +kernel
theorem dJ5_append_cf1ce_29 : decode cJ5_append_cf1ce 29 = .ok (.aload_n 1, 1) := by decide +kernel
theorem dJ5_append_cf1ce_30 : decode cJ5_append_cf1ce 30 = .ok (.invokevirtual 208, 3) := by decide +kernel
theorem dJ5_append_cf1ce_33 : decode cJ5_append_cf1ce 33 = .ok (.aload_n 0, 1) := by decide +kernel
theorem dJ5_append_cf1ce_34 : decode cJ5_append_cf1ce 34 = .ok (.dup, 1) := by decide +kernel
theorem dJ5_append_cf1ce_35 : decode cJ5_append_cf1ce 35 = .ok (.getfield 79, 3) := by decide +kernel
theorem dJ5_append_cf1ce_38 : decode cJ5_append_cf1ce 38 = .ok (.iload_n 2, 1) := by decide +kernel
theorem dJ5_append_cf1ce_39 : decode cJ5_append_cf1ce 39 = .ok (.iadd, 1) := by decide +kernel
theorem dJ5_append_cf1ce_40 : decode cJ5_append_cf1ce 40 = .ok (.putfield 79, 3) := by decide +kernel
theorem dJ5_append_cf1ce_43 : decode cJ5_append_cf1ce 43 = .ok (.aload_n 0, 1) := by decide +kernel
theorem dJ5_append_cf1ce_44 : decode cJ5_append_cf1ce 44 = .ok (.areturn, 1) := by decide +kernel
theorem dJ5_appendNull_278bc_0 : decode cJ5_appendNull_278bc 0 = .ok (.aload_n 0, 1) := by decide +kernel
theorem dJ5_appendNull_278bc_1 : decode cJ5_appendNull_278bc 1 = .ok (.aload_n 0, 1) := by decide +kernel
theorem dJ5_appendNull_278bc_2 : decode cJ5_appendNull_278bc 2 = .ok (.getfield 79, 3) := by decide +kernel
theorem dJ5_appendNull_278bc_5 : decode cJ5_appendNull_278bc 5 = .ok (.iconst 4, 1) := by decide +kernel
theorem dJ5_appendNull_278bc_6 : decode cJ5_appendNull_278bc 6 = .ok (.iadd, 1) := by decide +kernel
theorem dJ5_appendNull_278bc_7 : decode cJ5_appendNull_278bc 7 = .ok (.invokevirtual 100, 3) := by decide +kernel
theorem dJ5_appendNull_278bc_10 : decode cJ5_appendNull_278bc 10 = .ok (.aload_n 0, 1) := by decide +kernel
theorem dJ5_appendNull_278bc_11 : decode cJ5_appendNull_278bc 11 = .ok (.getfield 79, 3) := by decide +kernel
theorem dJ5_appendNull_278bc_14 : decode cJ5_appendNull_278bc 14 = .ok (.istore_n 1, 1) := by decide +kernel
theorem dJ5_appendNull_278bc_15 : decode cJ5_appendNull_278bc 15 = .ok (.aload_n 0, 1) := by decide +kernel
theorem dJ5_appendNull_278bc_16 : decode cJ5_appendNull_278bc 16 = .ok (.getfield 15, 3) := by decide +kernel
theorem dJ5_appendNull_278bc_19 : decode cJ5_appendNull_278bc 19 = .ok (.astore_n 2, 1) := by decide +kernel
theorem dJ5_appendNull_278bc_20 : decode cJ5_appendNull_278bc 20 = .ok (.aload_n 0, 1) := by decide +kernel
theorem dJ5_appendNull_278bc_21 : decode cJ5_appendNull_278bc 21 = .ok (.invokevirtual 83, 3) := by decide +kernel
theorem dJ5_appendNull_278bc_24 : decode cJ5_appendNull_278bc 24 = .ok (.ifCond .eq 38, 3) := by decide +kernel
theorem dJ5_appendNull_278bc_27 : decode cJ5_appendNull_278bc 27 = .ok (.aload_n 2, 1) := by decide +kernel
theorem dJ5_appendNull_278bc_28 : decode cJ5_appendNull_278bc 28 = .ok (.iload_n 1, 1) := by decide +kernel
theorem dJ5_appendNull_278bc_29 : decode cJ5_appendNull_278bc 29 = .ok (.iinc 1 1, 3) := by decide +kernel
theorem dJ5_appendNull_278bc_32 : decode cJ5_appendNull_278bc 32 = .ok (.bipush 110, 2) := by decide +kernel
theorem dJ5_appendNull_278bc_34 : decode cJ5_appendNull_278bc 34 = .ok (.bastore, 1) := by decide +kernel
theorem dJ5_appendNull_278bc_35 : decode cJ5_appendNull_278bc 35 = .ok (.aload_n 2, 1) := by decide +kernel
theorem dJ5_appendNull_278bc_36 : decode cJ5_appendNull_278bc 36 = .ok (.iload_n 1, 1) := by decide +kernel
theorem dJ5_appendNull_278bc_37 : decode cJ5_appendNull_278bc 37 = .ok (.iinc 1 1, 3) := by decide +kernel
theorem dJ5_appendNull_278bc_40 : decode cJ5_appendNull_278bc 40 = .ok (.bipush 117, 2) := by decide +kernel
theorem dJ5_appendNull_278bc_42 : decode cJ5_appendNull_278bc 42 = .ok (.bastore, 1) := by decide +kernel
theorem dJ5_appendNull_278bc_43 : decode cJ5_appendNull_278bc 43 = .ok (.aload_n 2, 1) := by decide +kernel
theorem dJ5_appendNull_278bc_44 : decode cJ5_appendNull_278bc 44 = .ok (.iload_n 1, 1) := by decide +kernel
theorem dJ5_appendNull_278bc_45 : decode cJ5_appendNull_278bc 45 = .ok (.iinc 1 1, 3) := by decide +kernel
theorem dJ5_appendNull_278bc_48 : decode cJ5_appendNull_278bc 48 = .ok (.bipush 108, 2) := by decide +kernel
theorem dJ5_appendNull_278bc_50 : decode cJ5_appendNull_278bc 50 = .ok (.bastore, 1) := by decide +kernel
theorem dJ5_appendNull_278bc_51 : decode cJ5_appendNull_278bc 51 = .ok (.aload_n 2, 1) := by decide +kernel
theorem dJ5_appendNull_278bc_52 : decode cJ5_appendNull_278bc 52 = .ok (.iload_n 1, 1) := by decide +kernel
theorem dJ5_appendNull_278bc_53 : decode cJ5_appendNull_278bc 53 = .ok (.iinc 1 1, 3) := by decide +kernel
theorem dJ5_appendNull_278bc_56 : decode cJ5_appendNull_278bc 56 = .ok (.bipush 108, 2) := by decide +kernel
theorem dJ5_appendNull_278bc_58 : decode cJ5_appendNull_278bc 58 = .ok (.bastore, 1) := by decide +kernel
theorem dJ5_appendNull_278bc_59 : decode cJ5_appendNull_278bc 59 = .ok (.goto 17, 3) := by decide +kernel
theorem dJ5_appendNull_278bc_62 : decode cJ5_appendNull_278bc 62 = .ok (.aload_n 2, 1) := by decide +kernel
theorem dJ5_appendNull_278bc_63 : decode cJ5_appendNull_278bc 63 = .ok (.iload_n 1, 1) := by decide +kernel
theorem dJ5_appendNull_278bc_64 : decode cJ5_appendNull_278bc 64 = .ok (.bipush 110, 2) := by decide +kernel
theorem dJ5_appendNull_278bc_66 : decode cJ5_appendNull_278bc 66 = .ok (.bipush 117, 2) := by decide +kernel
theorem dJ5_appendNull_278bc_68 : decode cJ5_appendNull_278bc 68 = .ok (.bipush 108, 2) := by decide +kernel
theorem dJ5_appendNull_278bc_70 : decode cJ5_appendNull_278bc 70 = .ok (.bipush 108, 2) := by decide +kernel
theorem dJ5_appendNull_278bc_72 : decode cJ5_appendNull_278bc 72 = .ok (.invokestatic 226, 3) := by decide +kernel
theorem dJ5_appendNull_278bc_75 : decode cJ5_appendNull_278bc 75 = .ok (.istore_n 1, 1) := by decide +kernel
theorem dJ5_appendNull_278bc_76 : decode cJ5_appendNull_278bc 76 = .ok (.aload_n 0, 1) := by decide +kernel
theorem dJ5_appendNull_278bc_77 : decode cJ5_appendNull_278bc 77 = .ok (.iload_n 1, 1) := by decide +kernel
theorem dJ5_appendNull_278bc_78 : decode cJ5_appendNull_278bc 78 = .ok (.putfield 79, 3) := by decide +kernel
theorem dJ5_appendNull_278bc_81 : decode cJ5_appendNull_278bc 81 = .ok (.aload_n 0, 1) := by decide +kernel
theorem dJ5_appendNull_278bc_82 : decode cJ5_appendNull_278bc 82 = .ok (.areturn, 1) := by decide +kernel
theorem dJ5_append_3fe6f_0 : decode cJ5_append_3fe6f 0 = .ok (.aload_n 0, 1) := by decide +kernel
theorem dJ5_append_3fe6f_1 : decode cJ5_append_3fe6f 1 = .ok (.aload_n 0, 1) := by decide +kernel
theorem dJ5_append_3fe6f_2 : decode cJ5_append_3fe6f 2 = .ok (.getfield 79, 3) := by decide +kernel
theorem dJ5_append_3fe6f_5 : decode cJ5_append_3fe6f 5 = .ok (.iconst 1, 1) := by decide +kernel
theorem dJ5_append_3fe6f_6 : decode cJ5_append_3fe6f 6 = .ok (.iadd, 1) := by decide +kernel
theorem dJ5_append_3fe6f_7 : decode cJ5_append_3fe6f 7 = .ok (.invokevirtual 100, 3) := by decide +kernel
theorem dJ5_append_3fe6f_10 : decode cJ5_append_3fe6f 10 = .ok (.aload_n 0, 1) := by decide +kernel
theorem dJ5_append_3fe6f_11 : decode cJ5_append_3fe6f 11 = .ok (.invokevirtual 83, 3) := by decide +kernel
theorem dJ5_append_3fe6f_14 : decode cJ5_append_3fe6f 14 = .ok (.ifCond .eq 31, 3) := by decide +kernel
theorem dJ5_append_3fe6f_17 : decode cJ5_append_3fe6f 17 = .ok (.iload_n 1, 1) := by decide +kernel
theorem dJ5_append_3fe6f_18 : decode cJ5_append_3fe6f 18 = .ok (.invokestatic 191, 3) := by decide +kernel
theorem dJ5_append_3fe6f_21 : decode cJ5_append_3fe6f 21 = .ok (.ifCond .eq 24, 3) := by decide +kernel
theorem dJ5_append_3fe6f_24 : decode cJ5_append_3fe6f 24 = .ok (.aload_n 0, 1) := by decide +kernel
theorem dJ5_append_3fe6f_25 : decode cJ5_append_3fe6f 25 = .ok (.getfield 15, 3) := by decide +kernel
theorem dJ5_append_3fe6f_28 : decode cJ5_append_3fe6f 28 = .ok (.aload_n 0, 1) := by decide +kernel
theorem dJ5_append_3fe6f_29 : decode cJ5_append_3fe6f 29 = .ok (.dup, 1) := by decide +kernel
theorem dJ5_append_3fe6f_30 : decode cJ5_append_3fe6f 30 = .ok (.getfield 79, 3) := by decide +kernel
theorem dJ5_append_3fe6f_33 : decode cJ5_append_3fe6f 33 = .ok (.dup_x1, 1) := by decide +kernel
theorem dJ5_append_3fe6f_34 : decode cJ5_append_3fe6f 34 = .ok (.iconst 1, 1) := by decide +kernel
theorem dJ5_append_3fe6f_35 : decode cJ5_append_3fe6f 35 = .ok (.iadd, 1) := by decide +kernel
theorem dJ5_append_3fe6f_36 : decode cJ5_append_3fe6f 36 = .ok (.putfield 79, 3) := by decide +kernel
theorem dJ5_append_3fe6f_39 : decode cJ5_append_3fe6f 39 = .ok (.iload_n 1, 1) := by decide +kernel
theorem dJ5_append_3fe6f_40 : decode cJ5_append_3fe6f 40 = .ok (.i2b, 1) := by decide +kernel
theorem dJ5_append_3fe6f_41 : decode cJ5_append_3fe6f 41 = .ok (.bastore, 1) := by decide +kernel
theorem dJ5_append_3fe6f_42 : decode cJ5_append_3fe6f 42 = .ok (.goto 33, 3) := by decide +kernel
theorem dJ5_append_3fe6f_45 : decode cJ5_append_3fe6f 45 = .ok (.aload_n 0, 1) := by decide +kernel
theorem dJ5_append_3fe6f_46 : decode cJ5_append_3fe6f 46 = .ok (.invokevirtual 83, 3) := by decide +kernel
theorem dJ5_append_3fe6f_49 : decode cJ5_append_3fe6f 49 = .ok (.ifCond .eq 7, 3) := by decide +kernel
theorem dJ5_append_3fe6f_52 : decode cJ5_append_3fe6f 52 = .ok (.aload_n 0, 1) := by decide +kernel
theorem dJ5_append_3fe6f_53 : decode cJ5_append_3fe6f 53 = .ok (.invokevirtual 195, 3) := by decide +kernel
theorem dJ5_append_3fe6f_56 : decode cJ5_append_3fe6f 56 = .ok (.aload_n 0, 1) := by decide +kernel
theorem dJ5_append_3fe6f_57 : decode cJ5_append_3fe6f 57 = .ok (.getfield 15, 3) := by decide +kernel
theorem dJ5_append_3fe6f_60 : decode cJ5_append_3fe6f 60 = .ok (.aload_n 0, 1) := by decide +kernel
theorem dJ5_append_3fe6f_61 : decode cJ5_append_3fe6f 61 = .ok (.dup, 1) := by decide +kernel
theorem dJ5_append_3fe6f_62 : decode cJ5_append_3fe6f 62 = .ok (.getfield 79, 3) := by decide +kernel
theorem dJ5_append_3fe6f_65 : decode cJ5_append_3fe6f 65 = .ok (.dup_x1, 1) := by decide +kernel
theorem dJ5_append_3fe6f_66 : decode cJ5_append_3fe6f 66 = .ok (.iconst 1, 1) := by decide +kernel
theorem dJ5_append_3fe6f_67 : decode cJ5_append_3fe6f 67 = .ok (.iadd, 1) := by decide +kernel
theorem dJ5_append_3fe6f_68 : decode cJ5_append_3fe6f 68 = .ok (.putfield 79, 3) := by decide +kernel
theorem dJ5_append_3fe6f_71 : decode cJ5_append_3fe6f 71 = .ok (.iload_n 1, 1) := by decide +kernel
theorem dJ5_append_3fe6f_72 : decode cJ5_append_3fe6f 72 = .ok (.invokestatic 197, 3) := by decide +kernel
theorem dJ5_append_3fe6f_75 : decode cJ5_append_3fe6f 75 = .ok (.aload_n 0, 1) := by decide +kernel
theorem dJ5_append_3fe6f_76 : decode cJ5_append_3fe6f 76 = .ok (.areturn, 1) := by decide +kernel
theorem dJ5_append_c97b9_0 : decode cJ5_append_c97b9 0 = .ok (.aload_n 0, 1) := by decide +kernel
theorem dJ5_append_c97b9_1 : decode cJ5_append_c97b9 1 = .ok (.getfield 79, 3) := by decide +kernel
theorem dJ5_append_c97b9_4 : decode cJ5_append_c97b9 4 = .ok (.istore_n 2, 1) := by decide +kernel
theorem dJ5_append_c97b9_5 : decode cJ5_append_c97b9 5 = .ok (.iload_n 2, 1) := by decide +kernel
theorem dJ5_append_c97b9_6 : decode cJ5_append_c97b9 6 = .ok (.iload_n 1, 1) := by decide +kernel
theorem dJ5_append_c97b9_7 : decode cJ5_append_c97b9 7 = .ok (.invokestatic 245, 3) := by decide +kernel
theorem dJ5_append_c97b9_10 : decode cJ5_append_c97b9 10 = .ok (.iadd, 1) := by decide +kernel
theorem dJ5_append_c97b9_11 : decode cJ5_append_c97b9 11 = .ok (.istore_n 3, 1) := by decide +kernel
theorem dJ5_append_c97b9_12 : decode cJ5_append_c97b9 12 = .ok (.aload_n 0, 1) := by decide +kernel
theorem dJ5_append_c97b9_13 : decode cJ5_append_c97b9 13 = .ok (.iload_n 3, 1) := by decide +kernel
theorem dJ5_append_c97b9_14 : decode cJ5_append_c97b9 14 = .ok (.invokevirtual 100, 3) := by decide +kernel
theorem dJ5_append_c97b9_17 : decode cJ5_append_c97b9 17 = .ok (.aload_n 0, 1) := by decide +kernel
theorem dJ5_append_c97b9_18 : decode cJ5_append_c97b9 18 = .ok (.invokevirtual 83, 3) := by decide +kernel
theorem dJ5_append_c97b9_21 : decode cJ5_append_c97b9 21 = .ok (.ifCond .eq 16, 3) := by decide +kernel
theorem dJ5_append_c97b9_24 : decode cJ5_append_c97b9 24 = .ok (.iload_n 1, 1) := by decide +kernel
theorem dJ5_append_c97b9_25 : decode cJ5_append_c97b9 25 = .ok (.iload_n 3, 1) := by decide +kernel
theorem dJ5_append_c97b9_26 : decode cJ5_append_c97b9 26 = .ok (.aload_n 0, 1) := by decide +kernel
theorem dJ5_append_c97b9_27 : decode cJ5_append_c97b9 27 = .ok (.getfield 15, 3) := by decide +kernel
theorem dJ5_append_c97b9_30 : decode cJ5_append_c97b9 30 = .ok (.invokestatic 248, 3) := by decide +kernel
theorem dJ5_append_c97b9_33 : decode cJ5_append_c97b9 33 = .ok (.pop, 1) := by decide +kernel
theorem dJ5_append_c97b9_34 : decode cJ5_append_c97b9 34 = .ok (.goto 14, 3) := by decide +kernel
theorem dJ5_append_c97b9_37 : decode cJ5_append_c97b9 37 = .ok (.iload_n 1, 1) := by decide +kernel
theorem dJ5_append_c97b9_38 : decode cJ5_append_c97b9 38 = .ok (.iload_n 2, 1) := by decide +kernel
theorem dJ5_append_c97b9_39 : decode cJ5_append_c97b9 39 = .ok (.iload_n 3, 1) := by decide +kernel
theorem dJ5_append_c97b9_40 : decode cJ5_append_c97b9 40 = .ok (.aload_n 0, 1) := by decide +kernel
theorem dJ5_append_c97b9_41 : decode cJ5_append_c97b9 41 = .ok (.getfield 15, 3) := by decide +kernel
theorem dJ5_append_c97b9_44 : decode cJ5_append_c97b9 44 = .ok (.invokestatic 251, 3) := by decide +kernel
theorem dJ5_append_c97b9_47 : decode cJ5_append_c97b9 47 = .ok (.pop, 1) := by decide +kernel
theorem dJ5_append_c97b9_48 : decode cJ5_append_c97b9 48 = .ok (.aload_n 0, 1) := by decide +kernel
theorem dJ5_append_c97b9_49 : decode cJ5_append_c97b9 49 = .ok (.iload_n 3, 1) := by decide +kernel
theorem dJ5_append_c97b9_50 : decode cJ5_append_c97b9 50 = .ok (.putfield 79, 3) := by decide +kernel
theorem dJ5_append_c97b9_53 : decode cJ5_append_c97b9 53 = .ok (.aload_n 0, 1) := by decide +kernel
theorem dJ5_append_c97b9_54 : decode cJ5_append_c97b9 54 = .ok (.areturn, 1) := by decide +kernel
theorem dJ5_getValue_6d5f1_0 : decode cJ5_getValue_6d5f1 0 = .ok (.aload_n 0, 1) := by decide +kernel
theorem dJ5_getValue_6d5f1_1 : decode cJ5_getValue_6d5f1 1 = .ok (.getfield 15, 3) := by decide +kernel
theorem dJ5_getValue_6d5f1_4 : decode cJ5_getValue_6d5f1 4 = .ok (.areturn, 1) := by decide +kernel
theorem dJ5_isLatin1_aae02_0 : decode cJ5_isLatin1_aae02 0 = .ok (.getstatic 18, 3) := by decide +kernel
theorem dJ5_isLatin1_aae02_3 : decode cJ5_isLatin1_aae02 3 = .ok (.ifCond .eq 14, 3) := by decide +kernel
theorem dJ5_isLatin1_aae02_6 : decode cJ5_isLatin1_aae02 6 = .ok (.aload_n 0, 1) := by decide +kernel
theorem dJ5_isLatin1_aae02_7 : decode cJ5_isLatin1_aae02 7 = .ok (.getfield 22, 3) := by decide +kernel
theorem dJ5_isLatin1_aae02_10 : decode cJ5_isLatin1_aae02 10 = .ok (.ifCond .ne 7, 3) := by decide +kernel
theorem dJ5_isLatin1_aae02_13 : decode cJ5_isLatin1_aae02 13 = .ok (.iconst 1, 1) := by decide +kernel
theorem dJ5_isLatin1_aae02_14 : decode cJ5_isLatin1_aae02 14 = .ok (.goto 4, 3) := by decide +kernel
theorem dJ5_isLatin1_aae02_17 : decode cJ5_isLatin1_aae02 17 = .ok (.iconst 0, 1) := by decide +kernel
theorem dJ5_isLatin1_aae02_18 : decode cJ5_isLatin1_aae02 18 = .ok (.ireturn, 1) := by decide +kernel
theorem dJ5_inflateIfNeededFor_a7421_0 : decode cJ5_inflateIfNeededFor_a7421 0 = .ok (.getstatic 18, 3) := by decide +kernel
theorem dJ5_inflateIfNeededFor_a7421_3 : decode cJ5_inflateIfNeededFor_a7421 3 = .ok (.ifCond .eq 18, 3) := by decide +kernel
theorem dJ5_inflateIfNeededFor_a7421_6 : decode cJ5_inflateIfNeededFor_a7421 6 = .ok (.aload_n 0, 1) := by decide +kernel
theorem dJ5_inflateIfNeededFor_a7421_7 : decode cJ5_inflateIfNeededFor_a7421 7 = .ok (.getfield 22, 3) := by decide +kernel
theorem dJ5_inflateIfNeededFor_a7421_10 : decode cJ5_inflateIfNeededFor_a7421 10 = .ok (.aload_n 1, 1) := by decide +kernel
theorem dJ5_inflateIfNeededFor_a7421_11 : decode cJ5_inflateIfNeededFor_a7421 11 = .ok (.invokevirtual 40, 3) := by decide +kernel
theorem dJ5_inflateIfNeededFor_a7421_14 : decode cJ5_inflateIfNeededFor_a7421 14 = .ok (.if_icmp .eq 7, 3) := by decide +kernel
theorem dJ5_inflateIfNeededFor_a7421_17 : decode cJ5_inflateIfNeededFor_a7421 17 = .ok (.aload_n 0, 1) := by decide +kernel
theorem dJ5_inflateIfNeededFor_a7421_18 : decode cJ5_inflateIfNeededFor_a7421 18 = .ok (.invokevirtual 195, 3) := by decide +kernel
theorem dJ5_inflateIfNeededFor_a7421_21 : decode cJ5_inflateIfNeededFor_a7421 21 = .ok (.return_, 1) := by decide +kernel
theorem dJ5_putStringAt_47b60_0 : decode cJ5_putStringAt_47b60 0 = .ok (.aload_n 0, 1) := by decide +kernel
theorem dJ5_putStringAt_47b60_1 : decode cJ5_putStringAt_47b60 1 = .ok (.aload_n 2, 1) := by decide +kernel
theorem dJ5_putStringAt_47b60_2 : decode cJ5_putStringAt_47b60 2 = .ok (.invokevirtual 397, 3) := by decide +kernel
theorem dJ5_putStringAt_47b60_5 : decode cJ5_putStringAt_47b60 5 = .ok (.aload_n 2, 1) := by decide +kernel
theorem dJ5_putStringAt_47b60_6 : decode cJ5_putStringAt_47b60 6 = .ok (.aload_n 0, 1) := by decide +kernel
theorem dJ5_putStringAt_47b60_7 : decode cJ5_putStringAt_47b60 7 = .ok (.getfield 15, 3) := by decide +kernel
theorem dJ5_putStringAt_47b60_10 : decode cJ5_putStringAt_47b60 10 = .ok (.iload_n 1, 1) := by decide +kernel
theorem dJ5_putStringAt_47b60_11 : decode cJ5_putStringAt_47b60 11 = .ok (.aload_n 0, 1) := by decide +kernel
theorem dJ5_putStringAt_47b60_12 : decode cJ5_putStringAt_47b60 12 = .ok (.getfield 22, 3) := by decide +kernel
theorem dJ5_putStringAt_47b60_15 : decode cJ5_putStringAt_47b60 15 = .ok (.invokevirtual 399, 3) := by decide +kernel
theorem dJ5_putStringAt_47b60_18 : decode cJ5_putStringAt_47b60 18 = .ok (.return_, 1) := by decide +kernel
theorem dJx00060_init_a7421_0 : decode cJx00060_init_a7421 0 = .ok (.aload_n 0, 1) := by decide +kernel
theorem dJx00060_init_a7421_1 : decode cJx00060_init_a7421 1 = .ok (.aload_n 1, 1) := by decide +kernel
theorem dJx00060_init_a7421_2 : decode cJx00060_init_a7421 2 = .ok (.invokespecial 7, 3) := by decide +kernel
theorem dJx00060_init_a7421_5 : decode cJx00060_init_a7421 5 = .ok (.return_, 1) := by decide +kernel
theorem dJx00060_init_d00df_0 : decode cJx00060_init_d00df 0 = .ok (.aload_n 0, 1) := by decide +kernel
theorem dJx00060_init_d00df_1 : decode cJx00060_init_d00df 1 = .ok (.new 10, 3) := by decide +kernel
theorem dJx00060_init_d00df_4 : decode cJx00060_init_d00df 4 = .ok (.dup, 1) := by decide +kernel
theorem dJx00060_init_d00df_5 : decode cJx00060_init_d00df 5 = .ok (.invokespecial 12, 3) := by decide +kernel
theorem dJx00060_init_d00df_8 : decode cJx00060_init_d00df 8 = .ok (.ldc 13, 2) := by decide +kernel
theorem dJx00060_init_d00df_10 : decode cJx00060_init_d00df 10 = .ok (.invokevirtual 15, 3) := by decide +kernel
theorem dJx00060_init_d00df_13 : decode cJx00060_init_d00df 13 = .ok (.iload_n 1, 1) := by decide +kernel
theorem dJx00060_init_d00df_14 : decode cJx00060_init_d00df 14 = .ok (.invokevirtual 19, 3) := by decide +kernel
theorem dJx00060_init_d00df_17 : decode cJx00060_init_d00df 17 = .ok (.invokevirtual 22, 3) := by decide +kernel
theorem dJx00060_init_d00df_20 : decode cJx00060_init_d00df 20 = .ok (.invokespecial 7, 3) := by decide +kernel
theorem dJx00060_init_d00df_23 : decode cJx00060_init_d00df 23 = .ok (.return_, 1) := by decide +kernel
theorem dJ11_isValidCodePoint_9a6ad_0 : decode cJ11_isValidCodePoint_9a6ad 0 = .ok (.iload_n 0, 1) := by decide +kernel
theorem dJ11_isValidCodePoint_9a6ad_1 : decode cJ11_isValidCodePoint_9a6ad 1 = .ok (.bipush 16, 2) := by decide +kernel
theorem dJ11_isValidCodePoint_9a6ad_3 : decode cJ11_isValidCodePoint_9a6ad 3 = .ok (.iushr, 1) := by decide +kernel
theorem dJ11_isValidCodePoint_9a6ad_4 : decode cJ11_isValidCodePoint_9a6ad 4 = .ok (.istore_n 1, 1) := by decide +kernel
theorem dJ11_isValidCodePoint_9a6ad_5 : decode cJ11_isValidCodePoint_9a6ad 5 = .ok (.iload_n 1, 1) := by decide +kernel
theorem dJ11_isValidCodePoint_9a6ad_6 : decode cJ11_isValidCodePoint_9a6ad 6 = .ok (.bipush 17, 2) := by decide +kernel
theorem dJ11_isValidCodePoint_9a6ad_8 : decode cJ11_isValidCodePoint_9a6ad 8 = .ok (.if_icmp .ge 7, 3) := by decide +kernel
theorem dJ11_isValidCodePoint_9a6ad_11 : decode cJ11_isValidCodePoint_9a6ad 11 = .ok (.iconst 1, 1) := by decide +kernel
theorem dJ11_isValidCodePoint_9a6ad_12 : decode cJ11_isValidCodePoint_9a6ad 12 = .ok (.goto 4, 3) := by decide +kernel
theorem dJ11_isValidCodePoint_9a6ad_15 : decode cJ11_isValidCodePoint_9a6ad 15 = .ok (.iconst 0, 1) := by decide +kernel
theorem dJ11_isValidCodePoint_9a6ad_16 : decode cJ11_isValidCodePoint_9a6ad 16 = .ok (.ireturn, 1) := by decide +kernel
theorem dJ11_highSurrogate_5068e_0 : decode cJ11_highSurrogate_5068e 0 = .ok (.iload_n 0, 1) := by decide +kernel
theorem dJ11_highSurrogate_5068e_1 : decode cJ11_highSurrogate_5068e 1 = .ok (.bipush 10, 2) := by decide +kernel
theorem dJ11_highSurrogate_5068e_3 : decode cJ11_highSurrogate_5068e 3 = .ok (.iushr, 1) := by decide +kernel
theorem dJ11_highSurrogate_5068e_4 : decode cJ11_highSurrogate_5068e 4 = .ok (.ldc 110, 2) := by decide +kernel
theorem dJ11_highSurrogate_5068e_6 : decode cJ11_highSurrogate_5068e 6 = .ok (.iadd, 1) := by decide +kernel
theorem dJ11_highSurrogate_5068e_7 : decode cJ11_highSurrogate_5068e 7 = .ok (.i2c, 1) := by decide +kernel
theorem dJ11_highSurrogate_5068e_8 : decode cJ11_highSurrogate_5068e 8 = .ok (.ireturn, 1) := by decide +kernel
theorem dJ11_lowSurrogate_5068e_0 : decode cJ11_lowSurrogate_5068e 0 = .ok (.iload_n 0, 1) := by decide +kernel
theorem dJ11_lowSurrogate_5068e_1 : decode cJ11_lowSurrogate_5068e 1 = .ok (.sipush 1023, 3) := by decide +kernel
theorem dJ11_lowSurrogate_5068e_4 : decode cJ11_lowSurrogate_5068e 4 = .ok (.iand, 1) := by decide +kernel
theorem dJ11_lowSurrogate_5068e_5 : decode cJ11_lowSurrogate_5068e 5 = .ok (.ldc 76, 2) := by decide +kernel
theorem dJ11_lowSurrogate_5068e_7 : decode cJ11_lowSurrogate_5068e 7 = .ok (.iadd, 1) := by decide +kernel
theorem dJ11_lowSurrogate_5068e_8 : decode cJ11_lowSurrogate_5068e 8 = .ok (.i2c, 1) := by decide +kernel
theorem dJ11_lowSurrogate_5068e_9 : decode cJ11_lowSurrogate_5068e 9 = .ok (.ireturn, 1) := by decide +kernel
theorem dJx29ce0_ordinal_8abf5_0 : decode cJx29ce0_ordinal_8abf5 0 = .ok (.aload_n 0, 1) := by decide +kernel
theorem dJx29ce0_ordinal_8abf5_1 : decode cJx29ce0_ordinal_8abf5 1 = .ok (.getfield 7, 3) := by decide +kernel
theorem dJx29ce0_ordinal_8abf5_4 : decode cJx29ce0_ordinal_8abf5 4 = .ok (.ireturn, 1) := by decide +kernel
theorem dJ6_getChars_ba4f3_0 : decode cJ6_getChars_ba4f3 0 = .ok (.iload_n 1, 1) := by decide +kernel
theorem dJ6_getChars_ba4f3_1 : decode cJ6_getChars_ba4f3 1 = .ok (.istore 5, 2) := by decide +kernel
theorem dJ6_getChars_ba4f3_3 : decode cJ6_getChars_ba4f3 3 = .ok (.iload_n 0, 1) := by decide +kernel
theorem dJ6_getChars_ba4f3_4 : decode cJ6_getChars_ba4f3 4 = .ok (.ifCond .ge 7, 3) := by decide +kernel
theorem dJ6_getChars_ba4f3_7 : decode cJ6_getChars_ba4f3 7 = .ok (.iconst 1, 1) := by decide +kernel
theorem dJ6_getChars_ba4f3_8 : decode cJ6_getChars_ba4f3 8 = .ok (.goto 4, 3) := by decide +kernel
theorem dJ6_getChars_ba4f3_11 : decode cJ6_getChars_ba4f3 11 = .ok (.iconst 0, 1) := by decide +kernel
theorem dJ6_getChars_ba4f3_12 : decode cJ6_getChars_ba4f3 12 = .ok (.istore 6, 2) := by decide +kernel
theorem dJ6_getChars_ba4f3_14 : decode cJ6_getChars_ba4f3 14 = .ok (.iload 6, 2) := by decide +kernel
theorem dJ6_getChars_ba4f3_16 : decode cJ6_getChars_ba4f3 16 = .ok (.ifCond .ne 6, 3) := by decide +kernel
theorem dJ6_getChars_ba4f3_19 : decode cJ6_getChars_ba4f3 19 = .ok (.iload_n 0, 1) := by decide +kernel
theorem dJ6_getChars_ba4f3_20 : decode cJ6_getChars_ba4f3 20 = .ok (.ineg, 1) := by decide +kernel
theorem dJ6_getChars_ba4f3_21 : decode cJ6_getChars_ba4f3 21 = .ok (.istore_n 0, 1) := by decide +kernel
theorem dJ6_getChars_ba4f3_22 : decode cJ6_getChars_ba4f3 22 = .ok (.iload_n 0, 1) := by decide +kernel
theorem dJ6_getChars_ba4f3_23 : decode cJ6_getChars_ba4f3 23 = .ok (.bipush (-100), 2) := by decide +kernel
theorem dJ6_getChars_ba4f3_25 : decode cJ6_getChars_ba4f3 25 = .ok (.if_icmp .gt 47, 3) := by decide +kernel
theorem dJ6_getChars_ba4f3_28 : decode cJ6_getChars_ba4f3 28 = .ok (.iload_n 0, 1) := by decide +kernel
theorem dJ6_getChars_ba4f3_29 : decode cJ6_getChars_ba4f3 29 = .ok (.bipush 100, 2) := by decide +kernel
theorem dJ6_getChars_ba4f3_31 : decode cJ6_getChars_ba4f3 31 = .ok (.idiv, 1) := by decide +kernel
theorem dJ6_getChars_ba4f3_32 : decode cJ6_getChars_ba4f3 32 = .ok (.istore_n 3, 1) := by decide +kernel
theorem dJ6_getChars_ba4f3_33 : decode cJ6_getChars_ba4f3 33 = .ok (.iload_n 3, 1) := by decide +kernel
theorem dJ6_getChars_ba4f3_34 : decode cJ6_getChars_ba4f3 34 = .ok (.bipush 100, 2) := by decide +kernel
theorem dJ6_getChars_ba4f3_36 : decode cJ6_getChars_ba4f3 36 = .ok (.imul, 1) := by decide +kernel
theorem dJ6_getChars_ba4f3_37 : decode cJ6_getChars_ba4f3 37 = .ok (.iload_n 0, 1) := by decide +kernel
theorem dJ6_getChars_ba4f3_38 : decode cJ6_getChars_ba4f3 38 = .ok (.isub, 1) := by decide +kernel
theorem dJ6_getChars_ba4f3_39 : decode cJ6_getChars_ba4f3 39 = .ok (.istore 4, 2) := by decide +kernel
theorem dJ6_getChars_ba4f3_41 : decode cJ6_getChars_ba4f3 41 = .ok (.iload_n 3, 1) := by decide +kernel
theorem dJ6_getChars_ba4f3_42 : decode cJ6_getChars_ba4f3 42 = .ok (.istore_n 0, 1) := by decide +kernel
theorem dJ6_getChars_ba4f3_43 : decode cJ6_getChars_ba4f3 43 = .ok (.aload_n 2, 1) := by decide +kernel
theorem dJ6_getChars_ba4f3_44 : decode cJ6_getChars_ba4f3 44 = .ok (.iinc 5 (-1), 3) := by decide +kernel
theorem dJ6_getChars_ba4f3_47 : decode cJ6_getChars_ba4f3 47 = .ok (.iload 5, 2) := by decide +kernel
theorem dJ6_getChars_ba4f3_49 : decode cJ6_getChars_ba4f3 49 = .ok (.getstatic 83, 3) := by decide +kernel
theorem dJ6_getChars_ba4f3_52 : decode cJ6_getChars_ba4f3 52 = .ok (.iload 4, 2) := by decide +kernel
theorem dJ6_getChars_ba4f3_54 : decode cJ6_getChars_ba4f3 54 = .ok (.baload, 1) := by decide +kernel
theorem dJ6_getChars_ba4f3_55 : decode cJ6_getChars_ba4f3 55 = .ok (.bastore, 1) := by decide +kernel
theorem dJ6_getChars_ba4f3_56 : decode cJ6_getChars_ba4f3 56 = .ok (.aload_n 2, 1) := by decide +kernel
theorem dJ6_getChars_ba4f3_57 : decode cJ6_getChars_ba4f3 57 = .ok (.iinc 5 (-1), 3) := by decide +kernel
theorem dJ6_getChars_ba4f3_60 : decode cJ6_getChars_ba4f3 60 = .ok (.iload 5, 2) := by decide +kernel
theorem dJ6_getChars_ba4f3_62 : decode cJ6_getChars_ba4f3 62 = .ok (.getstatic 87, 3) := by decide +kernel
theorem dJ6_getChars_ba4f3_65 : decode cJ6_getChars_ba4f3 65 = .ok (.iload 4, 2) := by decide +kernel
theorem dJ6_getChars_ba4f3_67 : decode cJ6_getChars_ba4f3 67 = .ok (.baload, 1) := by decide +kernel
theorem dJ6_getChars_ba4f3_68 : decode cJ6_getChars_ba4f3 68 = .ok (.bastore, 1) := by decide +kernel
theorem dJ6_getChars_ba4f3_69 : decode cJ6_getChars_ba4f3 69 = .ok (.goto (-47), 3) := by decide +kernel
theorem dJ6_getChars_ba4f3_72 : decode cJ6_getChars_ba4f3 72 = .ok (.aload_n 2, 1) := by decide +kernel
theorem dJ6_getChars_ba4f3_73 : decode cJ6_getChars_ba4f3 73 = .ok (.iinc 5 (-1), 3) := by decide +kernel
theorem dJ6_getChars_ba4f3_76 : decode cJ6_getChars_ba4f3 76 = .ok (.iload 5, 2) := by decide +kernel
theorem dJ6_getChars_ba4f3_78 : decode cJ6_getChars_ba4f3 78 = .ok (.getstatic 83, 3) := by decide +kernel
theorem dJ6_getChars_ba4f3_81 : decode cJ6_getChars_ba4f3 81 = .ok (.iload_n 0, 1) := by decide +kernel
theorem dJ6_getChars_ba4f3_82 : decode cJ6_getChars_ba4f3 82 = .ok (.ineg, 1) := by decide +kernel
theorem dJ6_getChars_ba4f3_83 : decode cJ6_getChars_ba4f3 83 = .ok (.baload, 1) := by decide +kernel
theorem dJ6_getChars_ba4f3_84 : decode cJ6_getChars_ba4f3 84 = .ok (.bastore, 1) := by decide +kernel
theorem dJ6_getChars_ba4f3_85 : decode cJ6_getChars_ba4f3 85 = .ok (.iload_n 0, 1) := by decide +kernel
theorem dJ6_getChars_ba4f3_86 : decode cJ6_getChars_ba4f3 86 = .ok (.bipush (-9), 2) := by decide +kernel
theorem dJ6_getChars_ba4f3_88 : decode cJ6_getChars_ba4f3 88 = .ok (.if_icmp .ge 16, 3) := by decide +kernel
theorem dJ6_getChars_ba4f3_91 : decode cJ6_getChars_ba4f3 91 = .ok (.aload_n 2, 1) := by decide +kernel
theorem dJ6_getChars_ba4f3_92 : decode cJ6_getChars_ba4f3 92 = .ok (.iinc 5 (-1), 3) := by decide +kernel
theorem dJ6_getChars_ba4f3_95 : decode cJ6_getChars_ba4f3 95 = .ok (.iload 5, 2) := by decide +kernel
theorem dJ6_getChars_ba4f3_97 : decode cJ6_getChars_ba4f3 97 = .ok (.getstatic 87, 3) := by decide +kernel
theorem dJ6_getChars_ba4f3_100 : decode cJ6_getChars_ba4f3 100 = .ok (.iload_n 0, 1) := by decide +kernel
theorem dJ6_getChars_ba4f3_101 : decode cJ6_getChars_ba4f3 101 = .ok (.ineg, 1) := by decide +kernel
theorem dJ6_getChars_ba4f3_102 : decode cJ6_getChars_ba4f3 102 = .ok (.baload, 1) := by decide +kernel
theorem dJ6_getChars_ba4f3_103 : decode cJ6_getChars_ba4f3 103 = .ok (.bastore, 1) := by decide +kernel
theorem dJ6_getChars_ba4f3_104 : decode cJ6_getChars_ba4f3 104 = .ok (.iload 6, 2) := by decide +kernel
theorem dJ6_getChars_ba4f3_106 : decode cJ6_getChars_ba4f3 106 = .ok (.ifCond .eq 12, 3) := by decide +kernel
theorem dJ6_getChars_ba4f3_109 : decode cJ6_getChars_ba4f3 109 = .ok (.aload_n 2, 1) := by decide +kernel
theorem dJ6_getChars_ba4f3_110 : decode cJ6_getChars_ba4f3 110 = .ok (.iinc 5 (-1), 3) := by decide +kernel
theorem dJ6_getChars_ba4f3_113 : decode cJ6_getChars_ba4f3 113 = .ok (.iload 5, 2) := by decide +kernel
theorem dJ6_getChars_ba4f3_115 : decode cJ6_getChars_ba4f3 115 = .ok (.bipush 45, 2) := by decide +kernel
theorem dJ6_getChars_ba4f3_117 : decode cJ6_getChars_ba4f3 117 = .ok (.bastore, 1) := by decide +kernel
theorem dJ6_getChars_ba4f3_118 : decode cJ6_getChars_ba4f3 118 = .ok (.iload 5, 2) := by decide +kernel
theorem dJ6_getChars_ba4f3_120 : decode cJ6_getChars_ba4f3 120 = .ok (.ireturn, 1) := by decide +kernel
theorem dJ6_stringSize_0f7a4_0 : decode cJ6_stringSize_0f7a4 0 = .ok (.iconst 1, 1) := by decide +kernel
theorem dJ6_stringSize_0f7a4_1 : decode cJ6_stringSize_0f7a4 1 = .ok (.istore_n 1, 1) := by decide +kernel
theorem dJ6_stringSize_0f7a4_2 : decode cJ6_stringSize_0f7a4 2 = .ok (.iload_n 0, 1) := by decide +kernel
theorem dJ6_stringSize_0f7a4_3 : decode cJ6_stringSize_0f7a4 3 = .ok (.ifCond .lt 8, 3) := by decide +kernel
theorem dJ6_stringSize_0f7a4_6 : decode cJ6_stringSize_0f7a4 6 = .ok (.iconst 0, 1) := by decide +kernel
theorem dJ6_stringSize_0f7a4_7 : decode cJ6_stringSize_0f7a4 7 = .ok (.istore_n 1, 1) := by decide +kernel
theorem dJ6_stringSize_0f7a4_8 : decode cJ6_stringSize_0f7a4 8 = .ok (.iload_n 0, 1) := by decide +kernel
theorem dJ6_stringSize_0f7a4_9 : decode cJ6_stringSize_0f7a4 9 = .ok (.ineg, 1) := by decide +kernel
theorem dJ6_stringSize_0f7a4_10 : decode cJ6_stringSize_0f7a4 10 = .ok (.istore_n 0, 1) := by decide +kernel
theorem dJ6_stringSize_0f7a4_11 : decode cJ6_stringSize_0f7a4 11 = .ok (.bipush (-10), 2) := by decide +kernel
theorem dJ6_stringSize_0f7a4_13 : decode cJ6_stringSize_0f7a4 13 = .ok (.istore_n 2, 1) := by decide +kernel
theorem dJ6_stringSize_0f7a4_14 : decode cJ6_stringSize_0f7a4 14 = .ok (.iconst 1, 1) := by decide +kernel
theorem dJ6_stringSize_0f7a4_15 : decode cJ6_stringSize_0f7a4 15 = .ok (.istore_n 3, 1) := by decide +kernel
theorem dJ6_stringSize_0f7a4_16 : decode cJ6_stringSize_0f7a4 16 = .ok (.iload_n 3, 1) := by decide +kernel
theorem dJ6_stringSize_0f7a4_17 : decode cJ6_stringSize_0f7a4 17 = .ok (.bipush 10, 2) := by decide +kernel
theorem dJ6_stringSize_0f7a4_19 : decode cJ6_stringSize_0f7a4 19 = .ok (.if_icmp .ge 23, 3) := by decide +kernel
theorem dJ6_stringSize_0f7a4_22 : decode cJ6_stringSize_0f7a4 22 = .ok (.iload_n 0, 1) := by decide +kernel
theorem dJ6_stringSize_0f7a4_23 : decode cJ6_stringSize_0f7a4 23 = .ok (.iload_n 2, 1) := by decide +kernel
theorem dJ6_stringSize_0f7a4_24 : decode cJ6_stringSize_0f7a4 24 = .ok (.if_icmp .le 7, 3) := by decide +kernel
theorem dJ6_stringSize_0f7a4_27 : decode cJ6_stringSize_0f7a4 27 = .ok (.iload_n 3, 1) := by decide +kernel
theorem dJ6_stringSize_0f7a4_28 : decode cJ6_stringSize_0f7a4 28 = .ok (.iload_n 1, 1) := by decide +kernel
theorem dJ6_stringSize_0f7a4_29 : decode cJ6_stringSize_0f7a4 29 = .ok (.iadd, 1) := by decide +kernel
theorem dJ6_stringSize_0f7a4_30 : decode cJ6_stringSize_0f7a4 30 = .ok (.ireturn, 1) := by decide +kernel
theorem dJ6_stringSize_0f7a4_31 : decode cJ6_stringSize_0f7a4 31 = .ok (.bipush 10, 2) := by decide +kernel
theorem dJ6_stringSize_0f7a4_33 : decode cJ6_stringSize_0f7a4 33 = .ok (.iload_n 2, 1) := by decide +kernel
theorem dJ6_stringSize_0f7a4_34 : decode cJ6_stringSize_0f7a4 34 = .ok (.imul, 1) := by decide +kernel
theorem dJ6_stringSize_0f7a4_35 : decode cJ6_stringSize_0f7a4 35 = .ok (.istore_n 2, 1) := by decide +kernel
theorem dJ6_stringSize_0f7a4_36 : decode cJ6_stringSize_0f7a4 36 = .ok (.iinc 3 1, 3) := by decide +kernel
theorem dJ6_stringSize_0f7a4_39 : decode cJ6_stringSize_0f7a4 39 = .ok (.goto (-23), 3) := by decide +kernel
theorem dJ6_stringSize_0f7a4_42 : decode cJ6_stringSize_0f7a4 42 = .ok (.bipush 10, 2) := by decide +kernel
theorem dJ6_stringSize_0f7a4_44 : decode cJ6_stringSize_0f7a4 44 = .ok (.iload_n 1, 1) := by decide +kernel
theorem dJ6_stringSize_0f7a4_45 : decode cJ6_stringSize_0f7a4 45 = .ok (.iadd, 1) := by decide +kernel
theorem dJ6_stringSize_0f7a4_46 : decode cJ6_stringSize_0f7a4 46 = .ok (.ireturn, 1) := by decide +kernel
theorem dJ13_bitCount_95d88_0 : decode cJ13_bitCount_95d88 0 = .ok (.lload_n 0, 1) := by decide +kernel
theorem dJ13_bitCount_95d88_1 : decode cJ13_bitCount_95d88 1 = .ok (.lload_n 0, 1) := by decide +kernel
theorem dJ13_bitCount_95d88_2 : decode cJ13_bitCount_95d88 2 = .ok (.iconst 1, 1) := by decide +kernel
theorem dJ13_bitCount_95d88_3 : decode cJ13_bitCount_95d88 3 = .ok (.lushr, 1) := by decide +kernel
theorem dJ13_bitCount_95d88_4 : decode cJ13_bitCount_95d88 4 = .ok (.ldc2_w 314, 3) := by decide +kernel
theorem dJ13_bitCount_95d88_7 : decode cJ13_bitCount_95d88 7 = .ok (.land, 1) := by decide +kernel
theorem dJ13_bitCount_95d88_8 : decode cJ13_bitCount_95d88 8 = .ok (.lsub, 1) := by decide +kernel
theorem dJ13_bitCount_95d88_9 : decode cJ13_bitCount_95d88 9 = .ok (.lstore_n 0, 1) := by decide +kernel
theorem dJ13_bitCount_95d88_10 : decode cJ13_bitCount_95d88 10 = .ok (.lload_n 0, 1) := by decide +kernel
theorem dJ13_bitCount_95d88_11 : decode cJ13_bitCount_95d88 11 = .ok (.ldc2_w 316, 3) := by decide +kernel
theorem dJ13_bitCount_95d88_14 : decode cJ13_bitCount_95d88 14 = .ok (.land, 1) := by decide +kernel
theorem dJ13_bitCount_95d88_15 : decode cJ13_bitCount_95d88 15 = .ok (.lload_n 0, 1) := by decide +kernel
theorem dJ13_bitCount_95d88_16 : decode cJ13_bitCount_95d88 16 = .ok (.iconst 2, 1) := by decide +kernel
theorem dJ13_bitCount_95d88_17 : decode cJ13_bitCount_95d88 17 = .ok (.lushr, 1) := by decide +kernel
theorem dJ13_bitCount_95d88_18 : decode cJ13_bitCount_95d88 18 = .ok (.ldc2_w 316, 3) := by decide +kernel
theorem dJ13_bitCount_95d88_21 : decode cJ13_bitCount_95d88 21 = .ok (.land, 1) := by decide +kernel
theorem dJ13_bitCount_95d88_22 : decode cJ13_bitCount_95d88 22 = .ok (.ladd, 1) := by decide +kernel
theorem dJ13_bitCount_95d88_23 : decode cJ13_bitCount_95d88 23 = .ok (.lstore_n 0, 1) := by decide +kernel
theorem dJ13_bitCount_95d88_24 : decode cJ13_bitCount_95d88 24 = .ok (.lload_n 0, 1) := by decide +kernel
theorem dJ13_bitCount_95d88_25 : decode cJ13_bitCount_95d88 25 = .ok (.lload_n 0, 1) := by decide +kernel
theorem dJ13_bitCount_95d88_26 : decode cJ13_bitCount_95d88 26 = .ok (.iconst 4, 1) := by decide +kernel
theorem dJ13_bitCount_95d88_27 : decode cJ13_bitCount_95d88 27 = .ok (.lushr, 1) := by decide +kernel
theorem dJ13_bitCount_95d88_28 : decode cJ13_bitCount_95d88 28 = .ok (.ladd, 1) := by decide +kernel
theorem dJ13_bitCount_95d88_29 : decode cJ13_bitCount_95d88 29 = .ok (.ldc2_w 318, 3) := by decide +kernel
theorem dJ13_bitCount_95d88_32 : decode cJ13_bitCount_95d88 32 = .ok (.land, 1) := by decide +kernel
theorem dJ13_bitCount_95d88_33 : decode cJ13_bitCount_95d88 33 = .ok (.lstore_n 0, 1) := by decide +kernel
theorem dJ13_bitCount_95d88_34 : decode cJ13_bitCount_95d88 34 = .ok (.lload_n 0, 1) := by decide +kernel
theorem dJ13_bitCount_95d88_35 : decode cJ13_bitCount_95d88 35 = .ok (.lload_n 0, 1) := by decide +kernel
theorem dJ13_bitCount_95d88_36 : decode cJ13_bitCount_95d88 36 = .ok (.bipush 8, 2) := by decide +kernel
theorem dJ13_bitCount_95d88_38 : decode cJ13_bitCount_95d88 38 = .ok (.lushr, 1) := by decide +kernel
theorem dJ13_bitCount_95d88_39 : decode cJ13_bitCount_95d88 39 = .ok (.ladd, 1) := by decide +kernel
theorem dJ13_bitCount_95d88_40 : decode cJ13_bitCount_95d88 40 = .ok (.lstore_n 0, 1) := by decide +kernel
theorem dJ13_bitCount_95d88_41 : decode cJ13_bitCount_95d88 41 = .ok (.lload_n 0, 1) := by decide +kernel
theorem dJ13_bitCount_95d88_42 : decode cJ13_bitCount_95d88 42 = .ok (.lload_n 0, 1) := by decide +kernel
theorem dJ13_bitCount_95d88_43 : decode cJ13_bitCount_95d88 43 = .ok (.bipush 16, 2) := by decide +kernel
theorem dJ13_bitCount_95d88_45 : decode cJ13_bitCount_95d88 45 = .ok (.lushr, 1) := by decide +kernel
theorem dJ13_bitCount_95d88_46 : decode cJ13_bitCount_95d88 46 = .ok (.ladd, 1) := by decide +kernel
theorem dJ13_bitCount_95d88_47 : decode cJ13_bitCount_95d88 47 = .ok (.lstore_n 0, 1) := by decide +kernel
theorem dJ13_bitCount_95d88_48 : decode cJ13_bitCount_95d88 48 = .ok (.lload_n 0, 1) := by decide +kernel
theorem dJ13_bitCount_95d88_49 : decode cJ13_bitCount_95d88 49 = .ok (.lload_n 0, 1) := by decide +kernel
theorem dJ13_bitCount_95d88_50 : decode cJ13_bitCount_95d88 50 = .ok (.bipush 32, 2) := by decide +kernel
theorem dJ13_bitCount_95d88_52 : decode cJ13_bitCount_95d88 52 = .ok (.lushr, 1) := by decide +kernel
theorem dJ13_bitCount_95d88_53 : decode cJ13_bitCount_95d88 53 = .ok (.ladd, 1) := by decide +kernel
theorem dJ13_bitCount_95d88_54 : decode cJ13_bitCount_95d88 54 = .ok (.lstore_n 0, 1) := by decide +kernel
theorem dJ13_bitCount_95d88_55 : decode cJ13_bitCount_95d88 55 = .ok (.lload_n 0, 1) := by decide +kernel
theorem dJ13_bitCount_95d88_56 : decode cJ13_bitCount_95d88 56 = .ok (.l2i, 1) := by decide +kernel
theorem dJ13_bitCount_95d88_57 : decode cJ13_bitCount_95d88 57 = .ok (.bipush 127, 2) := by decide +kernel
theorem dJ13_bitCount_95d88_59 : decode cJ13_bitCount_95d88 59 = .ok (.iand, 1) := by decide +kernel
theorem dJ13_bitCount_95d88_60 : decode cJ13_bitCount_95d88 60 = .ok (.ireturn, 1) := by decide +kernel
theorem dJ9_max_7cf53_0 : decode cJ9_max_7cf53 0 = .ok (.iload_n 0, 1) := by decide +kernel
theorem dJ9_max_7cf53_1 : decode cJ9_max_7cf53 1 = .ok (.iload_n 1, 1) := by decide +kernel
theorem dJ9_max_7cf53_2 : decode cJ9_max_7cf53 2 = .ok (.if_icmp .lt 7, 3) := by decide +kernel
theorem dJ9_max_7cf53_5 : decode cJ9_max_7cf53 5 = .ok (.iload_n 0, 1) := by decide +kernel
theorem dJ9_max_7cf53_6 : decode cJ9_max_7cf53 6 = .ok (.goto 4, 3) := by decide +kernel
theorem dJ9_max_7cf53_9 : decode cJ9_max_7cf53 9 = .ok (.iload_n 1, 1) := by decide +kernel
theorem dJ9_max_7cf53_10 : decode cJ9_max_7cf53 10 = .ok (.ireturn, 1) := by decide +kernel
theorem dJ9_min_7cf53_0 : decode cJ9_min_7cf53 0 = .ok (.iload_n 0, 1) := by decide +kernel
theorem dJ9_min_7cf53_1 : decode cJ9_min_7cf53 1 = .ok (.iload_n 1, 1) := by decide +kernel
theorem dJ9_min_7cf53_2 : decode cJ9_min_7cf53 2 = .ok (.if_icmp .gt 7, 3) := by decide +kernel
theorem dJ9_min_7cf53_5 : decode cJ9_min_7cf53 5 = .ok (.iload_n 0, 1) := by decide +kernel
theorem dJ9_min_7cf53_6 : decode cJ9_min_7cf53 6 = .ok (.goto 4, 3) := by decide +kernel
theorem dJ9_min_7cf53_9 : decode cJ9_min_7cf53 9 = .ok (.iload_n 1, 1) := by decide +kernel
theorem dJ9_min_7cf53_10 : decode cJ9_min_7cf53 10 = .ok (.ireturn, 1) := by decide +kernel
theorem dJ0_init_81219_0 : decode cJ0_init_81219 0 = .ok (.aload_n 0, 1) := by decide +kernel
theorem dJ0_init_81219_1 : decode cJ0_init_81219 1 = .ok (.aload_n 1, 1) := by decide +kernel
theorem dJ0_init_81219_2 : decode cJ0_init_81219 2 = .ok (.aconst_null, 1) := by decide +kernel
theorem dJ0_init_81219_3 : decode cJ0_init_81219 3 = .ok (.invokespecial 489, 3) := by decide +kernel
theorem dJ0_init_81219_6 : decode cJ0_init_81219 6 = .ok (.return_, 1) := by decide +kernel
theorem dJ0_length_8abf5_0 : decode cJ0_length_8abf5 0 = .ok (.aload_n 0, 1) := by decide +kernel
theorem dJ0_length_8abf5_1 : decode cJ0_length_8abf5 1 = .ok (.getfield 9, 3) := by decide +kernel
theorem dJ0_length_8abf5_4 : decode cJ0_length_8abf5 4 = .ok (.arraylength, 1) := by decide +kernel
theorem dJ0_length_8abf5_5 : decode cJ0_length_8abf5 5 = .ok (.aload_n 0, 1) := by decide +kernel
theorem dJ0_length_8abf5_6 : decode cJ0_length_8abf5 6 = .ok (.invokevirtual 335, 3) := by decide +kernel
theorem dJ0_length_8abf5_9 : decode cJ0_length_8abf5 9 = .ok (.ishr, 1) := by decide +kernel
theorem dJ0_length_8abf5_10 : decode cJ0_length_8abf5 10 = .ok (.ireturn, 1) := by decide +kernel
theorem dJ0_charAt_5068e_0 : decode cJ0_charAt_5068e 0 = .ok (.aload_n 0, 1) := by decide +kernel
theorem dJ0_charAt_5068e_1 : decode cJ0_charAt_5068e 1 = .ok (.invokevirtual 492, 3) := by decide +kernel
theorem dJ0_charAt_5068e_4 : decode cJ0_charAt_5068e 4 = .ok (.ifCond .eq 12, 3) := by decide +kernel
theorem dJ0_charAt_5068e_7 : decode cJ0_charAt_5068e 7 = .ok (.aload_n 0, 1) := by decide +kernel
theorem dJ0_charAt_5068e_8 : decode cJ0_charAt_5068e 8 = .ok (.getfield 9, 3) := by decide +kernel
theorem dJ0_charAt_5068e_11 : decode cJ0_charAt_5068e 11 = .ok (.iload_n 1, 1) := by decide +kernel
theorem dJ0_charAt_5068e_12 : decode cJ0_charAt_5068e 12 = .ok (.invokestatic 495, 3) := by decide +kernel
theorem dJ0_charAt_5068e_15 : decode cJ0_charAt_5068e 15 = .ok (.ireturn, 1) := by decide +kernel
theorem dJ0_charAt_5068e_16 : decode cJ0_charAt_5068e 16 = .ok (.aload_n 0, 1) := by decide +kernel
theorem dJ0_charAt_5068e_17 : decode cJ0_charAt_5068e 17 = .ok (.getfield 9, 3) := by decide +kernel
theorem dJ0_charAt_5068e_20 : decode cJ0_charAt_5068e 20 = .ok (.iload_n 1, 1) := by decide +kernel
theorem dJ0_charAt_5068e_21 : decode cJ0_charAt_5068e 21 = .ok (.invokestatic 498, 3) := by decide +kernel
theorem dJ0_charAt_5068e_24 : decode cJ0_charAt_5068e 24 = .ok (.ireturn, 1) := by decide +kernel
theorem dJ0_indexOf_0f7a4_0 : decode cJ0_indexOf_0f7a4 0 = .ok (.aload_n 0, 1) := by decide +kernel
theorem dJ0_indexOf_0f7a4_1 : decode cJ0_indexOf_0f7a4 1 = .ok (.iload_n 1, 1) := by decide +kernel
theorem dJ0_indexOf_0f7a4_2 : decode cJ0_indexOf_0f7a4 2 = .ok (.iconst 0, 1) := by decide +kernel
theorem dJ0_indexOf_0f7a4_3 : decode cJ0_indexOf_0f7a4 3 = .ok (.invokevirtual 633, 3) := by decide +kernel
theorem dJ0_indexOf_0f7a4_6 : decode cJ0_indexOf_0f7a4 6 = .ok (.ireturn, 1) := by decide +kernel
theorem dJ0_indexOf_7cf53_0 : decode cJ0_indexOf_7cf53 0 = .ok (.aload_n 0, 1) := by decide +kernel
theorem dJ0_indexOf_7cf53_1 : decode cJ0_indexOf_7cf53 1 = .ok (.invokevirtual 492, 3) := by decide +kernel
theorem dJ0_indexOf_7cf53_4 : decode cJ0_indexOf_7cf53 4 = .ok (.ifCond .eq 19, 3) := by decide +kernel
theorem dJ0_indexOf_7cf53_7 : decode cJ0_indexOf_7cf53 7 = .ok (.aload_n 0, 1) := by decide +kernel
theorem dJ0_indexOf_7cf53_8 : decode cJ0_indexOf_7cf53 8 = .ok (.getfield 9, 3) := by decide +kernel
theorem dJ0_indexOf_7cf53_11 : decode cJ0_indexOf_7cf53 11 = .ok (.iload_n 1, 1) := by decide +kernel
theorem dJ0_indexOf_7cf53_12 : decode cJ0_indexOf_7cf53 12 = .ok (.iload_n 2, 1) := by decide +kernel
theorem dJ0_indexOf_7cf53_13 : decode cJ0_indexOf_7cf53 13 = .ok (.aload_n 0, 1) := by decide +kernel
theorem dJ0_indexOf_7cf53_14 : decode cJ0_indexOf_7cf53 14 = .ok (.invokevirtual 505, 3) := by decide +kernel
theorem dJ0_indexOf_7cf53_17 : decode cJ0_indexOf_7cf53 17 = .ok (.invokestatic 637, 3) := by decide +kernel
theorem dJ0_indexOf_7cf53_20 : decode cJ0_indexOf_7cf53 20 = .ok (.goto 16, 3) := by decide +kernel
theorem dJ0_indexOf_7cf53_23 : decode cJ0_indexOf_7cf53 23 = .ok (.aload_n 0, 1) := by decide +kernel
theorem dJ0_indexOf_7cf53_24 : decode cJ0_indexOf_7cf53 24 = .ok (.getfield 9, 3) := by decide +kernel
theorem dJ0_indexOf_7cf53_27 : decode cJ0_indexOf_7cf53 27 = .ok (.iload_n 1, 1) := by decide +kernel
theorem dJ0_indexOf_7cf53_28 : decode cJ0_indexOf_7cf53 28 = .ok (.iload_n 2, 1) := by decide +kernel
theorem dJ0_indexOf_7cf53_29 : decode cJ0_indexOf_7cf53 29 = .ok (.aload_n 0, 1) := by decide +kernel
theorem dJ0_indexOf_7cf53_30 : decode cJ0_indexOf_7cf53 30 = .ok (.invokevirtual 505, 3) := by decide +kernel
theorem dJ0_indexOf_7cf53_33 : decode cJ0_indexOf_7cf53 33 = .ok (.invokestatic 640, 3) := by decide +kernel
theorem dJ0_indexOf_7cf53_36 : decode cJ0_indexOf_7cf53 36 = .ok (.ireturn, 1) := by decide +kernel
theorem dJ0_getBytes_840e7_0 : decode cJ0_getBytes_840e7 0 = .ok (.aload_n 0, 1) := by decide +kernel
theorem dJ0_getBytes_840e7_1 : decode cJ0_getBytes_840e7 1 = .ok (.invokevirtual 335, 3) := by decide +kernel
theorem dJ0_getBytes_840e7_4 : decode cJ0_getBytes_840e7 4 = .ok (.iload_n 3, 1) := by decide +kernel
theorem dJ0_getBytes_840e7_5 : decode cJ0_getBytes_840e7 5 = .ok (.if_icmp .ne 23, 3) := by decide +kernel
theorem dJ0_getBytes_840e7_8 : decode cJ0_getBytes_840e7 8 = .ok (.aload_n 0, 1) := by decide +kernel
theorem dJ0_getBytes_840e7_9 : decode cJ0_getBytes_840e7 9 = .ok (.getfield 9, 3) := by decide +kernel
theorem dJ0_getBytes_840e7_12 : decode cJ0_getBytes_840e7 12 = .ok (.iconst 0, 1) := by decide +kernel
theorem dJ0_getBytes_840e7_13 : decode cJ0_getBytes_840e7 13 = .ok (.aload_n 1, 1) := by decide +kernel
theorem dJ0_getBytes_840e7_14 : decode cJ0_getBytes_840e7 14 = .ok (.iload_n 2, 1) := by decide +kernel
theorem dJ0_getBytes_840e7_15 : decode cJ0_getBytes_840e7 15 = .ok (.iload_n 3, 1) := by decide +kernel
theorem dJ0_getBytes_840e7_16 : decode cJ0_getBytes_840e7 16 = .ok (.ishl, 1) := by decide +kernel
theorem dJ0_getBytes_840e7_17 : decode cJ0_getBytes_840e7 17 = .ok (.aload_n 0, 1) := by decide +kernel
theorem dJ0_getBytes_840e7_18 : decode cJ0_getBytes_840e7 18 = .ok (.getfield 9, 3) := by decide +kernel
theorem dJ0_getBytes_840e7_21 : decode cJ0_getBytes_840e7 21 = .ok (.arraylength, 1) := by decide +kernel
theorem dJ0_getBytes_840e7_22 : decode cJ0_getBytes_840e7 22 = .ok (.invokestatic 212, 3) := by decide +kernel
theorem dJ0_getBytes_840e7_25 : decode cJ0_getBytes_840e7 25 = .ok (.goto 18, 3) := by decide +kernel
theorem dJ0_getBytes_840e7_28 : decode cJ0_getBytes_840e7 28 = .ok (.aload_n 0, 1) := by decide +kernel
theorem dJ0_getBytes_840e7_29 : decode cJ0_getBytes_840e7 29 = .ok (.getfield 9, 3) := by decide +kernel
theorem dJ0_getBytes_840e7_32 : decode cJ0_getBytes_840e7 32 = .ok (.iconst 0, 1) := by decide +kernel
theorem dJ0_getBytes_840e7_33 : decode cJ0_getBytes_840e7 33 = .ok (.aload_n 1, 1) := by decide +kernel
theorem dJ0_getBytes_840e7_34 : decode cJ0_getBytes_840e7 34 = .ok (.iload_n 2, 1) := by decide +kernel
theorem dJ0_getBytes_840e7_35 : decode cJ0_getBytes_840e7 35 = .ok (.aload_n 0, 1) := by decide +kernel
theorem dJ0_getBytes_840e7_36 : decode cJ0_getBytes_840e7 36 = .ok (.getfield 9, 3) := by decide +kernel
theorem dJ0_getBytes_840e7_39 : decode cJ0_getBytes_840e7 39 = .ok (.arraylength, 1) := by decide +kernel
theorem dJ0_getBytes_840e7_40 : decode cJ0_getBytes_840e7 40 = .ok (.invokestatic 106, 3) := by decide +kernel
theorem dJ0_getBytes_840e7_43 : decode cJ0_getBytes_840e7 43 = .ok (.return_, 1) := by decide +kernel
theorem dJ0_init_db425_0 : decode cJ0_init_db425 0 = .ok (.aload_n 0, 1) := by decide +kernel
theorem dJ0_init_db425_1 : decode cJ0_init_db425 1 = .ok (.invokespecial 1, 3) := by decide +kernel
theorem dJ0_init_db425_4 : decode cJ0_init_db425 4 = .ok (.aload_n 1, 1) := by decide +kernel
theorem dJ0_init_db425_5 : decode cJ0_init_db425 5 = .ok (.invokevirtual 552, 3) := by decide +kernel
theorem dJ0_init_db425_8 : decode cJ0_init_db425 8 = .ok (.astore_n 3, 1) := by decide +kernel
theorem dJ0_init_db425_9 : decode cJ0_init_db425 9 = .ok (.aload_n 1, 1) := by decide +kernel
theorem dJ0_init_db425_10 : decode cJ0_init_db425 10 = .ok (.invokevirtual 549, 3) := by decide +kernel
theorem dJ0_init_db425_13 : decode cJ0_init_db425 13 = .ok (.istore 4, 2) := by decide +kernel
theorem dJ0_init_db425_15 : decode cJ0_init_db425 15 = .ok (.aload_n 1, 1) := by decide +kernel
theorem dJ0_init_db425_16 : decode cJ0_init_db425 16 = .ok (.invokevirtual 1047, 3) := by decide +kernel
theorem dJ0_init_db425_19 : decode cJ0_init_db425 19 = .ok (.ifCond .eq 22, 3) := by decide +kernel
theorem dJ0_init_db425_22 : decode cJ0_init_db425 22 = .ok (.aload_n 0, 1) := by decide +kernel
theorem dJ0_init_db425_23 : decode cJ0_init_db425 23 = .ok (.iconst 0, 1) := by decide +kernel
theorem dJ0_init_db425_24 : decode cJ0_init_db425 24 = .ok (.putfield 15, 3) := by decide +kernel
theorem dJ0_init_db425_27 : decode cJ0_init_db425 27 = .ok (.aload_n 0, 1) := by decide +kernel
theorem dJ0_init_db425_28 : decode cJ0_init_db425 28 = .ok (.aload_n 3, 1) := by decide +kernel
theorem dJ0_init_db425_29 : decode cJ0_init_db425 29 = .ok (.iconst 0, 1) := by decide +kernel
theorem dJ0_init_db425_30 : decode cJ0_init_db425 30 = .ok (.iload 4, 2) := by decide +kernel
theorem dJ0_init_db425_32 : decode cJ0_init_db425 32 = .ok (.invokestatic 54, 3) := by decide +kernel
theorem dJ0_init_db425_35 : decode cJ0_init_db425 35 = .ok (.putfield 9, 3) := by decide +kernel
theorem dJ0_init_db425_38 : decode cJ0_init_db425 38 = .ok (.goto 59, 3) := by decide +kernel
theorem dJ0_init_db425_41 : decode cJ0_init_db425 41 = .ok (.getstatic 38, 3) := by decide +kernel
theorem dJ0_init_db425_44 : decode cJ0_init_db425 44 = .ok (.ifCond .eq 35, 3) := by decide +kernel
theorem dJ0_init_db425_47 : decode cJ0_init_db425 47 = .ok (.aload_n 1, 1) := by decide +kernel
theorem dJ0_init_db425_48 : decode cJ0_init_db425 48 = .ok (.getfield 1048, 3) := by decide +kernel
theorem dJ0_init_db425_51 : decode cJ0_init_db425 51 = .ok (.ifCond .eq 28, 3) := by decide +kernel
theorem dJ0_init_db425_54 : decode cJ0_init_db425 54 = .ok (.aload_n 0, 1) := by decide +kernel
theorem dJ0_init_db425_55 : decode cJ0_init_db425 55 = .ok (.aload_n 3, 1) := by decide +kernel
theorem dJ0_init_db425_56 : decode cJ0_init_db425 56 = .ok (.iconst 0, 1) := by decide +kernel
theorem dJ0_init_db425_57 : decode cJ0_init_db425 57 = .ok (.iload 4, 2) := by decide +kernel
theorem dJ0_init_db425_59 : decode cJ0_init_db425 59 = .ok (.invokestatic 1051, 3) := by decide +kernel
theorem dJ0_init_db425_62 : decode cJ0_init_db425 62 = .ok (.putfield 9, 3) := by decide +kernel
theorem dJ0_init_db425_65 : decode cJ0_init_db425 65 = .ok (.aload_n 0, 1) := by decide +kernel
theorem dJ0_init_db425_66 : decode cJ0_init_db425 66 = .ok (.aload_n 0, 1) := by decide +kernel
theorem dJ0_init_db425_67 : decode cJ0_init_db425 67 = .ok (.getfield 9, 3) := by decide +kernel
theorem dJ0_init_db425_70 : decode cJ0_init_db425 70 = .ok (.iload 4, 2) := by decide +kernel
theorem dJ0_init_db425_72 : decode cJ0_init_db425 72 = .ok (.invokestatic 47, 3) := by decide +kernel
theorem dJ0_init_db425_75 : decode cJ0_init_db425 75 = .ok (.putfield 15, 3) := by decide +kernel
theorem dJ0_init_db425_78 : decode cJ0_init_db425 78 = .ok (.return_, 1) := by decide +kernel
theorem dJ0_init_db425_79 : decode cJ0_init_db425 79 = .ok (.aload_n 0, 1) := by decide +kernel
theorem dJ0_init_db425_80 : decode cJ0_init_db425 80 = .ok (.iconst 1, 1) := by decide +kernel
theorem dJ0_init_db425_81 : decode cJ0_init_db425 81 = .ok (.putfield 15, 3) := by decide +kernel
theorem dJ0_init_db425_84 : decode cJ0_init_db425 84 = .ok (.aload_n 0, 1) := by decide +kernel
theorem dJ0_init_db425_85 : decode cJ0_init_db425 85 = .ok (.aload_n 3, 1) := by decide +kernel
theorem dJ0_init_db425_86 : decode cJ0_init_db425 86 = .ok (.iconst 0, 1) := by decide +kernel
theorem dJ0_init_db425_87 : decode cJ0_init_db425 87 = .ok (.iload 4, 2) := by decide +kernel
theorem dJ0_init_db425_89 : decode cJ0_init_db425 89 = .ok (.iconst 1, 1) := by decide +kernel
theorem dJ0_init_db425_90 : decode cJ0_init_db425 90 = .ok (.ishl, 1) := by decide +kernel
theorem dJ0_init_db425_91 : decode cJ0_init_db425 91 = .ok (.invokestatic 54, 3) := by decide +kernel
theorem dJ0_init_db425_94 : decode cJ0_init_db425 94 = .ok (.putfield 9, 3) := by decide +kernel
theorem dJ0_init_db425_97 : decode cJ0_init_db425 97 = .ok (.return_, 1) := by decide +kernel
theorem dJ0_coder_7d493_0 : decode cJ0_coder_7d493 0 = .ok (.getstatic 38, 3) := by decide +kernel
theorem dJ0_coder_7d493_3 : decode cJ0_coder_7d493 3 = .ok (.ifCond .eq 10, 3) := by decide +kernel
theorem dJ0_coder_7d493_6 : decode cJ0_coder_7d493 6 = .ok (.aload_n 0, 1) := by decide +kernel
theorem dJ0_coder_7d493_7 : decode cJ0_coder_7d493 7 = .ok (.getfield 15, 3) := by decide +kernel
theorem dJ0_coder_7d493_10 : decode cJ0_coder_7d493 10 = .ok (.goto 4, 3) := by decide +kernel
theorem dJ0_coder_7d493_13 : decode cJ0_coder_7d493 13 = .ok (.iconst 1, 1) := by decide +kernel
theorem dJ0_coder_7d493_14 : decode cJ0_coder_7d493 14 = .ok (.ireturn, 1) := by decide +kernel
theorem dJ0_isLatin1_aae02_0 : decode cJ0_isLatin1_aae02 0 = .ok (.getstatic 38, 3) := by decide +kernel
theorem dJ0_isLatin1_aae02_3 : decode cJ0_isLatin1_aae02 3 = .ok (.ifCond .eq 14, 3) := by decide +kernel
theorem dJ0_isLatin1_aae02_6 : decode cJ0_isLatin1_aae02 6 = .ok (.aload_n 0, 1) := by decide +kernel
theorem dJ0_isLatin1_aae02_7 : decode cJ0_isLatin1_aae02 7 = .ok (.getfield 15, 3) := by decide +kernel
theorem dJ0_isLatin1_aae02_10 : decode cJ0_isLatin1_aae02 10 = .ok (.ifCond .ne 7, 3) := by decide +kernel
theorem dJ0_isLatin1_aae02_13 : decode cJ0_isLatin1_aae02 13 = .ok (.iconst 1, 1) := by decide +kernel
theorem dJ0_isLatin1_aae02_14 : decode cJ0_isLatin1_aae02 14 = .ok (.goto 4, 3) := by decide +kernel
theorem dJ0_isLatin1_aae02_17 : decode cJ0_isLatin1_aae02 17 = .ok (.iconst 0, 1) := by decide +kernel
theorem dJ0_isLatin1_aae02_18 : decode cJ0_isLatin1_aae02 18 = .ok (.ireturn, 1) := by decide +kernel
theorem dJ0_checkIndex_df160_0 : decode cJ0_checkIndex_df160 0 = .ok (.iload_n 0, 1) := by decide +kernel
theorem dJ0_checkIndex_df160_1 : decode cJ0_checkIndex_df160 1 = .ok (.iload_n 1, 1) := by decide +kernel
theorem dJ0_checkIndex_df160_2 : decode cJ0_checkIndex_df160 2 = .ok (.getstatic 1053, 3) := by decide +kernel
theorem dJ0_checkIndex_df160_5 : decode cJ0_checkIndex_df160 5 = .ok (.invokestatic 1059, 3) := by decide +kernel
theorem dJ0_checkIndex_df160_8 : decode cJ0_checkIndex_df160 8 = .ok (.pop, 1) := by decide +kernel
theorem dJ0_checkIndex_df160_9 : decode cJ0_checkIndex_df160 9 = .ok (.return_, 1) := by decide +kernel
theorem dJ0_checkBoundsOffCount_cabcc_0 : decode cJ0_checkBoundsOffCount_cabcc 0 = .ok (.iload_n 0, 1) := by decide +kernel
theorem dJ0_checkBoundsOffCount_cabcc_1 : decode cJ0_checkBoundsOffCount_cabcc 1 = .ok (.iload_n 1, 1) := by decide +kernel
theorem dJ0_checkBoundsOffCount_cabcc_2 : decode cJ0_checkBoundsOffCount_cabcc 2 = .ok (.iload_n 2, 1) := by decide +kernel
theorem dJ0_checkBoundsOffCount_cabcc_3 : decode cJ0_checkBoundsOffCount_cabcc 3 = .ok (.getstatic 1053, 3) := by decide +kernel
theorem dJ0_checkBoundsOffCount_cabcc_6 : decode cJ0_checkBoundsOffCount_cabcc 6 = .ok (.invokestatic 1065, 3) := by decide +kernel
theorem dJ0_checkBoundsOffCount_cabcc_9 : decode cJ0_checkBoundsOffCount_cabcc 9 = .ok (.ireturn, 1) := by decide +kernel
theorem dJ0_checkBoundsBeginEnd_23922_0 : decode cJ0_checkBoundsBeginEnd_23922 0 = .ok (.iload_n 0, 1) := by decide +kernel
theorem dJ0_checkBoundsBeginEnd_23922_1 : decode cJ0_checkBoundsBeginEnd_23922 1 = .ok (.iload_n 1, 1) := by decide +kernel
theorem dJ0_checkBoundsBeginEnd_23922_2 : decode cJ0_checkBoundsBeginEnd_23922 2 = .ok (.iload_n 2, 1) := by decide +kernel
theorem dJ0_checkBoundsBeginEnd_23922_3 : decode cJ0_checkBoundsBeginEnd_23922 3 = .ok (.getstatic 1053, 3) := by decide +kernel
theorem dJ0_checkBoundsBeginEnd_23922_6 : decode cJ0_checkBoundsBeginEnd_23922 6 = .ok (.invokestatic 1062, 3) := by decide +kernel
theorem dJ0_checkBoundsBeginEnd_23922_9 : decode cJ0_checkBoundsBeginEnd_23922 9 = .ok (.pop, 1) := by decide +kernel
theorem dJ0_checkBoundsBeginEnd_23922_10 : decode cJ0_checkBoundsBeginEnd_23922 10 = .ok (.return_, 1) := by decide +kernel
theorem dJ4_init_da8c8_0 : decode cJ4_init_da8c8 0 = .ok (.aload_n 0, 1) := by decide +kernel
theorem dJ4_init_da8c8_1 : decode cJ4_init_da8c8 1 = .ok (.bipush 16, 2) := by decide +kernel
theorem dJ4_init_da8c8_3 : decode cJ4_init_da8c8 3 = .ok (.invokespecial 1, 3) := by decide +kernel
theorem dJ4_init_da8c8_6 : decode cJ4_init_da8c8 6 = .ok (.return_, 1) := by decide +kernel
theorem dJ4_append_15ec4_0 : decode cJ4_append_15ec4 0 = .ok (.aload_n 0, 1) := by decide +kernel
theorem dJ4_append_15ec4_1 : decode cJ4_append_15ec4 1 = .ok (.aload_n 1, 1) := by decide +kernel
theorem dJ4_append_15ec4_2 : decode cJ4_append_15ec4 2 = .ok (.invokespecial 29, 3) := by decide +kernel
theorem dJ4_append_15ec4_5 : decode cJ4_append_15ec4 5 = .ok (.pop, 1) := by decide +kernel
theorem dJ4_append_15ec4_6 : decode cJ4_append_15ec4 6 = .ok (.aload_n 0, 1) := by decide +kernel
theorem dJ4_append_15ec4_7 : decode cJ4_append_15ec4 7 = .ok (.areturn, 1) := by decide +kernel
theorem dJ4_append_cf468_0 : decode cJ4_append_cf468 0 = .ok (.aload_n 0, 1) := by decide +kernel
theorem dJ4_append_cf468_1 : decode cJ4_append_cf468 1 = .ok (.iload_n 1, 1) := by decide +kernel
theorem dJ4_append_cf468_2 : decode cJ4_append_cf468 2 = .ok (.invokespecial 50, 3) := by decide +kernel
theorem dJ4_append_cf468_5 : decode cJ4_append_cf468 5 = .ok (.pop, 1) := by decide +kernel
theorem dJ4_append_cf468_6 : decode cJ4_append_cf468 6 = .ok (.aload_n 0, 1) := by decide +kernel
theorem dJ4_append_cf468_7 : decode cJ4_append_cf468 7 = .ok (.areturn, 1) := by decide +kernel
theorem dJ4_append_bf812_0 : decode cJ4_append_bf812 0 = .ok (.aload_n 0, 1) := by decide +kernel
theorem dJ4_append_bf812_1 : decode cJ4_append_bf812 1 = .ok (.iload_n 1, 1) := by decide +kernel
theorem dJ4_append_bf812_2 : decode cJ4_append_bf812 2 = .ok (.invokespecial 53, 3) := by decide +kernel
theorem dJ4_append_bf812_5 : decode cJ4_append_bf812 5 = .ok (.pop, 1) := by decide +kernel
theorem dJ4_append_bf812_6 : decode cJ4_append_bf812 6 = .ok (.aload_n 0, 1) := by decide +kernel
theorem dJ4_append_bf812_7 : decode cJ4_append_bf812 7 = .ok (.areturn, 1) := by decide +kernel
theorem dJ4_toString_0e30d_0 : decode cJ4_toString_0e30d 0 = .ok (.new 18, 3) := by decide +kernel
theorem dJ4_toString_0e30d_3 : decode cJ4_toString_0e30d 3 = .ok (.dup, 1) := by decide +kernel
theorem dJ4_toString_0e30d_4 : decode cJ4_toString_0e30d 4 = .ok (.aload_n 0, 1) := by decide +kernel
theorem dJ4_toString_0e30d_5 : decode cJ4_toString_0e30d 5 = .ok (.invokespecial 137, 3) := by decide +kernel
theorem dJ4_toString_0e30d_8 : decode cJ4_toString_0e30d 8 = .ok (.areturn, 1) := by decide +kernel
theorem dJ4_charAt_5068e_0 : decode cJ4_charAt_5068e 0 = .ok (.aload_n 0, 1) := by decide +kernel
theorem dJ4_charAt_5068e_1 : decode cJ4_charAt_5068e 1 = .ok (.iload_n 1, 1) := by decide +kernel
theorem dJ4_charAt_5068e_2 : decode cJ4_charAt_5068e 2 = .ok (.invokespecial 329, 3) := by decide +kernel
theorem dJ4_charAt_5068e_5 : decode cJ4_charAt_5068e 5 = .ok (.ireturn, 1) := by decide +kernel
theorem dJ4_setLength_d00df_0 : decode cJ4_setLength_d00df 0 = .ok (.aload_n 0, 1) := by decide +kernel
theorem dJ4_setLength_d00df_1 : decode cJ4_setLength_d00df 1 = .ok (.iload_n 1, 1) := by decide +kernel
theorem dJ4_setLength_d00df_2 : decode cJ4_setLength_d00df 2 = .ok (.invokespecial 333, 3) := by decide +kernel
theorem dJ4_setLength_d00df_5 : decode cJ4_setLength_d00df 5 = .ok (.return_, 1) := by decide +kernel
theorem dJ4_length_8abf5_0 : decode cJ4_length_8abf5 0 = .ok (.aload_n 0, 1) := by decide +kernel
theorem dJ4_length_8abf5_1 : decode cJ4_length_8abf5 1 = .ok (.invokespecial 343, 3) := by decide +kernel
theorem dJ4_length_8abf5_4 : decode cJ4_length_8abf5 4 = .ok (.ireturn, 1) := by decide +kernel
theorem dJx7c733_init_d00df_0 : decode cJx7c733_init_d00df 0 = .ok (.aload_n 0, 1) := by decide +kernel
theorem dJx7c733_init_d00df_1 : decode cJx7c733_init_d00df 1 = .ok (.new 10, 3) := by decide +kernel
theorem dJx7c733_init_d00df_4 : decode cJx7c733_init_d00df 4 = .ok (.dup, 1) := by decide +kernel
theorem dJx7c733_init_d00df_5 : decode cJx7c733_init_d00df 5 = .ok (.invokespecial 12, 3) := by decide +kernel
theorem dJx7c733_init_d00df_8 : decode cJx7c733_init_d00df 8 = .ok (.ldc 13, 2) := by decide +kernel
theorem dJx7c733_init_d00df_10 : decode cJx7c733_init_d00df 10 = .ok (.invokevirtual 15, 3) := by decide +kernel
theorem dJx7c733_init_d00df_13 : decode cJx7c733_init_d00df 13 = .ok (.iload_n 1, 1) := by decide +kernel
theorem dJx7c733_init_d00df_14 : decode cJx7c733_init_d00df 14 = .ok (.invokevirtual 19, 3) := by decide +kernel
theorem dJx7c733_init_d00df_17 : decode cJx7c733_init_d00df 17 = .ok (.invokevirtual 22, 3) := by decide +kernel
theorem dJx7c733_init_d00df_20 : decode cJx7c733_init_d00df 20 = .ok (.invokespecial 7, 3) := by decide +kernel
theorem dJx7c733_init_d00df_23 : decode cJx7c733_init_d00df 23 = .ok (.return_, 1) := by decide +kernel
theorem dJ1_charAt_3b067_0 : decode cJ1_charAt_3b067 0 = .ok (.iload_n 1, 1) := by decide +kernel
theorem dJ1_charAt_3b067_1 : decode cJ1_charAt_3b067 1 = .ok (.aload_n 0, 1) := by decide +kernel
theorem dJ1_charAt_3b067_2 : decode cJ1_charAt_3b067 2 = .ok (.arraylength, 1) := by decide +kernel
theorem dJ1_charAt_3b067_3 : decode cJ1_charAt_3b067 3 = .ok (.invokestatic 9, 3) := by decide +kernel
theorem dJ1_charAt_3b067_6 : decode cJ1_charAt_3b067 6 = .ok (.aload_n 0, 1) := by decide +kernel
theorem dJ1_charAt_3b067_7 : decode cJ1_charAt_3b067 7 = .ok (.iload_n 1, 1) := by decide +kernel
theorem dJ1_charAt_3b067_8 : decode cJ1_charAt_3b067 8 = .ok (.baload, 1) := by decide +kernel
theorem dJ1_charAt_3b067_9 : decode cJ1_charAt_3b067 9 = .ok (.sipush 255, 3) := by decide +kernel
theorem dJ1_charAt_3b067_12 : decode cJ1_charAt_3b067 12 = .ok (.iand, 1) := by decide +kernel
theorem dJ1_charAt_3b067_13 : decode cJ1_charAt_3b067 13 = .ok (.i2c, 1) := by decide +kernel
theorem dJ1_charAt_3b067_14 : decode cJ1_charAt_3b067 14 = .ok (.ireturn, 1) := by decide +kernel
theorem dJ1_canEncode_fc78d_0 : decode cJ1_canEncode_fc78d 0 = .ok (.iload_n 0, 1) := by decide +kernel
theorem dJ1_canEncode_fc78d_1 : decode cJ1_canEncode_fc78d 1 = .ok (.sipush 255, 3) := by decide +kernel
theorem dJ1_canEncode_fc78d_4 : decode cJ1_canEncode_fc78d 4 = .ok (.if_icmp .gt 7, 3) := by decide +kernel
theorem dJ1_canEncode_fc78d_7 : decode cJ1_canEncode_fc78d 7 = .ok (.iconst 1, 1) := by decide +kernel
theorem dJ1_canEncode_fc78d_8 : decode cJ1_canEncode_fc78d 8 = .ok (.goto 4, 3) := by decide +kernel
theorem dJ1_canEncode_fc78d_11 : decode cJ1_canEncode_fc78d 11 = .ok (.iconst 0, 1) := by decide +kernel
theorem dJ1_canEncode_fc78d_12 : decode cJ1_canEncode_fc78d 12 = .ok (.ireturn, 1) := by decide +kernel
theorem dJ1_canEncode_9a6ad_0 : decode cJ1_canEncode_9a6ad 0 = .ok (.iload_n 0, 1) := by decide +kernel
theorem dJ1_canEncode_9a6ad_1 : decode cJ1_canEncode_9a6ad 1 = .ok (.ifCond .lt 14, 3) := by decide +kernel
theorem dJ1_canEncode_9a6ad_4 : decode cJ1_canEncode_9a6ad 4 = .ok (.iload_n 0, 1) := by decide +kernel
theorem dJ1_canEncode_9a6ad_5 : decode cJ1_canEncode_9a6ad 5 = .ok (.sipush 255, 3) := by decide +kernel
theorem dJ1_canEncode_9a6ad_8 : decode cJ1_canEncode_9a6ad 8 = .ok (.if_icmp .gt 7, 3) := by decide +kernel
theorem dJ1_canEncode_9a6ad_11 : decode cJ1_canEncode_9a6ad 11 = .ok (.iconst 1, 1) := by decide +kernel
theorem dJ1_canEncode_9a6ad_12 : decode cJ1_canEncode_9a6ad 12 = .ok (.goto 4, 3) := by decide +kernel
theorem dJ1_canEncode_9a6ad_15 : decode cJ1_canEncode_9a6ad 15 = .ok (.iconst 0, 1) := by decide +kernel
theorem dJ1_canEncode_9a6ad_16 : decode cJ1_canEncode_9a6ad 16 = .ok (.ireturn, 1) := by decide +kernel
theorem dJ1_indexOf_4cfef_0 : decode cJ1_indexOf_4cfef 0 = .ok (.iload_n 1, 1) := by decide +kernel
theorem dJ1_indexOf_4cfef_1 : decode cJ1_indexOf_4cfef 1 = .ok (.invokestatic 88, 3) := by decide +kernel
theorem dJ1_indexOf_4cfef_4 : decode cJ1_indexOf_4cfef 4 = .ok (.ifCond .ne 5, 3) := by decide +kernel
theorem dJ1_indexOf_4cfef_7 : decode cJ1_indexOf_4cfef 7 = .ok (.iconst (-1), 1) := by decide +kernel
theorem dJ1_indexOf_4cfef_8 : decode cJ1_indexOf_4cfef 8 = .ok (.ireturn, 1) := by decide +kernel
theorem dJ1_indexOf_4cfef_9 : decode cJ1_indexOf_4cfef 9 = .ok (.iload_n 2, 1) := by decide +kernel
theorem dJ1_indexOf_4cfef_10 : decode cJ1_indexOf_4cfef 10 = .ok (.iconst 0, 1) := by decide +kernel
theorem dJ1_indexOf_4cfef_11 : decode cJ1_indexOf_4cfef 11 = .ok (.invokestatic 92, 3) := by decide +kernel
theorem dJ1_indexOf_4cfef_14 : decode cJ1_indexOf_4cfef 14 = .ok (.istore_n 2, 1) := by decide +kernel
theorem dJ1_indexOf_4cfef_15 : decode cJ1_indexOf_4cfef 15 = .ok (.iload_n 3, 1) := by decide +kernel
theorem dJ1_indexOf_4cfef_16 : decode cJ1_indexOf_4cfef 16 = .ok (.aload_n 0, 1) := by decide +kernel
theorem dJ1_indexOf_4cfef_17 : decode cJ1_indexOf_4cfef 17 = .ok (.arraylength, 1) := by decide +kernel
theorem dJ1_indexOf_4cfef_18 : decode cJ1_indexOf_4cfef 18 = .ok (.invokestatic 38, 3) := by decide +kernel
theorem dJ1_indexOf_4cfef_21 : decode cJ1_indexOf_4cfef 21 = .ok (.istore_n 3, 1) := by decide +kernel
theorem dJ1_indexOf_4cfef_22 : decode cJ1_indexOf_4cfef 22 = .ok (.iload_n 2, 1) := by decide +kernel
theorem dJ1_indexOf_4cfef_23 : decode cJ1_indexOf_4cfef 23 = .ok (.iload_n 3, 1) := by decide +kernel
theorem dJ1_indexOf_4cfef_24 : decode cJ1_indexOf_4cfef 24 = .ok (.if_icmp .lt 5, 3) := by decide +kernel
theorem dJ1_indexOf_4cfef_27 : decode cJ1_indexOf_4cfef 27 = .ok (.iconst (-1), 1) := by decide +kernel
theorem dJ1_indexOf_4cfef_28 : decode cJ1_indexOf_4cfef 28 = .ok (.ireturn, 1) := by decide +kernel
theorem dJ1_indexOf_4cfef_29 : decode cJ1_indexOf_4cfef 29 = .ok (.aload_n 0, 1) := by decide +kernel
theorem dJ1_indexOf_4cfef_30 : decode cJ1_indexOf_4cfef 30 = .ok (.iload_n 1, 1) := by decide +kernel
theorem dJ1_indexOf_4cfef_31 : decode cJ1_indexOf_4cfef 31 = .ok (.iload_n 2, 1) := by decide +kernel
theorem dJ1_indexOf_4cfef_32 : decode cJ1_indexOf_4cfef 32 = .ok (.iload_n 3, 1) := by decide +kernel
theorem dJ1_indexOf_4cfef_33 : decode cJ1_indexOf_4cfef 33 = .ok (.invokestatic 95, 3) := by decide +kernel
theorem dJ1_indexOf_4cfef_36 : decode cJ1_indexOf_4cfef 36 = .ok (.ireturn, 1) := by decide +kernel
theorem dJ1_indexOfChar_4cfef_0 : decode cJ1_indexOfChar_4cfef 0 = .ok (.iload_n 1, 1) := by decide +kernel
theorem dJ1_indexOfChar_4cfef_1 : decode cJ1_indexOfChar_4cfef 1 = .ok (.i2b, 1) := by decide +kernel
theorem dJ1_indexOfChar_4cfef_2 : decode cJ1_indexOfChar_4cfef 2 = .ok (.istore 4, 2) := by decide +kernel
theorem dJ1_indexOfChar_4cfef_4 : decode cJ1_indexOfChar_4cfef 4 = .ok (.iload_n 2, 1) := by decide +kernel
theorem dJ1_indexOfChar_4cfef_5 : decode cJ1_indexOfChar_4cfef 5 = .ok (.istore 5, 2) := by decide +kernel
theorem dJ1_indexOfChar_4cfef_7 : decode cJ1_indexOfChar_4cfef 7 = .ok (.iload 5, 2) := by decide +kernel
theorem dJ1_indexOfChar_4cfef_9 : decode cJ1_indexOfChar_4cfef 9 = .ok (.iload_n 3, 1) := by decide +kernel
theorem dJ1_indexOfChar_4cfef_10 : decode cJ1_indexOfChar_4cfef 10 = .ok (.if_icmp .ge 21, 3) := by decide +kernel
theorem dJ1_indexOfChar_4cfef_13 : decode cJ1_indexOfChar_4cfef 13 = .ok (.aload_n 0, 1) := by decide +kernel
theorem dJ1_indexOfChar_4cfef_14 : decode cJ1_indexOfChar_4cfef 14 = .ok (.iload 5, 2) := by decide +kernel
theorem dJ1_indexOfChar_4cfef_16 : decode cJ1_indexOfChar_4cfef 16 = .ok (.baload, 1) := by decide +kernel
theorem dJ1_indexOfChar_4cfef_17 : decode cJ1_indexOfChar_4cfef 17 = .ok (.iload 4, 2) := by decide +kernel
theorem dJ1_indexOfChar_4cfef_19 : decode cJ1_indexOfChar_4cfef 19 = .ok (.if_icmp .ne 6, 3) := by decide +kernel
theorem dJ1_indexOfChar_4cfef_22 : decode cJ1_indexOfChar_4cfef 22 = .ok (.iload 5, 2) := by decide +kernel
theorem dJ1_indexOfChar_4cfef_24 : decode cJ1_indexOfChar_4cfef 24 = .ok (.ireturn, 1) := by decide +kernel
theorem dJ1_indexOfChar_4cfef_25 : decode cJ1_indexOfChar_4cfef 25 = .ok (.iinc 5 1, 3) := by decide +kernel
theorem dJ1_indexOfChar_4cfef_28 : decode cJ1_indexOfChar_4cfef 28 = .ok (.goto (-21), 3) := by decide +kernel
theorem dJ1_indexOfChar_4cfef_31 : decode cJ1_indexOfChar_4cfef 31 = .ok (.iconst (-1), 1) := by decide +kernel
theorem dJ1_indexOfChar_4cfef_32 : decode cJ1_indexOfChar_4cfef 32 = .ok (.ireturn, 1) := by decide +kernel
theorem dJ1_fillNull_b72d1_0 : decode cJ1_fillNull_b72d1 0 = .ok (.aload_n 0, 1) := by decide +kernel
theorem dJ1_fillNull_b72d1_1 : decode cJ1_fillNull_b72d1 1 = .ok (.iload_n 1, 1) := by decide +kernel
theorem dJ1_fillNull_b72d1_2 : decode cJ1_fillNull_b72d1 2 = .ok (.iload_n 2, 1) := by decide +kernel
theorem dJ1_fillNull_b72d1_3 : decode cJ1_fillNull_b72d1 3 = .ok (.iconst 0, 1) := by decide +kernel
theorem dJ1_fillNull_b72d1_4 : decode cJ1_fillNull_b72d1 4 = .ok (.invokestatic 236, 3) := by decide +kernel
theorem dJ1_fillNull_b72d1_7 : decode cJ1_fillNull_b72d1 7 = .ok (.return_, 1) := by decide +kernel
theorem dJ1_inflate_0e8fd_0 : decode cJ1_inflate_0e8fd 0 = .ok (.aload_n 0, 1) := by decide +kernel
theorem dJ1_inflate_0e8fd_1 : decode cJ1_inflate_0e8fd 1 = .ok (.iload_n 1, 1) := by decide +kernel
theorem dJ1_inflate_0e8fd_2 : decode cJ1_inflate_0e8fd 2 = .ok (.aload_n 2, 1) := by decide +kernel
theorem dJ1_inflate_0e8fd_3 : decode cJ1_inflate_0e8fd 3 = .ok (.iload_n 3, 1) := by decide +kernel
theorem dJ1_inflate_0e8fd_4 : decode cJ1_inflate_0e8fd 4 = .ok (.iload 4, 2) := by decide +kernel
theorem dJ1_inflate_0e8fd_6 : decode cJ1_inflate_0e8fd 6 = .ok (.invokestatic 240, 3) := by decide +kernel
theorem dJ1_inflate_0e8fd_9 : decode cJ1_inflate_0e8fd 9 = .ok (.return_, 1) := by decide +kernel
theorem dJ2_newBytesFor_77867_0 : decode cJ2_newBytesFor_77867 0 = .ok (.iload_n 0, 1) := by decide +kernel
theorem dJ2_newBytesFor_77867_1 : decode cJ2_newBytesFor_77867 1 = .ok (.invokestatic 11, 3) := by decide +kernel
theorem dJ2_newBytesFor_77867_4 : decode cJ2_newBytesFor_77867 4 = .ok (.newarray .byte, 2) := by decide +kernel
theorem dJ2_newBytesFor_77867_6 : decode cJ2_newBytesFor_77867 6 = .ok (.areturn, 1) := by decide +kernel
theorem dJ2_newBytesLength_0f7a4_0 : decode cJ2_newBytesLength_0f7a4 0 = .ok (.iload_n 0, 1) := by decide +kernel
theorem dJ2_newBytesLength_0f7a4_1 : decode cJ2_newBytesLength_0f7a4 1 = .ok (.ifCond .ge 11, 3) := by decide +kernel
theorem dJ2_newBytesLength_0f7a4_4 : decode cJ2_newBytesLength_0f7a4 4 = .ok (.new 17, 3) := by decide +kernel
theorem dJ2_newBytesLength_0f7a4_7 : decode cJ2_newBytesLength_0f7a4 7 = .ok (.dup, 1) := by decide +kernel
theorem dJ2_newBytesLength_0f7a4_8 : decode cJ2_newBytesLength_0f7a4 8 = .ok (.invokespecial 19, 3) := by decide +kernel
theorem dJ2_newBytesLength_0f7a4_11 : decode cJ2_newBytesLength_0f7a4 11 = .ok (.athrow, 1) := by decide +kernel
theorem dJ2_newBytesLength_0f7a4_12 : decode cJ2_newBytesLength_0f7a4 12 = .ok (.iload_n 0, 1) := by decide +kernel
theorem dJ2_newBytesLength_0f7a4_13 : decode cJ2_newBytesLength_0f7a4 13 = .ok (.ldc 20, 2) := by decide +kernel
theorem dJ2_newBytesLength_0f7a4_15 : decode cJ2_newBytesLength_0f7a4 15 = .ok (.if_icmp .lt 40, 3) := by decide +kernel
theorem dJ2_newBytesLength_0f7a4_18 : decode cJ2_newBytesLength_0f7a4 18 = .ok (.new 21, 3) := by decide +kernel
theorem dJ2_newBytesLength_0f7a4_21 : decode cJ2_newBytesLength_0f7a4 21 = .ok (.dup, 1) := by decide +kernel
theorem dJ2_newBytesLength_0f7a4_22 : decode cJ2_newBytesLength_0f7a4 22 = .ok (.new 23, 3) := by decide +kernel
theorem dJ2_newBytesLength_0f7a4_25 : decode cJ2_newBytesLength_0f7a4 25 = .ok (.dup, 1) := by decide +kernel
theorem dJ2_newBytesLength_0f7a4_26 : decode cJ2_newBytesLength_0f7a4 26 = .ok (.invokespecial 25, 3) := by decide +kernel
theorem dJ2_newBytesLength_0f7a4_29 : decode cJ2_newBytesLength_0f7a4 29 = .ok (.ldc 26, 2) := by decide +kernel
theorem dJ2_newBytesLength_0f7a4_31 : decode cJ2_newBytesLength_0f7a4 31 = .ok (.invokevirtual 28, 3) := by decide +kernel
theorem dJ2_newBytesLength_0f7a4_34 : decode cJ2_newBytesLength_0f7a4 34 = .ok (.iload_n 0, 1) := by decide +kernel
theorem dJ2_newBytesLength_0f7a4_35 : decode cJ2_newBytesLength_0f7a4 35 = .ok (.invokevirtual 32, 3) := by decide +kernel
theorem dJ2_newBytesLength_0f7a4_38 : decode cJ2_newBytesLength_0f7a4 38 = .ok (.ldc 35, 2) := by decide +kernel
theorem dJ2_newBytesLength_0f7a4_40 : decode cJ2_newBytesLength_0f7a4 40 = .ok (.invokevirtual 28, 3) := by decide +kernel
theorem dJ2_newBytesLength_0f7a4_43 : decode cJ2_newBytesLength_0f7a4 43 = .ok (.ldc 20, 2) := by decide +kernel
theorem dJ2_newBytesLength_0f7a4_45 : decode cJ2_newBytesLength_0f7a4 45 = .ok (.invokevirtual 32, 3) := by decide +kernel
theorem dJ2_newBytesLength_0f7a4_48 : decode cJ2_newBytesLength_0f7a4 48 = .ok (.invokevirtual 37, 3) := by decide +kernel
theorem dJ2_newBytesLength_0f7a4_51 : decode cJ2_newBytesLength_0f7a4 51 = .ok (.invokespecial 41, 3) := by decide +kernel
theorem dJ2_newBytesLength_0f7a4_54 : decode cJ2_newBytesLength_0f7a4 54 = .ok (.athrow, 1) := by decide +kernel
theorem dJ2_newBytesLength_0f7a4_55 : decode cJ2_newBytesLength_0f7a4 55 = .ok (.iload_n 0, 1) := by decide +kernel
theorem dJ2_newBytesLength_0f7a4_56 : decode cJ2_newBytesLength_0f7a4 56 = .ok (.iconst 1, 1) := by decide +kernel
theorem dJ2_newBytesLength_0f7a4_57 : decode cJ2_newBytesLength_0f7a4 57 = .ok (.ishl, 1) := by decide +kernel
theorem dJ2_newBytesLength_0f7a4_58 : decode cJ2_newBytesLength_0f7a4 58 = .ok (.ireturn, 1) := by decide +kernel
theorem dJ2_putChar_b72d1_0 : decode cJ2_putChar_b72d1 0 = .ok (.getstatic 44, 3) := by decide +kernel
theorem dJ2_putChar_b72d1_3 : decode cJ2_putChar_b72d1 3 = .ok (.ifCond .ne 25, 3) := by decide +kernel
theorem dJ2_putChar_b72d1_6 : decode cJ2_putChar_b72d1 6 = .ok (.iload_n 1, 1) := by decide +kernel
theorem dJ2_putChar_b72d1_7 : decode cJ2_putChar_b72d1 7 = .ok (.ifCond .lt 11, 3) := by decide +kernel
theorem dJ2_putChar_b72d1_10 : decode cJ2_putChar_b72d1 10 = .ok (.iload_n 1, 1) := by decide +kernel
theorem dJ2_putChar_b72d1_11 : decode cJ2_putChar_b72d1 11 = .ok (.aload_n 0, 1) := by decide +kernel
theorem dJ2_putChar_b72d1_12 : decode cJ2_putChar_b72d1 12 = .ok (.invokestatic 48, 3) := by decide +kernel
theorem dJ2_putChar_b72d1_15 : decode cJ2_putChar_b72d1 15 = .ok (.if_icmp .lt 13, 3) := by decide +kernel
theorem dJ2_putChar_b72d1_18 : decode cJ2_putChar_b72d1 18 = .ok (.new 52, 3) := by decide +kernel
theorem dJ2_putChar_b72d1_21 : decode cJ2_putChar_b72d1 21 = .ok (.dup, 1) := by decide +kernel
theorem dJ2_putChar_b72d1_22 : decode cJ2_putChar_b72d1 22 = .ok (.ldc 54, 2) := by decide +kernel
theorem dJ2_putChar_b72d1_24 : decode cJ2_putChar_b72d1 24 = .ok (.invokespecial 56, 3) := by decide +kernel
theorem dJ2_putChar_b72d1_27 : decode cJ2_putChar_b72d1 27 = .ok (.athrow, 1) := by decide +kernel
theorem dJ2_putChar_b72d1_28 : decode cJ2_putChar_b72d1 28 = .ok (.iload_n 1, 1) := by decide +kernel
theorem dJ2_putChar_b72d1_29 : decode cJ2_putChar_b72d1 29 = .ok (.iconst 1, 1) := by decide +kernel
theorem dJ2_putChar_b72d1_30 : decode cJ2_putChar_b72d1 30 = .ok (.ishl, 1) := by decide +kernel
theorem dJ2_putChar_b72d1_31 : decode cJ2_putChar_b72d1 31 = .ok (.istore_n 1, 1) := by decide +kernel
theorem dJ2_putChar_b72d1_32 : decode cJ2_putChar_b72d1 32 = .ok (.aload_n 0, 1) := by decide +kernel
theorem dJ2_putChar_b72d1_33 : decode cJ2_putChar_b72d1 33 = .ok (.iload_n 1, 1) := by decide +kernel
theorem dJ2_putChar_b72d1_34 : decode cJ2_putChar_b72d1 34 = .ok (.iinc 1 1, 3) := by decide +kernel
theorem dJ2_putChar_b72d1_37 : decode cJ2_putChar_b72d1 37 = .ok (.iload_n 2, 1) := by decide +kernel
theorem dJ2_putChar_b72d1_38 : decode cJ2_putChar_b72d1 38 = .ok (.getstatic 59, 3) := by decide +kernel
theorem dJ2_putChar_b72d1_41 : decode cJ2_putChar_b72d1 41 = .ok (.ishr, 1) := by decide +kernel
theorem dJ2_putChar_b72d1_42 : decode cJ2_putChar_b72d1 42 = .ok (.i2b, 1) := by decide +kernel
theorem dJ2_putChar_b72d1_43 : decode cJ2_putChar_b72d1 43 = .ok (.bastore, 1) := by decide +kernel
theorem dJ2_putChar_b72d1_44 : decode cJ2_putChar_b72d1 44 = .ok (.aload_n 0, 1) := by decide +kernel
theorem dJ2_putChar_b72d1_45 : decode cJ2_putChar_b72d1 45 = .ok (.iload_n 1, 1) := by decide +kernel
theorem dJ2_putChar_b72d1_46 : decode cJ2_putChar_b72d1 46 = .ok (.iload_n 2, 1) := by decide +kernel
theorem dJ2_putChar_b72d1_47 : decode cJ2_putChar_b72d1 47 = .ok (.getstatic 63, 3) := by decide +kernel
theorem dJ2_putChar_b72d1_50 : decode cJ2_putChar_b72d1 50 = .ok (.ishr, 1) := by decide +kernel
theorem dJ2_putChar_b72d1_51 : decode cJ2_putChar_b72d1 51 = .ok (.i2b, 1) := by decide +kernel
theorem dJ2_putChar_b72d1_52 : decode cJ2_putChar_b72d1 52 = .ok (.bastore, 1) := by decide +kernel
theorem dJ2_putChar_b72d1_53 : decode cJ2_putChar_b72d1 53 = .ok (.return_, 1) := by decide +kernel
theorem dJ2_getChar_3b067_0 : decode cJ2_getChar_3b067 0 = .ok (.getstatic 44, 3) := by decide +kernel
theorem dJ2_getChar_3b067_3 : decode cJ2_getChar_3b067 3 = .ok (.ifCond .ne 25, 3) := by decide +kernel
theorem dJ2_getChar_3b067_6 : decode cJ2_getChar_3b067 6 = .ok (.iload_n 1, 1) := by decide +kernel
theorem dJ2_getChar_3b067_7 : decode cJ2_getChar_3b067 7 = .ok (.ifCond .lt 11, 3) := by decide +kernel
theorem dJ2_getChar_3b067_10 : decode cJ2_getChar_3b067 10 = .ok (.iload_n 1, 1) := by decide +kernel
theorem dJ2_getChar_3b067_11 : decode cJ2_getChar_3b067 11 = .ok (.aload_n 0, 1) := by decide +kernel
theorem dJ2_getChar_3b067_12 : decode cJ2_getChar_3b067 12 = .ok (.invokestatic 48, 3) := by decide +kernel
theorem dJ2_getChar_3b067_15 : decode cJ2_getChar_3b067 15 = .ok (.if_icmp .lt 13, 3) := by decide +kernel
theorem dJ2_getChar_3b067_18 : decode cJ2_getChar_3b067 18 = .ok (.new 52, 3) := by decide +kernel
theorem dJ2_getChar_3b067_21 : decode cJ2_getChar_3b067 21 = .ok (.dup, 1) := by decide +kernel
theorem dJ2_getChar_3b067_22 : decode cJ2_getChar_3b067 22 = .ok (.ldc 54, 2) := by decide +kernel
theorem dJ2_getChar_3b067_24 : decode cJ2_getChar_3b067 24 = .ok (.invokespecial 56, 3) := by decide +kernel
theorem dJ2_getChar_3b067_27 : decode cJ2_getChar_3b067 27 = .ok (.athrow, 1) := by decide +kernel
theorem dJ2_getChar_3b067_28 : decode cJ2_getChar_3b067 28 = .ok (.iload_n 1, 1) := by decide +kernel
theorem dJ2_getChar_3b067_29 : decode cJ2_getChar_3b067 29 = .ok (.iconst 1, 1) := by decide +kernel
theorem dJ2_getChar_3b067_30 : decode cJ2_getChar_3b067 30 = .ok (.ishl, 1) := by decide +kernel
theorem dJ2_getChar_3b067_31 : decode cJ2_getChar_3b067 31 = .ok (.istore_n 1, 1) := by decide +kernel
theorem dJ2_getChar_3b067_32 : decode cJ2_getChar_3b067 32 = .ok (.aload_n 0, 1) := by decide +kernel
theorem dJ2_getChar_3b067_33 : decode cJ2_getChar_3b067 33 = .ok (.iload_n 1, 1) := by decide +kernel
theorem dJ2_getChar_3b067_34 : decode cJ2_getChar_3b067 34 = .ok (.iinc 1 1, 3) := by decide +kernel
theorem dJ2_getChar_3b067_37 : decode cJ2_getChar_3b067 37 = .ok (.baload, 1) := by decide +kernel
theorem dJ2_getChar_3b067_38 : decode cJ2_getChar_3b067 38 = .ok (.sipush 255, 3) := by decide +kernel
theorem dJ2_getChar_3b067_41 : decode cJ2_getChar_3b067 41 = .ok (.iand, 1) := by decide +kernel
theorem dJ2_getChar_3b067_42 : decode cJ2_getChar_3b067 42 = .ok (.getstatic 59, 3) := by decide +kernel
theorem dJ2_getChar_3b067_45 : decode cJ2_getChar_3b067 45 = .ok (.ishl, 1) := by decide +kernel
theorem dJ2_getChar_3b067_46 : decode cJ2_getChar_3b067 46 = .ok (.aload_n 0, 1) := by decide +kernel
theorem dJ2_getChar_3b067_47 : decode cJ2_getChar_3b067 47 = .ok (.iload_n 1, 1) := by decide +kernel
theorem dJ2_getChar_3b067_48 : decode cJ2_getChar_3b067 48 = .ok (.baload, 1) := by decide +kernel
theorem dJ2_getChar_3b067_49 : decode cJ2_getChar_3b067 49 = .ok (.sipush 255, 3) := by decide +kernel
theorem dJ2_getChar_3b067_52 : decode cJ2_getChar_3b067 52 = .ok (.iand, 1) := by decide +kernel
theorem dJ2_getChar_3b067_53 : decode cJ2_getChar_3b067 53 = .ok (.getstatic 63, 3) := by decide +kernel
theorem dJ2_getChar_3b067_56 : decode cJ2_getChar_3b067 56 = .ok (.ishl, 1) := by decide +kernel
theorem dJ2_getChar_3b067_57 : decode cJ2_getChar_3b067 57 = .ok (.ior, 1) := by decide +kernel
theorem dJ2_getChar_3b067_58 : decode cJ2_getChar_3b067 58 = .ok (.i2c, 1) := by decide +kernel
theorem dJ2_getChar_3b067_59 : decode cJ2_getChar_3b067 59 = .ok (.ireturn, 1) := by decide +kernel
theorem dJ2_length_9d52b_0 : decode cJ2_length_9d52b 0 = .ok (.aload_n 0, 1) := by decide +kernel
theorem dJ2_length_9d52b_1 : decode cJ2_length_9d52b 1 = .ok (.arraylength, 1) := by decide +kernel
theorem dJ2_length_9d52b_2 : decode cJ2_length_9d52b 2 = .ok (.iconst 1, 1) := by decide +kernel
theorem dJ2_length_9d52b_3 : decode cJ2_length_9d52b 3 = .ok (.ishr, 1) := by decide +kernel
theorem dJ2_length_9d52b_4 : decode cJ2_length_9d52b 4 = .ok (.ireturn, 1) := by decide +kernel
theorem dJ2_coderFromArrayLen_85cad_0 : decode cJ2_coderFromArrayLen_85cad 0 = .ok (.iload_n 1, 1) := by decide +kernel
theorem dJ2_coderFromArrayLen_85cad_1 : decode cJ2_coderFromArrayLen_85cad 1 = .ok (.aload_n 0, 1) := by decide +kernel
theorem dJ2_coderFromArrayLen_85cad_2 : decode cJ2_coderFromArrayLen_85cad 2 = .ok (.arraylength, 1) := by decide +kernel
theorem dJ2_coderFromArrayLen_85cad_3 : decode cJ2_coderFromArrayLen_85cad 3 = .ok (.isub, 1) := by decide +kernel
theorem dJ2_coderFromArrayLen_85cad_4 : decode cJ2_coderFromArrayLen_85cad 4 = .ok (.bipush 31, 2) := by decide +kernel
theorem dJ2_coderFromArrayLen_85cad_6 : decode cJ2_coderFromArrayLen_85cad 6 = .ok (.iushr, 1) := by decide +kernel
theorem dJ2_coderFromArrayLen_85cad_7 : decode cJ2_coderFromArrayLen_85cad 7 = .ok (.i2b, 1) := by decide +kernel
theorem dJ2_coderFromArrayLen_85cad_8 : decode cJ2_coderFromArrayLen_85cad 8 = .ok (.ireturn, 1) := by decide +kernel
theorem dJ2_compress_39247_0 : decode cJ2_compress_39247 0 = .ok (.iload_n 2, 1) := by decide +kernel
theorem dJ2_compress_39247_1 : decode cJ2_compress_39247 1 = .ok (.newarray .byte, 2) := by decide +kernel
theorem dJ2_compress_39247_3 : decode cJ2_compress_39247 3 = .ok (.astore_n 3, 1) := by decide +kernel
theorem dJ2_compress_39247_4 : decode cJ2_compress_39247 4 = .ok (.aload_n 0, 1) := by decide +kernel
theorem dJ2_compress_39247_5 : decode cJ2_compress_39247 5 = .ok (.iload_n 1, 1) := by decide +kernel
theorem dJ2_compress_39247_6 : decode cJ2_compress_39247 6 = .ok (.aload_n 3, 1) := by decide +kernel
theorem dJ2_compress_39247_7 : decode cJ2_compress_39247 7 = .ok (.iconst 0, 1) := by decide +kernel
theorem dJ2_compress_39247_8 : decode cJ2_compress_39247 8 = .ok (.iload_n 2, 1) := by decide +kernel
theorem dJ2_compress_39247_9 : decode cJ2_compress_39247 9 = .ok (.invokestatic 123, 3) := by decide +kernel
theorem dJ2_compress_39247_12 : decode cJ2_compress_39247 12 = .ok (.istore 4, 2) := by decide +kernel
theorem dJ2_compress_39247_14 : decode cJ2_compress_39247 14 = .ok (.iload 4, 2) := by decide +kernel
theorem dJ2_compress_39247_16 : decode cJ2_compress_39247 16 = .ok (.iload_n 2, 1) := by decide +kernel
theorem dJ2_compress_39247_17 : decode cJ2_compress_39247 17 = .ok (.if_icmp .eq 47, 3) := by decide +kernel
theorem dJ2_compress_39247_20 : decode cJ2_compress_39247 20 = .ok (.aload_n 0, 1) := by decide +kernel
theorem dJ2_compress_39247_21 : decode cJ2_compress_39247 21 = .ok (.iload_n 1, 1) := by decide +kernel
theorem dJ2_compress_39247_22 : decode cJ2_compress_39247 22 = .ok (.iconst 1, 1) := by decide +kernel
theorem dJ2_compress_39247_23 : decode cJ2_compress_39247 23 = .ok (.ishl, 1) := by decide +kernel
theorem dJ2_compress_39247_24 : decode cJ2_compress_39247 24 = .ok (.iload_n 1, 1) := by decide +kernel
theorem dJ2_compress_39247_25 : decode cJ2_compress_39247 25 = .ok (.iload_n 2, 1) := by decide +kernel
theorem dJ2_compress_39247_26 : decode cJ2_compress_39247 26 = .ok (.iadd, 1) := by decide +kernel
theorem dJ2_compress_39247_27 : decode cJ2_compress_39247 27 = .ok (.invokestatic 11, 3) := by decide +kernel
theorem dJ2_compress_39247_30 : decode cJ2_compress_39247 30 = .ok (.invokestatic 126, 3) := by decide +kernel
theorem dJ2_compress_39247_33 : decode cJ2_compress_39247 33 = .ok (.astore 5, 2) := by decide +kernel
theorem dJ2_compress_39247_35 : decode cJ2_compress_39247 35 = .ok (.aload 5, 2) := by decide +kernel
theorem dJ2_compress_39247_37 : decode cJ2_compress_39247 37 = .ok (.iload 4, 2) := by decide +kernel
theorem dJ2_compress_39247_39 : decode cJ2_compress_39247 39 = .ok (.invokestatic 71, 3) := by decide +kernel
theorem dJ2_compress_39247_42 : decode cJ2_compress_39247 42 = .ok (.sipush 255, 3) := by decide +kernel
theorem dJ2_compress_39247_45 : decode cJ2_compress_39247 45 = .ok (.if_icmp .gt 16, 3) := by decide +kernel
theorem dJ2_compress_39247_48 : decode cJ2_compress_39247 48 = .ok (.aload 5, 2) := by decide +kernel
theorem dJ2_compress_39247_50 : decode cJ2_compress_39247 50 = .ok (.iconst 0, 1) := by decide +kernel
theorem dJ2_compress_39247_51 : decode cJ2_compress_39247 51 = .ok (.aload_n 3, 1) := by decide +kernel
theorem dJ2_compress_39247_52 : decode cJ2_compress_39247 52 = .ok (.iconst 0, 1) := by decide +kernel
theorem dJ2_compress_39247_53 : decode cJ2_compress_39247 53 = .ok (.iload_n 2, 1) := by decide +kernel
theorem dJ2_compress_39247_54 : decode cJ2_compress_39247 54 = .ok (.invokestatic 123, 3) := by decide +kernel
theorem dJ2_compress_39247_57 : decode cJ2_compress_39247 57 = .ok (.iload_n 2, 1) := by decide +kernel
theorem dJ2_compress_39247_58 : decode cJ2_compress_39247 58 = .ok (.if_icmp .eq 6, 3) := by decide +kernel
theorem dJ2_compress_39247_61 : decode cJ2_compress_39247 61 = .ok (.aload 5, 2) := by decide +kernel
theorem dJ2_compress_39247_63 : decode cJ2_compress_39247 63 = .ok (.areturn, 1) := by decide +kernel
theorem dJ2_compress_39247_64 : decode cJ2_compress_39247 64 = .ok (.aload_n 3, 1) := by decide +kernel
theorem dJ2_compress_39247_65 : decode cJ2_compress_39247 65 = .ok (.areturn, 1) := by decide +kernel
theorem dJ2_compress_5af95_0 : decode cJ2_compress_5af95 0 = .ok (.iload_n 1, 1) := by decide +kernel
theorem dJ2_compress_5af95_1 : decode cJ2_compress_5af95 1 = .ok (.iload 4, 2) := by decide +kernel
theorem dJ2_compress_5af95_3 : decode cJ2_compress_5af95 3 = .ok (.aload_n 0, 1) := by decide +kernel
theorem dJ2_compress_5af95_4 : decode cJ2_compress_5af95 4 = .ok (.invokestatic 173, 3) := by decide +kernel
theorem dJ2_compress_5af95_7 : decode cJ2_compress_5af95 7 = .ok (.iconst 0, 1) := by decide +kernel
theorem dJ2_compress_5af95_8 : decode cJ2_compress_5af95 8 = .ok (.istore 5, 2) := by decide +kernel
theorem dJ2_compress_5af95_10 : decode cJ2_compress_5af95 10 = .ok (.iload 5, 2) := by decide +kernel
theorem dJ2_compress_5af95_12 : decode cJ2_compress_5af95 12 = .ok (.iload 4, 2) := by decide +kernel
theorem dJ2_compress_5af95_14 : decode cJ2_compress_5af95 14 = .ok (.if_icmp .ge 39, 3) := by decide +kernel
theorem dJ2_compress_5af95_17 : decode cJ2_compress_5af95 17 = .ok (.aload_n 0, 1) := by decide +kernel
theorem dJ2_compress_5af95_18 : decode cJ2_compress_5af95 18 = .ok (.iload_n 1, 1) := by decide +kernel
theorem dJ2_compress_5af95_19 : decode cJ2_compress_5af95 19 = .ok (.invokestatic 71, 3) := by decide +kernel
theorem dJ2_compress_5af95_22 : decode cJ2_compress_5af95 22 = .ok (.istore 6, 2) := by decide +kernel
theorem dJ2_compress_5af95_24 : decode cJ2_compress_5af95 24 = .ok (.iload 6, 2) := by decide +kernel
theorem dJ2_compress_5af95_26 : decode cJ2_compress_5af95 26 = .ok (.sipush 255, 3) := by decide +kernel
theorem dJ2_compress_5af95_29 : decode cJ2_compress_5af95 29 = .ok (.if_icmp .le 6, 3) := by decide +kernel
theorem dJ2_compress_5af95_32 : decode cJ2_compress_5af95 32 = .ok (.iload 5, 2) := by decide +kernel
theorem dJ2_compress_5af95_34 : decode cJ2_compress_5af95 34 = .ok (.ireturn, 1) := by decide +kernel
theorem dJ2_compress_5af95_35 : decode cJ2_compress_5af95 35 = .ok (.aload_n 2, 1) := by decide +kernel
theorem dJ2_compress_5af95_36 : decode cJ2_compress_5af95 36 = .ok (.iload_n 3, 1) := by decide +kernel
theorem dJ2_compress_5af95_37 : decode cJ2_compress_5af95 37 = .ok (.iload 6, 2) := by decide +kernel
theorem dJ2_compress_5af95_39 : decode cJ2_compress_5af95 39 = .ok (.i2b, 1) := by decide +kernel
theorem dJ2_compress_5af95_40 : decode cJ2_compress_5af95 40 = .ok (.bastore, 1) := by decide +kernel
theorem dJ2_compress_5af95_41 : decode cJ2_compress_5af95 41 = .ok (.iinc 1 1, 3) := by decide +kernel
theorem dJ2_compress_5af95_44 : decode cJ2_compress_5af95 44 = .ok (.iinc 3 1, 3) := by decide +kernel
theorem dJ2_compress_5af95_47 : decode cJ2_compress_5af95 47 = .ok (.iinc 5 1, 3) := by decide +kernel
theorem dJ2_compress_5af95_50 : decode cJ2_compress_5af95 50 = .ok (.goto (-40), 3) := by decide +kernel
theorem dJ2_compress_5af95_53 : decode cJ2_compress_5af95 53 = .ok (.iload 4, 2) := by decide +kernel
theorem dJ2_compress_5af95_55 : decode cJ2_compress_5af95 55 = .ok (.ireturn, 1) := by decide +kernel
theorem dJ2_indexOf_4cfef_0 : decode cJ2_indexOf_4cfef 0 = .ok (.iload_n 2, 1) := by decide +kernel
theorem dJ2_indexOf_4cfef_1 : decode cJ2_indexOf_4cfef 1 = .ok (.iconst 0, 1) := by decide +kernel
theorem dJ2_indexOf_4cfef_2 : decode cJ2_indexOf_4cfef 2 = .ok (.invokestatic 224, 3) := by decide +kernel
theorem dJ2_indexOf_4cfef_5 : decode cJ2_indexOf_4cfef 5 = .ok (.istore_n 2, 1) := by decide +kernel
theorem dJ2_indexOf_4cfef_6 : decode cJ2_indexOf_4cfef 6 = .ok (.iload_n 3, 1) := by decide +kernel
theorem dJ2_indexOf_4cfef_7 : decode cJ2_indexOf_4cfef 7 = .ok (.aload_n 0, 1) := by decide +kernel
theorem dJ2_indexOf_4cfef_8 : decode cJ2_indexOf_4cfef 8 = .ok (.arraylength, 1) := by decide +kernel
theorem dJ2_indexOf_4cfef_9 : decode cJ2_indexOf_4cfef 9 = .ok (.iconst 1, 1) := by decide +kernel
theorem dJ2_indexOf_4cfef_10 : decode cJ2_indexOf_4cfef 10 = .ok (.ishr, 1) := by decide +kernel
theorem dJ2_indexOf_4cfef_11 : decode cJ2_indexOf_4cfef 11 = .ok (.invokestatic 183, 3) := by decide +kernel
theorem dJ2_indexOf_4cfef_14 : decode cJ2_indexOf_4cfef 14 = .ok (.istore_n 3, 1) := by decide +kernel
theorem dJ2_indexOf_4cfef_15 : decode cJ2_indexOf_4cfef 15 = .ok (.iload_n 2, 1) := by decide +kernel
theorem dJ2_indexOf_4cfef_16 : decode cJ2_indexOf_4cfef 16 = .ok (.iload_n 3, 1) := by decide +kernel
theorem dJ2_indexOf_4cfef_17 : decode cJ2_indexOf_4cfef 17 = .ok (.if_icmp .lt 5, 3) := by decide +kernel
theorem dJ2_indexOf_4cfef_20 : decode cJ2_indexOf_4cfef 20 = .ok (.iconst (-1), 1) := by decide +kernel
theorem dJ2_indexOf_4cfef_21 : decode cJ2_indexOf_4cfef 21 = .ok (.ireturn, 1) := by decide +kernel
theorem dJ2_indexOf_4cfef_22 : decode cJ2_indexOf_4cfef 22 = .ok (.iload_n 1, 1) := by decide +kernel
theorem dJ2_indexOf_4cfef_23 : decode cJ2_indexOf_4cfef 23 = .ok (.ldc 227, 2) := by decide +kernel
theorem dJ2_indexOf_4cfef_25 : decode cJ2_indexOf_4cfef 25 = .ok (.if_icmp .ge 11, 3) := by decide +kernel
theorem dJ2_indexOf_4cfef_28 : decode cJ2_indexOf_4cfef 28 = .ok (.aload_n 0, 1) := by decide +kernel
theorem dJ2_indexOf_4cfef_29 : decode cJ2_indexOf_4cfef 29 = .ok (.iload_n 1, 1) := by decide +kernel
theorem dJ2_indexOf_4cfef_30 : decode cJ2_indexOf_4cfef 30 = .ok (.iload_n 2, 1) := by decide +kernel
theorem dJ2_indexOf_4cfef_31 : decode cJ2_indexOf_4cfef 31 = .ok (.iload_n 3, 1) := by decide +kernel
theorem dJ2_indexOf_4cfef_32 : decode cJ2_indexOf_4cfef 32 = .ok (.invokestatic 228, 3) := by decide +kernel
theorem dJ2_indexOf_4cfef_35 : decode cJ2_indexOf_4cfef 35 = .ok (.ireturn, 1) := by decide +kernel
theorem dJ2_indexOf_4cfef_36 : decode cJ2_indexOf_4cfef 36 = .ok (.aload_n 0, 1) := by decide +kernel
theorem dJ2_indexOf_4cfef_37 : decode cJ2_indexOf_4cfef 37 = .ok (.iload_n 1, 1) := by decide +kernel
theorem dJ2_indexOf_4cfef_38 : decode cJ2_indexOf_4cfef 38 = .ok (.iload_n 2, 1) := by decide +kernel
theorem dJ2_indexOf_4cfef_39 : decode cJ2_indexOf_4cfef 39 = .ok (.iload_n 3, 1) := by decide +kernel
theorem dJ2_indexOf_4cfef_40 : decode cJ2_indexOf_4cfef 40 = .ok (.invokestatic 232, 3) := by decide +kernel
theorem dJ2_indexOf_4cfef_43 : decode cJ2_indexOf_4cfef 43 = .ok (.ireturn, 1) := by decide +kernel
theorem dJ2_indexOfChar_4cfef_0 : decode cJ2_indexOfChar_4cfef 0 = .ok (.iload_n 2, 1) := by decide +kernel
theorem dJ2_indexOfChar_4cfef_1 : decode cJ2_indexOfChar_4cfef 1 = .ok (.iload_n 3, 1) := by decide +kernel
theorem dJ2_indexOfChar_4cfef_2 : decode cJ2_indexOfChar_4cfef 2 = .ok (.aload_n 0, 1) := by decide +kernel
theorem dJ2_indexOfChar_4cfef_3 : decode cJ2_indexOfChar_4cfef 3 = .ok (.invokestatic 96, 3) := by decide +kernel
theorem dJ2_indexOfChar_4cfef_6 : decode cJ2_indexOfChar_4cfef 6 = .ok (.aload_n 0, 1) := by decide +kernel
theorem dJ2_indexOfChar_4cfef_7 : decode cJ2_indexOfChar_4cfef 7 = .ok (.iload_n 1, 1) := by decide +kernel
theorem dJ2_indexOfChar_4cfef_8 : decode cJ2_indexOfChar_4cfef 8 = .ok (.iload_n 2, 1) := by decide +kernel
theorem dJ2_indexOfChar_4cfef_9 : decode cJ2_indexOfChar_4cfef 9 = .ok (.iload_n 3, 1) := by decide +kernel
theorem dJ2_indexOfChar_4cfef_10 : decode cJ2_indexOfChar_4cfef 10 = .ok (.invokestatic 244, 3) := by decide +kernel
theorem dJ2_indexOfChar_4cfef_13 : decode cJ2_indexOfChar_4cfef 13 = .ok (.ireturn, 1) := by decide +kernel
theorem dJ2_indexOfCharUnsafe_4cfef_0 : decode cJ2_indexOfCharUnsafe_4cfef 0 = .ok (.iload_n 2, 1) := by decide +kernel
theorem dJ2_indexOfCharUnsafe_4cfef_1 : decode cJ2_indexOfCharUnsafe_4cfef 1 = .ok (.istore 4, 2) := by decide +kernel
theorem dJ2_indexOfCharUnsafe_4cfef_3 : decode cJ2_indexOfCharUnsafe_4cfef 3 = .ok (.iload 4, 2) := by decide +kernel
theorem dJ2_indexOfCharUnsafe_4cfef_5 : decode cJ2_indexOfCharUnsafe_4cfef 5 = .ok (.iload_n 3, 1) := by decide +kernel
theorem dJ2_indexOfCharUnsafe_4cfef_6 : decode cJ2_indexOfCharUnsafe_4cfef 6 = .ok (.if_icmp .ge 22, 3) := by decide +kernel
theorem dJ2_indexOfCharUnsafe_4cfef_9 : decode cJ2_indexOfCharUnsafe_4cfef 9 = .ok (.aload_n 0, 1) := by decide +kernel
theorem dJ2_indexOfCharUnsafe_4cfef_10 : decode cJ2_indexOfCharUnsafe_4cfef 10 = .ok (.iload 4, 2) := by decide +kernel
theorem dJ2_indexOfCharUnsafe_4cfef_12 : decode cJ2_indexOfCharUnsafe_4cfef 12 = .ok (.invokestatic 71, 3) := by decide +kernel
theorem dJ2_indexOfCharUnsafe_4cfef_15 : decode cJ2_indexOfCharUnsafe_4cfef 15 = .ok (.iload_n 1, 1) := by decide +kernel
theorem dJ2_indexOfCharUnsafe_4cfef_16 : decode cJ2_indexOfCharUnsafe_4cfef 16 = .ok (.if_icmp .ne 6, 3) := by decide +kernel
theorem dJ2_indexOfCharUnsafe_4cfef_19 : decode cJ2_indexOfCharUnsafe_4cfef 19 = .ok (.iload 4, 2) := by decide +kernel
theorem dJ2_indexOfCharUnsafe_4cfef_21 : decode cJ2_indexOfCharUnsafe_4cfef 21 = .ok (.ireturn, 1) := by decide +kernel
theorem dJ2_indexOfCharUnsafe_4cfef_22 : decode cJ2_indexOfCharUnsafe_4cfef 22 = .ok (.iinc 4 1, 3) := by decide +kernel
theorem dJ2_indexOfCharUnsafe_4cfef_25 : decode cJ2_indexOfCharUnsafe_4cfef 25 = .ok (.goto (-22), 3) := by decide +kernel
theorem dJ2_indexOfCharUnsafe_4cfef_28 : decode cJ2_indexOfCharUnsafe_4cfef 28 = .ok (.iconst (-1), 1) := by decide +kernel
theorem dJ2_indexOfCharUnsafe_4cfef_29 : decode cJ2_indexOfCharUnsafe_4cfef 29 = .ok (.ireturn, 1) := by decide +kernel
theorem dJ2_indexOfSupplementary_4cfef_0 : decode cJ2_indexOfSupplementary_4cfef 0 = .ok (.iload_n 1, 1) := by decide +kernel
theorem dJ2_indexOfSupplementary_4cfef_1 : decode cJ2_indexOfSupplementary_4cfef 1 = .ok (.invokestatic 164, 3) := by decide +kernel
theorem dJ2_indexOfSupplementary_4cfef_4 : decode cJ2_indexOfSupplementary_4cfef 4 = .ok (.ifCond .eq 65, 3) := by decide +kernel
theorem dJ2_indexOfSupplementary_4cfef_7 : decode cJ2_indexOfSupplementary_4cfef 7 = .ok (.iload_n 1, 1) := by decide +kernel
theorem dJ2_indexOfSupplementary_4cfef_8 : decode cJ2_indexOfSupplementary_4cfef 8 = .ok (.invokestatic 157, 3) := by decide +kernel
theorem dJ2_indexOfSupplementary_4cfef_11 : decode cJ2_indexOfSupplementary_4cfef 11 = .ok (.istore 4, 2) := by decide +kernel
theorem dJ2_indexOfSupplementary_4cfef_13 : decode cJ2_indexOfSupplementary_4cfef 13 = .ok (.iload_n 1, 1) := by decide +kernel
theorem dJ2_indexOfSupplementary_4cfef_14 : decode cJ2_indexOfSupplementary_4cfef 14 = .ok (.invokestatic 161, 3) := by decide +kernel
theorem dJ2_indexOfSupplementary_4cfef_17 : decode cJ2_indexOfSupplementary_4cfef 17 = .ok (.istore 5, 2) := by decide +kernel
theorem dJ2_indexOfSupplementary_4cfef_19 : decode cJ2_indexOfSupplementary_4cfef 19 = .ok (.iload_n 2, 1) := by decide +kernel
theorem dJ2_indexOfSupplementary_4cfef_20 : decode cJ2_indexOfSupplementary_4cfef 20 = .ok (.iload_n 3, 1) := by decide +kernel
theorem dJ2_indexOfSupplementary_4cfef_21 : decode cJ2_indexOfSupplementary_4cfef 21 = .ok (.aload_n 0, 1) := by decide +kernel
theorem dJ2_indexOfSupplementary_4cfef_22 : decode cJ2_indexOfSupplementary_4cfef 22 = .ok (.invokestatic 96, 3) := by decide +kernel
theorem dJ2_indexOfSupplementary_4cfef_25 : decode cJ2_indexOfSupplementary_4cfef 25 = .ok (.iload_n 2, 1) := by decide +kernel
theorem dJ2_indexOfSupplementary_4cfef_26 : decode cJ2_indexOfSupplementary_4cfef 26 = .ok (.istore 6, 2) := by decide +kernel
theorem dJ2_indexOfSupplementary_4cfef_28 : decode cJ2_indexOfSupplementary_4cfef 28 = .ok (.iload 6, 2) := by decide +kernel
theorem dJ2_indexOfSupplementary_4cfef_30 : decode cJ2_indexOfSupplementary_4cfef 30 = .ok (.iload_n 3, 1) := by decide +kernel
theorem dJ2_indexOfSupplementary_4cfef_31 : decode cJ2_indexOfSupplementary_4cfef 31 = .ok (.iconst 1, 1) := by decide +kernel
theorem dJ2_indexOfSupplementary_4cfef_32 : decode cJ2_indexOfSupplementary_4cfef 32 = .ok (.isub, 1) := by decide +kernel
theorem dJ2_indexOfSupplementary_4cfef_33 : decode cJ2_indexOfSupplementary_4cfef 33 = .ok (.if_icmp .ge 36, 3) := by decide +kernel
theorem dJ2_indexOfSupplementary_4cfef_36 : decode cJ2_indexOfSupplementary_4cfef 36 = .ok (.aload_n 0, 1) := by decide +kernel
theorem dJ2_indexOfSupplementary_4cfef_37 : decode cJ2_indexOfSupplementary_4cfef 37 = .ok (.iload 6, 2) := by decide +kernel
theorem dJ2_indexOfSupplementary_4cfef_39 : decode cJ2_indexOfSupplementary_4cfef 39 = .ok (.invokestatic 71, 3) := by decide +kernel
theorem dJ2_indexOfSupplementary_4cfef_42 : decode cJ2_indexOfSupplementary_4cfef 42 = .ok (.iload 4, 2) := by decide +kernel
theorem dJ2_indexOfSupplementary_4cfef_44 : decode cJ2_indexOfSupplementary_4cfef 44 = .ok (.if_icmp .ne 19, 3) := by decide +kernel
theorem dJ2_indexOfSupplementary_4cfef_47 : decode cJ2_indexOfSupplementary_4cfef 47 = .ok (.aload_n 0, 1) := by decide +kernel
theorem dJ2_indexOfSupplementary_4cfef_48 : decode cJ2_indexOfSupplementary_4cfef 48 = .ok (.iload 6, 2) := by decide +kernel
theorem dJ2_indexOfSupplementary_4cfef_50 : decode cJ2_indexOfSupplementary_4cfef 50 = .ok (.iconst 1, 1) := by decide +kernel
theorem dJ2_indexOfSupplementary_4cfef_51 : decode cJ2_indexOfSupplementary_4cfef 51 = .ok (.iadd, 1) := by decide +kernel
theorem dJ2_indexOfSupplementary_4cfef_52 : decode cJ2_indexOfSupplementary_4cfef 52 = .ok (.invokestatic 71, 3) := by decide +kernel
theorem dJ2_indexOfSupplementary_4cfef_55 : decode cJ2_indexOfSupplementary_4cfef 55 = .ok (.iload 5, 2) := by decide +kernel
theorem dJ2_indexOfSupplementary_4cfef_57 : decode cJ2_indexOfSupplementary_4cfef 57 = .ok (.if_icmp .ne 6, 3) := by decide +kernel
theorem dJ2_indexOfSupplementary_4cfef_60 : decode cJ2_indexOfSupplementary_4cfef 60 = .ok (.iload 6, 2) := by decide +kernel
theorem dJ2_indexOfSupplementary_4cfef_62 : decode cJ2_indexOfSupplementary_4cfef 62 = .ok (.ireturn, 1) := by decide +kernel
theorem dJ2_indexOfSupplementary_4cfef_63 : decode cJ2_indexOfSupplementary_4cfef 63 = .ok (.iinc 6 1, 3) := by decide +kernel
theorem dJ2_indexOfSupplementary_4cfef_66 : decode cJ2_indexOfSupplementary_4cfef 66 = .ok (.goto (-38), 3) := by decide +kernel
theorem dJ2_indexOfSupplementary_4cfef_69 : decode cJ2_indexOfSupplementary_4cfef 69 = .ok (.iconst (-1), 1) := by decide +kernel
theorem dJ2_indexOfSupplementary_4cfef_70 : decode cJ2_indexOfSupplementary_4cfef 70 = .ok (.ireturn, 1) := by decide +kernel
theorem dJ2_fillNull_b72d1_0 : decode cJ2_fillNull_b72d1 0 = .ok (.aload_n 0, 1) := by decide +kernel
theorem dJ2_fillNull_b72d1_1 : decode cJ2_fillNull_b72d1 1 = .ok (.iload_n 1, 1) := by decide +kernel
theorem dJ2_fillNull_b72d1_2 : decode cJ2_fillNull_b72d1 2 = .ok (.iconst 1, 1) := by decide +kernel
theorem dJ2_fillNull_b72d1_3 : decode cJ2_fillNull_b72d1 3 = .ok (.ishl, 1) := by decide +kernel
theorem dJ2_fillNull_b72d1_4 : decode cJ2_fillNull_b72d1 4 = .ok (.iload_n 2, 1) := by decide +kernel
theorem dJ2_fillNull_b72d1_5 : decode cJ2_fillNull_b72d1 5 = .ok (.iconst 1, 1) := by decide +kernel
theorem dJ2_fillNull_b72d1_6 : decode cJ2_fillNull_b72d1 6 = .ok (.ishl, 1) := by decide +kernel
theorem dJ2_fillNull_b72d1_7 : decode cJ2_fillNull_b72d1 7 = .ok (.iconst 0, 1) := by decide +kernel
theorem dJ2_fillNull_b72d1_8 : decode cJ2_fillNull_b72d1 8 = .ok (.invokestatic 380, 3) := by decide +kernel
theorem dJ2_fillNull_b72d1_11 : decode cJ2_fillNull_b72d1 11 = .ok (.return_, 1) := by decide +kernel
theorem dJ2_putCharSB_b72d1_0 : decode cJ2_putCharSB_b72d1 0 = .ok (.iload_n 1, 1) := by decide +kernel
theorem dJ2_putCharSB_b72d1_1 : decode cJ2_putCharSB_b72d1 1 = .ok (.aload_n 0, 1) := by decide +kernel
theorem dJ2_putCharSB_b72d1_2 : decode cJ2_putCharSB_b72d1 2 = .ok (.invokestatic 67, 3) := by decide +kernel
theorem dJ2_putCharSB_b72d1_5 : decode cJ2_putCharSB_b72d1 5 = .ok (.aload_n 0, 1) := by decide +kernel
theorem dJ2_putCharSB_b72d1_6 : decode cJ2_putCharSB_b72d1 6 = .ok (.iload_n 1, 1) := by decide +kernel
theorem dJ2_putCharSB_b72d1_7 : decode cJ2_putCharSB_b72d1 7 = .ok (.iload_n 2, 1) := by decide +kernel
theorem dJ2_putCharSB_b72d1_8 : decode cJ2_putCharSB_b72d1 8 = .ok (.invokestatic 111, 3) := by decide +kernel
theorem dJ2_putCharSB_b72d1_11 : decode cJ2_putCharSB_b72d1 11 = .ok (.return_, 1) := by decide +kernel
theorem dJ2_getChars_46870_0 : decode cJ2_getChars_46870 0 = .ok (.iload_n 1, 1) := by decide +kernel
theorem dJ2_getChars_46870_1 : decode cJ2_getChars_46870 1 = .ok (.iload_n 2, 1) := by decide +kernel
theorem dJ2_getChars_46870_2 : decode cJ2_getChars_46870 2 = .ok (.aload_n 3, 1) := by decide +kernel
theorem dJ2_getChars_46870_3 : decode cJ2_getChars_46870 3 = .ok (.invokestatic 96, 3) := by decide +kernel
theorem dJ2_getChars_46870_6 : decode cJ2_getChars_46870 6 = .ok (.iload_n 0, 1) := by decide +kernel
theorem dJ2_getChars_46870_7 : decode cJ2_getChars_46870 7 = .ok (.iload_n 2, 1) := by decide +kernel
theorem dJ2_getChars_46870_8 : decode cJ2_getChars_46870 8 = .ok (.aload_n 3, 1) := by decide +kernel
theorem dJ2_getChars_46870_9 : decode cJ2_getChars_46870 9 = .ok (.invokestatic 393, 3) := by decide +kernel
theorem dJ2_getChars_46870_12 : decode cJ2_getChars_46870 12 = .ok (.istore 4, 2) := by decide +kernel
theorem dJ2_getChars_46870_14 : decode cJ2_getChars_46870 14 = .ok (.getstatic 44, 3) := by decide +kernel
theorem dJ2_getChars_46870_17 : decode cJ2_getChars_46870 17 = .ok (.ifCond .ne 17, 3) := by decide +kernel
theorem dJ2_getChars_46870_20 : decode cJ2_getChars_46870 20 = .ok (.iload_n 1, 1) := by decide +kernel
theorem dJ2_getChars_46870_21 : decode cJ2_getChars_46870 21 = .ok (.iload 4, 2) := by decide +kernel
theorem dJ2_getChars_46870_23 : decode cJ2_getChars_46870 23 = .ok (.if_icmp .eq 11, 3) := by decide +kernel
theorem dJ2_getChars_46870_26 : decode cJ2_getChars_46870 26 = .ok (.new 52, 3) := by decide +kernel
theorem dJ2_getChars_46870_29 : decode cJ2_getChars_46870 29 = .ok (.dup, 1) := by decide +kernel
theorem dJ2_getChars_46870_30 : decode cJ2_getChars_46870 30 = .ok (.invokespecial 66, 3) := by decide +kernel
theorem dJ2_getChars_46870_33 : decode cJ2_getChars_46870 33 = .ok (.athrow, 1) := by decide +kernel
theorem dJ2_getChars_46870_34 : decode cJ2_getChars_46870 34 = .ok (.iload 4, 2) := by decide +kernel
theorem dJ2_getChars_46870_36 : decode cJ2_getChars_46870 36 = .ok (.ireturn, 1) := by decide +kernel
theorem dJ2_putCharsAt_cd4e5_0 : decode cJ2_putCharsAt_cd4e5 0 = .ok (.iload_n 1, 1) := by decide +kernel
theorem dJ2_putCharsAt_cd4e5_1 : decode cJ2_putCharsAt_cd4e5 1 = .ok (.iconst 4, 1) := by decide +kernel
theorem dJ2_putCharsAt_cd4e5_2 : decode cJ2_putCharsAt_cd4e5 2 = .ok (.iadd, 1) := by decide +kernel
theorem dJ2_putCharsAt_cd4e5_3 : decode cJ2_putCharsAt_cd4e5 3 = .ok (.istore 6, 2) := by decide +kernel
theorem dJ2_putCharsAt_cd4e5_5 : decode cJ2_putCharsAt_cd4e5 5 = .ok (.iload_n 1, 1) := by decide +kernel
theorem dJ2_putCharsAt_cd4e5_6 : decode cJ2_putCharsAt_cd4e5 6 = .ok (.iload 6, 2) := by decide +kernel
theorem dJ2_putCharsAt_cd4e5_8 : decode cJ2_putCharsAt_cd4e5 8 = .ok (.aload_n 0, 1) := by decide +kernel
theorem dJ2_putCharsAt_cd4e5_9 : decode cJ2_putCharsAt_cd4e5 9 = .ok (.invokestatic 96, 3) := by decide +kernel
theorem dJ2_putCharsAt_cd4e5_12 : decode cJ2_putCharsAt_cd4e5 12 = .ok (.aload_n 0, 1) := by decide +kernel
theorem dJ2_putCharsAt_cd4e5_13 : decode cJ2_putCharsAt_cd4e5 13 = .ok (.iload_n 1, 1) := by decide +kernel
theorem dJ2_putCharsAt_cd4e5_14 : decode cJ2_putCharsAt_cd4e5 14 = .ok (.iinc 1 1, 3) := by decide +kernel
theorem dJ2_putCharsAt_cd4e5_17 : decode cJ2_putCharsAt_cd4e5 17 = .ok (.iload_n 2, 1) := by decide +kernel
theorem dJ2_putCharsAt_cd4e5_18 : decode cJ2_putCharsAt_cd4e5 18 = .ok (.invokestatic 111, 3) := by decide +kernel
theorem dJ2_putCharsAt_cd4e5_21 : decode cJ2_putCharsAt_cd4e5 21 = .ok (.aload_n 0, 1) := by decide +kernel
theorem dJ2_putCharsAt_cd4e5_22 : decode cJ2_putCharsAt_cd4e5 22 = .ok (.iload_n 1, 1) := by decide +kernel
theorem dJ2_putCharsAt_cd4e5_23 : decode cJ2_putCharsAt_cd4e5 23 = .ok (.iinc 1 1, 3) := by decide +kernel
theorem dJ2_putCharsAt_cd4e5_26 : decode cJ2_putCharsAt_cd4e5 26 = .ok (.iload_n 3, 1) := by decide +kernel
theorem dJ2_putCharsAt_cd4e5_27 : decode cJ2_putCharsAt_cd4e5 27 = .ok (.invokestatic 111, 3) := by decide +kernel
theorem dJ2_putCharsAt_cd4e5_30 : decode cJ2_putCharsAt_cd4e5 30 = .ok (.aload_n 0, 1) := by decide +kernel
theorem dJ2_putCharsAt_cd4e5_31 : decode cJ2_putCharsAt_cd4e5 31 = .ok (.iload_n 1, 1) := by decide +kernel
theorem dJ2_putCharsAt_cd4e5_32 : decode cJ2_putCharsAt_cd4e5 32 = .ok (.iinc 1 1, 3) := by decide +kernel
theorem dJ2_putCharsAt_cd4e5_35 : decode cJ2_putCharsAt_cd4e5 35 = .ok (.iload 4, 2) := by decide +kernel
theorem dJ2_putCharsAt_cd4e5_37 : decode cJ2_putCharsAt_cd4e5 37 = .ok (.invokestatic 111, 3) := by decide +kernel
theorem dJ2_putCharsAt_cd4e5_40 : decode cJ2_putCharsAt_cd4e5 40 = .ok (.aload_n 0, 1) := by decide +kernel
theorem dJ2_putCharsAt_cd4e5_41 : decode cJ2_putCharsAt_cd4e5 41 = .ok (.iload_n 1, 1) := by decide +kernel
theorem dJ2_putCharsAt_cd4e5_42 : decode cJ2_putCharsAt_cd4e5 42 = .ok (.iinc 1 1, 3) := by decide +kernel
theorem dJ2_putCharsAt_cd4e5_45 : decode cJ2_putCharsAt_cd4e5 45 = .ok (.iload 5, 2) := by decide +kernel
theorem dJ2_putCharsAt_cd4e5_47 : decode cJ2_putCharsAt_cd4e5 47 = .ok (.invokestatic 111, 3) := by decide +kernel
theorem dJ2_putCharsAt_cd4e5_50 : decode cJ2_putCharsAt_cd4e5 50 = .ok (.getstatic 44, 3) := by decide +kernel
theorem dJ2_putCharsAt_cd4e5_53 : decode cJ2_putCharsAt_cd4e5 53 = .ok (.ifCond .ne 17, 3) := by decide +kernel
theorem dJ2_putCharsAt_cd4e5_56 : decode cJ2_putCharsAt_cd4e5 56 = .ok (.iload_n 1, 1) := by decide +kernel
theorem dJ2_putCharsAt_cd4e5_57 : decode cJ2_putCharsAt_cd4e5 57 = .ok (.iload 6, 2) := by decide +kernel
theorem dJ2_putCharsAt_cd4e5_59 : decode cJ2_putCharsAt_cd4e5 59 = .ok (.if_icmp .eq 11, 3) := by decide +kernel
theorem dJ2_putCharsAt_cd4e5_62 : decode cJ2_putCharsAt_cd4e5 62 = .ok (.new 52, 3) := by decide +kernel
theorem dJ2_putCharsAt_cd4e5_65 : decode cJ2_putCharsAt_cd4e5 65 = .ok (.dup, 1) := by decide +kernel
theorem dJ2_putCharsAt_cd4e5_66 : decode cJ2_putCharsAt_cd4e5 66 = .ok (.invokespecial 66, 3) := by decide +kernel
theorem dJ2_putCharsAt_cd4e5_69 : decode cJ2_putCharsAt_cd4e5 69 = .ok (.athrow, 1) := by decide +kernel
theorem dJ2_putCharsAt_cd4e5_70 : decode cJ2_putCharsAt_cd4e5 70 = .ok (.iload 6, 2) := by decide +kernel
theorem dJ2_putCharsAt_cd4e5_72 : decode cJ2_putCharsAt_cd4e5 72 = .ok (.ireturn, 1) := by decide +kernel
theorem dJ2_charAt_3b067_0 : decode cJ2_charAt_3b067 0 = .ok (.iload_n 1, 1) := by decide +kernel
theorem dJ2_charAt_3b067_1 : decode cJ2_charAt_3b067 1 = .ok (.aload_n 0, 1) := by decide +kernel
theorem dJ2_charAt_3b067_2 : decode cJ2_charAt_3b067 2 = .ok (.invokestatic 67, 3) := by decide +kernel
theorem dJ2_charAt_3b067_5 : decode cJ2_charAt_3b067 5 = .ok (.aload_n 0, 1) := by decide +kernel
theorem dJ2_charAt_3b067_6 : decode cJ2_charAt_3b067 6 = .ok (.iload_n 1, 1) := by decide +kernel
theorem dJ2_charAt_3b067_7 : decode cJ2_charAt_3b067 7 = .ok (.invokestatic 71, 3) := by decide +kernel
theorem dJ2_charAt_3b067_10 : decode cJ2_charAt_3b067 10 = .ok (.ireturn, 1) := by decide +kernel
theorem dJ2_inflate_0e8fd_0 : decode cJ2_inflate_0e8fd 0 = .ok (.iload_n 3, 1) := by decide +kernel
theorem dJ2_inflate_0e8fd_1 : decode cJ2_inflate_0e8fd 1 = .ok (.iload 4, 2) := by decide +kernel
theorem dJ2_inflate_0e8fd_3 : decode cJ2_inflate_0e8fd 3 = .ok (.aload_n 2, 1) := by decide +kernel
theorem dJ2_inflate_0e8fd_4 : decode cJ2_inflate_0e8fd 4 = .ok (.invokestatic 173, 3) := by decide +kernel
theorem dJ2_inflate_0e8fd_7 : decode cJ2_inflate_0e8fd 7 = .ok (.iconst 0, 1) := by decide +kernel
theorem dJ2_inflate_0e8fd_8 : decode cJ2_inflate_0e8fd 8 = .ok (.istore 5, 2) := by decide +kernel
theorem dJ2_inflate_0e8fd_10 : decode cJ2_inflate_0e8fd 10 = .ok (.iload 5, 2) := by decide +kernel
theorem dJ2_inflate_0e8fd_12 : decode cJ2_inflate_0e8fd 12 = .ok (.iload 4, 2) := by decide +kernel
theorem dJ2_inflate_0e8fd_14 : decode cJ2_inflate_0e8fd 14 = .ok (.if_icmp .ge 27, 3) := by decide +kernel
theorem dJ2_inflate_0e8fd_17 : decode cJ2_inflate_0e8fd 17 = .ok (.aload_n 2, 1) := by decide +kernel
theorem dJ2_inflate_0e8fd_18 : decode cJ2_inflate_0e8fd 18 = .ok (.iload_n 3, 1) := by decide +kernel
theorem dJ2_inflate_0e8fd_19 : decode cJ2_inflate_0e8fd 19 = .ok (.iinc 3 1, 3) := by decide +kernel
theorem dJ2_inflate_0e8fd_22 : decode cJ2_inflate_0e8fd 22 = .ok (.aload_n 0, 1) := by decide +kernel
theorem dJ2_inflate_0e8fd_23 : decode cJ2_inflate_0e8fd 23 = .ok (.iload_n 1, 1) := by decide +kernel
theorem dJ2_inflate_0e8fd_24 : decode cJ2_inflate_0e8fd 24 = .ok (.iinc 1 1, 3) := by decide +kernel
theorem dJ2_inflate_0e8fd_27 : decode cJ2_inflate_0e8fd 27 = .ok (.baload, 1) := by decide +kernel
theorem dJ2_inflate_0e8fd_28 : decode cJ2_inflate_0e8fd 28 = .ok (.sipush 255, 3) := by decide +kernel
theorem dJ2_inflate_0e8fd_31 : decode cJ2_inflate_0e8fd 31 = .ok (.iand, 1) := by decide +kernel
theorem dJ2_inflate_0e8fd_32 : decode cJ2_inflate_0e8fd 32 = .ok (.invokestatic 111, 3) := by decide +kernel
theorem dJ2_inflate_0e8fd_35 : decode cJ2_inflate_0e8fd 35 = .ok (.iinc 5 1, 3) := by decide +kernel
theorem dJ2_inflate_0e8fd_38 : decode cJ2_inflate_0e8fd 38 = .ok (.goto (-28), 3) := by decide +kernel
theorem dJ2_inflate_0e8fd_41 : decode cJ2_inflate_0e8fd 41 = .ok (.return_, 1) := by decide +kernel
theorem dJ2_getChars_ba4f3_0 : decode cJ2_getChars_ba4f3 0 = .ok (.iload_n 1, 1) := by decide +kernel
theorem dJ2_getChars_ba4f3_1 : decode cJ2_getChars_ba4f3 1 = .ok (.istore 5, 2) := by decide +kernel
theorem dJ2_getChars_ba4f3_3 : decode cJ2_getChars_ba4f3 3 = .ok (.iload_n 0, 1) := by decide +kernel
theorem dJ2_getChars_ba4f3_4 : decode cJ2_getChars_ba4f3 4 = .ok (.ifCond .ge 7, 3) := by decide +kernel
theorem dJ2_getChars_ba4f3_7 : decode cJ2_getChars_ba4f3 7 = .ok (.iconst 1, 1) := by decide +kernel
theorem dJ2_getChars_ba4f3_8 : decode cJ2_getChars_ba4f3 8 = .ok (.goto 4, 3) := by decide +kernel
theorem dJ2_getChars_ba4f3_11 : decode cJ2_getChars_ba4f3 11 = .ok (.iconst 0, 1) := by decide +kernel
theorem dJ2_getChars_ba4f3_12 : decode cJ2_getChars_ba4f3 12 = .ok (.istore 6, 2) := by decide +kernel
theorem dJ2_getChars_ba4f3_14 : decode cJ2_getChars_ba4f3 14 = .ok (.iload 6, 2) := by decide +kernel
theorem dJ2_getChars_ba4f3_16 : decode cJ2_getChars_ba4f3 16 = .ok (.ifCond .ne 6, 3) := by decide +kernel
theorem dJ2_getChars_ba4f3_19 : decode cJ2_getChars_ba4f3 19 = .ok (.iload_n 0, 1) := by decide +kernel
theorem dJ2_getChars_ba4f3_20 : decode cJ2_getChars_ba4f3 20 = .ok (.ineg, 1) := by decide +kernel
theorem dJ2_getChars_ba4f3_21 : decode cJ2_getChars_ba4f3 21 = .ok (.istore_n 0, 1) := by decide +kernel
theorem dJ2_getChars_ba4f3_22 : decode cJ2_getChars_ba4f3 22 = .ok (.iload_n 0, 1) := by decide +kernel
theorem dJ2_getChars_ba4f3_23 : decode cJ2_getChars_ba4f3 23 = .ok (.bipush (-100), 2) := by decide +kernel
theorem dJ2_getChars_ba4f3_25 : decode cJ2_getChars_ba4f3 25 = .ok (.if_icmp .gt 51, 3) := by decide +kernel
theorem dJ2_getChars_ba4f3_28 : decode cJ2_getChars_ba4f3 28 = .ok (.iload_n 0, 1) := by decide +kernel
theorem dJ2_getChars_ba4f3_29 : decode cJ2_getChars_ba4f3 29 = .ok (.bipush 100, 2) := by decide +kernel
theorem dJ2_getChars_ba4f3_31 : decode cJ2_getChars_ba4f3 31 = .ok (.idiv, 1) := by decide +kernel
theorem dJ2_getChars_ba4f3_32 : decode cJ2_getChars_ba4f3 32 = .ok (.istore_n 3, 1) := by decide +kernel
theorem dJ2_getChars_ba4f3_33 : decode cJ2_getChars_ba4f3 33 = .ok (.iload_n 3, 1) := by decide +kernel
theorem dJ2_getChars_ba4f3_34 : decode cJ2_getChars_ba4f3 34 = .ok (.bipush 100, 2) := by decide +kernel
theorem dJ2_getChars_ba4f3_36 : decode cJ2_getChars_ba4f3 36 = .ok (.imul, 1) := by decide +kernel
theorem dJ2_getChars_ba4f3_37 : decode cJ2_getChars_ba4f3 37 = .ok (.iload_n 0, 1) := by decide +kernel
theorem dJ2_getChars_ba4f3_38 : decode cJ2_getChars_ba4f3 38 = .ok (.isub, 1) := by decide +kernel
theorem dJ2_getChars_ba4f3_39 : decode cJ2_getChars_ba4f3 39 = .ok (.istore 4, 2) := by decide +kernel
theorem dJ2_getChars_ba4f3_41 : decode cJ2_getChars_ba4f3 41 = .ok (.iload_n 3, 1) := by decide +kernel
theorem dJ2_getChars_ba4f3_42 : decode cJ2_getChars_ba4f3 42 = .ok (.istore_n 0, 1) := by decide +kernel
theorem dJ2_getChars_ba4f3_43 : decode cJ2_getChars_ba4f3 43 = .ok (.aload_n 2, 1) := by decide +kernel
theorem dJ2_getChars_ba4f3_44 : decode cJ2_getChars_ba4f3 44 = .ok (.iinc 5 (-1), 3) := by decide +kernel
theorem dJ2_getChars_ba4f3_47 : decode cJ2_getChars_ba4f3 47 = .ok (.iload 5, 2) := by decide +kernel
theorem dJ2_getChars_ba4f3_49 : decode cJ2_getChars_ba4f3 49 = .ok (.getstatic 403, 3) := by decide +kernel
theorem dJ2_getChars_ba4f3_52 : decode cJ2_getChars_ba4f3 52 = .ok (.iload 4, 2) := by decide +kernel
theorem dJ2_getChars_ba4f3_54 : decode cJ2_getChars_ba4f3 54 = .ok (.baload, 1) := by decide +kernel
theorem dJ2_getChars_ba4f3_55 : decode cJ2_getChars_ba4f3 55 = .ok (.invokestatic 111, 3) := by decide +kernel
theorem dJ2_getChars_ba4f3_58 : decode cJ2_getChars_ba4f3 58 = .ok (.aload_n 2, 1) := by decide +kernel
theorem dJ2_getChars_ba4f3_59 : decode cJ2_getChars_ba4f3 59 = .ok (.iinc 5 (-1), 3) := by decide +kernel
theorem dJ2_getChars_ba4f3_62 : decode cJ2_getChars_ba4f3 62 = .ok (.iload 5, 2) := by decide +kernel
theorem dJ2_getChars_ba4f3_64 : decode cJ2_getChars_ba4f3 64 = .ok (.getstatic 407, 3) := by decide +kernel
theorem dJ2_getChars_ba4f3_67 : decode cJ2_getChars_ba4f3 67 = .ok (.iload 4, 2) := by decide +kernel
theorem dJ2_getChars_ba4f3_69 : decode cJ2_getChars_ba4f3 69 = .ok (.baload, 1) := by decide +kernel
theorem dJ2_getChars_ba4f3_70 : decode cJ2_getChars_ba4f3 70 = .ok (.invokestatic 111, 3) := by decide +kernel
theorem dJ2_getChars_ba4f3_73 : decode cJ2_getChars_ba4f3 73 = .ok (.goto (-51), 3) := by decide +kernel
theorem dJ2_getChars_ba4f3_76 : decode cJ2_getChars_ba4f3 76 = .ok (.aload_n 2, 1) := by decide +kernel
theorem dJ2_getChars_ba4f3_77 : decode cJ2_getChars_ba4f3 77 = .ok (.iinc 5 (-1), 3) := by decide +kernel
theorem dJ2_getChars_ba4f3_80 : decode cJ2_getChars_ba4f3 80 = .ok (.iload 5, 2) := by decide +kernel
theorem dJ2_getChars_ba4f3_82 : decode cJ2_getChars_ba4f3 82 = .ok (.getstatic 403, 3) := by decide +kernel
theorem dJ2_getChars_ba4f3_85 : decode cJ2_getChars_ba4f3 85 = .ok (.iload_n 0, 1) := by decide +kernel
theorem dJ2_getChars_ba4f3_86 : decode cJ2_getChars_ba4f3 86 = .ok (.ineg, 1) := by decide +kernel
theorem dJ2_getChars_ba4f3_87 : decode cJ2_getChars_ba4f3 87 = .ok (.baload, 1) := by decide +kernel
theorem dJ2_getChars_ba4f3_88 : decode cJ2_getChars_ba4f3 88 = .ok (.invokestatic 111, 3) := by decide +kernel
theorem dJ2_getChars_ba4f3_91 : decode cJ2_getChars_ba4f3 91 = .ok (.iload_n 0, 1) := by decide +kernel
theorem dJ2_getChars_ba4f3_92 : decode cJ2_getChars_ba4f3 92 = .ok (.bipush (-9), 2) := by decide +kernel
theorem dJ2_getChars_ba4f3_94 : decode cJ2_getChars_ba4f3 94 = .ok (.if_icmp .ge 18, 3) := by decide +kernel
theorem dJ2_getChars_ba4f3_97 : decode cJ2_getChars_ba4f3 97 = .ok (.aload_n 2, 1) := by decide +kernel
theorem dJ2_getChars_ba4f3_98 : decode cJ2_getChars_ba4f3 98 = .ok (.iinc 5 (-1), 3) := by decide +kernel
theorem dJ2_getChars_ba4f3_101 : decode cJ2_getChars_ba4f3 101 = .ok (.iload 5, 2) := by decide +kernel
theorem dJ2_getChars_ba4f3_103 : decode cJ2_getChars_ba4f3 103 = .ok (.getstatic 407, 3) := by decide +kernel
theorem dJ2_getChars_ba4f3_106 : decode cJ2_getChars_ba4f3 106 = .ok (.iload_n 0, 1) := by decide +kernel
theorem dJ2_getChars_ba4f3_107 : decode cJ2_getChars_ba4f3 107 = .ok (.ineg, 1) := by decide +kernel
theorem dJ2_getChars_ba4f3_108 : decode cJ2_getChars_ba4f3 108 = .ok (.baload, 1) := by decide +kernel
theorem dJ2_getChars_ba4f3_109 : decode cJ2_getChars_ba4f3 109 = .ok (.invokestatic 111, 3) := by decide +kernel
theorem dJ2_getChars_ba4f3_112 : decode cJ2_getChars_ba4f3 112 = .ok (.iload 6, 2) := by decide +kernel
theorem dJ2_getChars_ba4f3_114 : decode cJ2_getChars_ba4f3 114 = .ok (.ifCond .eq 14, 3) := by decide +kernel
theorem dJ2_getChars_ba4f3_117 : decode cJ2_getChars_ba4f3 117 = .ok (.aload_n 2, 1) := by decide +kernel
theorem dJ2_getChars_ba4f3_118 : decode cJ2_getChars_ba4f3 118 = .ok (.iinc 5 (-1), 3) := by decide +kernel
theorem dJ2_getChars_ba4f3_121 : decode cJ2_getChars_ba4f3 121 = .ok (.iload 5, 2) := by decide +kernel
theorem dJ2_getChars_ba4f3_123 : decode cJ2_getChars_ba4f3 123 = .ok (.bipush 45, 2) := by decide +kernel
theorem dJ2_getChars_ba4f3_125 : decode cJ2_getChars_ba4f3 125 = .ok (.invokestatic 111, 3) := by decide +kernel
theorem dJ2_getChars_ba4f3_128 : decode cJ2_getChars_ba4f3 128 = .ok (.iload 5, 2) := by decide +kernel
theorem dJ2_getChars_ba4f3_130 : decode cJ2_getChars_ba4f3 130 = .ok (.ireturn, 1) := by decide +kernel
theorem dJ2_checkIndex_2214a_0 : decode cJ2_checkIndex_2214a 0 = .ok (.iload_n 0, 1) := by decide +kernel
theorem dJ2_checkIndex_2214a_1 : decode cJ2_checkIndex_2214a 1 = .ok (.aload_n 1, 1) := by decide +kernel
theorem dJ2_checkIndex_2214a_2 : decode cJ2_checkIndex_2214a 2 = .ok (.invokestatic 48, 3) := by decide +kernel
theorem dJ2_checkIndex_2214a_5 : decode cJ2_checkIndex_2214a 5 = .ok (.invokestatic 414, 3) := by decide +kernel
theorem dJ2_checkIndex_2214a_8 : decode cJ2_checkIndex_2214a 8 = .ok (.return_, 1) := by decide +kernel
theorem dJ2_checkBoundsBeginEnd_d044e_0 : decode cJ2_checkBoundsBeginEnd_d044e 0 = .ok (.iload_n 0, 1) := by decide +kernel
theorem dJ2_checkBoundsBeginEnd_d044e_1 : decode cJ2_checkBoundsBeginEnd_d044e 1 = .ok (.iload_n 1, 1) := by decide +kernel
theorem dJ2_checkBoundsBeginEnd_d044e_2 : decode cJ2_checkBoundsBeginEnd_d044e 2 = .ok (.aload_n 2, 1) := by decide +kernel
theorem dJ2_checkBoundsBeginEnd_d044e_3 : decode cJ2_checkBoundsBeginEnd_d044e 3 = .ok (.invokestatic 48, 3) := by decide +kernel
theorem dJ2_checkBoundsBeginEnd_d044e_6 : decode cJ2_checkBoundsBeginEnd_d044e 6 = .ok (.invokestatic 241, 3) := by decide +kernel
theorem dJ2_checkBoundsBeginEnd_d044e_9 : decode cJ2_checkBoundsBeginEnd_d044e 9 = .ok (.return_, 1) := by decide +kernel
theorem dJ2_checkBoundsOffCount_d044e_0 : decode cJ2_checkBoundsOffCount_d044e 0 = .ok (.iload_n 0, 1) := by decide +kernel
theorem dJ2_checkBoundsOffCount_d044e_1 : decode cJ2_checkBoundsOffCount_d044e 1 = .ok (.iload_n 1, 1) := by decide +kernel
theorem dJ2_checkBoundsOffCount_d044e_2 : decode cJ2_checkBoundsOffCount_d044e 2 = .ok (.aload_n 2, 1) := by decide +kernel
theorem dJ2_checkBoundsOffCount_d044e_3 : decode cJ2_checkBoundsOffCount_d044e 3 = .ok (.invokestatic 48, 3) := by decide +kernel
theorem dJ2_checkBoundsOffCount_d044e_6 : decode cJ2_checkBoundsOffCount_d044e 6 = .ok (.invokestatic 419, 3) := by decide +kernel
theorem dJ2_checkBoundsOffCount_d044e_9 : decode cJ2_checkBoundsOffCount_d044e 9 = .ok (.pop, 1) := by decide +kernel
theorem dJ2_checkBoundsOffCount_d044e_10 : decode cJ2_checkBoundsOffCount_d044e 10 = .ok (.return_, 1) := by decide +kernel
theorem dJxa1e45_init_da8c8_0 : decode cJxa1e45_init_da8c8 0 = .ok (.aload_n 0, 1) := by decide +kernel
theorem dJxa1e45_init_da8c8_1 : decode cJxa1e45_init_da8c8 1 = .ok (.invokespecial 1, 3) := by decide +kernel
theorem dJxa1e45_init_da8c8_4 : decode cJxa1e45_init_da8c8 4 = .ok (.return_, 1) := by decide +kernel
theorem dJxc12de_init_da8c8_0 : decode cJxc12de_init_da8c8 0 = .ok (.aload_n 0, 1) := by decide +kernel
theorem dJxc12de_init_da8c8_1 : decode cJxc12de_init_da8c8 1 = .ok (.invokespecial 1, 3) := by decide +kernel
theorem dJxc12de_init_da8c8_4 : decode cJxc12de_init_da8c8 4 = .ok (.aload_n 0, 1) := by decide +kernel
theorem dJxc12de_init_da8c8_5 : decode cJxc12de_init_da8c8 5 = .ok (.iconst 0, 1) := by decide +kernel
theorem dJxc12de_init_da8c8_6 : decode cJxc12de_init_da8c8 6 = .ok (.putfield 7, 3) := by decide +kernel
theorem dJxc12de_init_da8c8_9 : decode cJxc12de_init_da8c8 9 = .ok (.return_, 1) := by decide +kernel
theorem dJx4a65c_init_da8c8_0 : decode cJx4a65c_init_da8c8 0 = .ok (.aload_n 0, 1) := by decide +kernel
theorem dJx4a65c_init_da8c8_1 : decode cJx4a65c_init_da8c8 1 = .ok (.invokespecial 1, 3) := by decide +kernel
theorem dJx4a65c_init_da8c8_4 : decode cJx4a65c_init_da8c8 4 = .ok (.aload_n 0, 1) := by decide +kernel
theorem dJx4a65c_init_da8c8_5 : decode cJx4a65c_init_da8c8 5 = .ok (.getstatic 39, 3) := by decide +kernel
theorem dJx4a65c_init_da8c8_8 : decode cJx4a65c_init_da8c8 8 = .ok (.putfield 9, 3) := by decide +kernel
theorem dJx4a65c_init_da8c8_11 : decode cJx4a65c_init_da8c8 11 = .ok (.return_, 1) := by decide +kernel
theorem dJx4a65c_grow_92f84_0 : decode cJx4a65c_grow_92f84 0 = .ok (.aload_n 0, 1) := by decide +kernel
theorem dJx4a65c_grow_92f84_1 : decode cJx4a65c_grow_92f84 1 = .ok (.getfield 9, 3) := by decide +kernel
theorem dJx4a65c_grow_92f84_4 : decode cJx4a65c_grow_92f84 4 = .ok (.arraylength, 1) := by decide +kernel
theorem dJx4a65c_grow_92f84_5 : decode cJx4a65c_grow_92f84 5 = .ok (.istore_n 2, 1) := by decide +kernel
theorem dJx4a65c_grow_92f84_6 : decode cJx4a65c_grow_92f84 6 = .ok (.iload_n 2, 1) := by decide +kernel
theorem dJx4a65c_grow_92f84_7 : decode cJx4a65c_grow_92f84 7 = .ok (.ifCond .gt 13, 3) := by decide +kernel
theorem dJx4a65c_grow_92f84_10 : decode cJx4a65c_grow_92f84 10 = .ok (.aload_n 0, 1) := by decide +kernel
theorem dJx4a65c_grow_92f84_11 : decode cJx4a65c_grow_92f84 11 = .ok (.getfield 9, 3) := by decide +kernel
theorem dJx4a65c_grow_92f84_14 : decode cJx4a65c_grow_92f84 14 = .ok (.getstatic 39, 3) := by decide +kernel
theorem dJx4a65c_grow_92f84_17 : decode cJx4a65c_grow_92f84 17 = .ok (.if_acmp .eq 28, 3) := by decide +kernel
theorem dJx4a65c_grow_92f84_20 : decode cJx4a65c_grow_92f84 20 = .ok (.iload_n 2, 1) := by decide +kernel
theorem dJx4a65c_grow_92f84_21 : decode cJx4a65c_grow_92f84 21 = .ok (.iload_n 1, 1) := by decide +kernel
theorem dJx4a65c_grow_92f84_22 : decode cJx4a65c_grow_92f84 22 = .ok (.iload_n 2, 1) := by decide +kernel
theorem dJx4a65c_grow_92f84_23 : decode cJx4a65c_grow_92f84 23 = .ok (.isub, 1) := by decide +kernel
theorem dJx4a65c_grow_92f84_24 : decode cJx4a65c_grow_92f84 24 = .ok (.iload_n 2, 1) := by decide +kernel
theorem dJx4a65c_grow_92f84_25 : decode cJx4a65c_grow_92f84 25 = .ok (.iconst 1, 1) := by decide +kernel
theorem dJx4a65c_grow_92f84_26 : decode cJx4a65c_grow_92f84 26 = .ok (.ishr, 1) := by decide +kernel
theorem dJx4a65c_grow_92f84_27 : decode cJx4a65c_grow_92f84 27 = .ok (.invokestatic 73, 3) := by decide +kernel
theorem dJx4a65c_grow_92f84_30 : decode cJx4a65c_grow_92f84 30 = .ok (.istore_n 3, 1) := by decide +kernel
theorem dJx4a65c_grow_92f84_31 : decode cJx4a65c_grow_92f84 31 = .ok (.aload_n 0, 1) := by decide +kernel
theorem dJx4a65c_grow_92f84_32 : decode cJx4a65c_grow_92f84 32 = .ok (.aload_n 0, 1) := by decide +kernel
theorem dJx4a65c_grow_92f84_33 : decode cJx4a65c_grow_92f84 33 = .ok (.getfield 9, 3) := by decide +kernel
theorem dJx4a65c_grow_92f84_36 : decode cJx4a65c_grow_92f84 36 = .ok (.iload_n 3, 1) := by decide +kernel
theorem dJx4a65c_grow_92f84_37 : decode cJx4a65c_grow_92f84 37 = .ok (.invokestatic 66, 3) := by decide +kernel
theorem dJx4a65c_grow_92f84_40 : decode cJx4a65c_grow_92f84 40 = .ok (.dup_x1, 1) := by decide +kernel
theorem dJx4a65c_grow_92f84_41 : decode cJx4a65c_grow_92f84 41 = .ok (.putfield 9, 3) := by decide +kernel
theorem dJx4a65c_grow_92f84_44 : decode cJx4a65c_grow_92f84 44 = .ok (.areturn, 1) := by decide +kernel
theorem dJx4a65c_grow_92f84_45 : decode cJx4a65c_grow_92f84 45 = .ok (.aload_n 0, 1) := by decide +kernel
theorem dJx4a65c_grow_92f84_46 : decode cJx4a65c_grow_92f84 46 = .ok (.bipush 10, 2) := by decide +kernel
theorem dJx4a65c_grow_92f84_48 : decode cJx4a65c_grow_92f84 48 = .ok (.iload_n 1, 1) := by decide +kernel
theorem dJx4a65c_grow_92f84_49 : decode cJx4a65c_grow_92f84 49 = .ok (.invokestatic 79, 3) := by decide +kernel
theorem dJx4a65c_grow_92f84_52 : decode cJx4a65c_grow_92f84 52 = .ok (.anewarray 7, 3) := by decide +kernel
theorem dJx4a65c_grow_92f84_55 : decode cJx4a65c_grow_92f84 55 = .ok (.dup_x1, 1) := by decide +kernel
theorem dJx4a65c_grow_92f84_56 : decode cJx4a65c_grow_92f84 56 = .ok (.putfield 9, 3) := by decide +kernel
theorem dJx4a65c_grow_92f84_59 : decode cJx4a65c_grow_92f84 59 = .ok (.areturn, 1) := by decide +kernel
theorem dJx4a65c_grow_d5877_0 : decode cJx4a65c_grow_d5877 0 = .ok (.aload_n 0, 1) := by decide +kernel
theorem dJx4a65c_grow_d5877_1 : decode cJx4a65c_grow_d5877 1 = .ok (.aload_n 0, 1) := by decide +kernel
theorem dJx4a65c_grow_d5877_2 : decode cJx4a65c_grow_d5877 2 = .ok (.getfield 48, 3) := by decide +kernel
theorem dJx4a65c_grow_d5877_5 : decode cJx4a65c_grow_d5877 5 = .ok (.iconst 1, 1) := by decide +kernel
theorem dJx4a65c_grow_d5877_6 : decode cJx4a65c_grow_d5877 6 = .ok (.iadd, 1) := by decide +kernel
theorem dJx4a65c_grow_d5877_7 : decode cJx4a65c_grow_d5877 7 = .ok (.invokevirtual 69, 3) := by decide +kernel
theorem dJx4a65c_grow_d5877_10 : decode cJx4a65c_grow_d5877 10 = .ok (.areturn, 1) := by decide +kernel
theorem dJx4a65c_size_8abf5_0 : decode cJx4a65c_size_8abf5 0 = .ok (.aload_n 0, 1) := by decide +kernel
theorem dJx4a65c_size_8abf5_1 : decode cJx4a65c_size_8abf5 1 = .ok (.getfield 48, 3) := by decide +kernel
theorem dJx4a65c_size_8abf5_4 : decode cJx4a65c_size_8abf5 4 = .ok (.ireturn, 1) := by decide +kernel
theorem dJx4a65c_isEmpty_aae02_0 : decode cJx4a65c_isEmpty_aae02 0 = .ok (.aload_n 0, 1) := by decide +kernel
theorem dJx4a65c_isEmpty_aae02_1 : decode cJx4a65c_isEmpty_aae02 1 = .ok (.getfield 48, 3) := by decide +kernel
theorem dJx4a65c_isEmpty_aae02_4 : decode cJx4a65c_isEmpty_aae02 4 = .ok (.ifCond .ne 7, 3) := by decide +kernel
theorem dJx4a65c_isEmpty_aae02_7 : decode cJx4a65c_isEmpty_aae02 7 = .ok (.iconst 1, 1) := by decide +kernel
theorem dJx4a65c_isEmpty_aae02_8 : decode cJx4a65c_isEmpty_aae02 8 = .ok (.goto 4, 3) := by decide +kernel
theorem dJx4a65c_isEmpty_aae02_11 : decode cJx4a65c_isEmpty_aae02 11 = .ok (.iconst 0, 1) := by decide +kernel
theorem dJx4a65c_isEmpty_aae02_12 : decode cJx4a65c_isEmpty_aae02 12 = .ok (.ireturn, 1) := by decide +kernel
theorem dJx4a65c_elementData_915e3_0 : decode cJx4a65c_elementData_915e3 0 = .ok (.aload_n 0, 1) := by decide +kernel
theorem dJx4a65c_elementData_915e3_1 : decode cJx4a65c_elementData_915e3 1 = .ok (.getfield 9, 3) := by decide +kernel
theorem dJx4a65c_elementData_915e3_4 : decode cJx4a65c_elementData_915e3 4 = .ok (.iload_n 1, 1) := by decide +kernel
theorem dJx4a65c_elementData_915e3_5 : decode cJx4a65c_elementData_915e3 5 = .ok (.aaload, 1) := by decide +kernel
theorem dJx4a65c_elementData_915e3_6 : decode cJx4a65c_elementData_915e3 6 = .ok (.areturn, 1) := by decide +kernel
theorem dJx4a65c_get_915e3_0 : decode cJx4a65c_get_915e3 0 = .ok (.iload_n 1, 1) := by decide +kernel
theorem dJx4a65c_get_915e3_1 : decode cJx4a65c_get_915e3 1 = .ok (.aload_n 0, 1) := by decide +kernel
theorem dJx4a65c_get_915e3_2 : decode cJx4a65c_get_915e3 2 = .ok (.getfield 48, 3) := by decide +kernel
theorem dJx4a65c_get_915e3_5 : decode cJx4a65c_get_915e3 5 = .ok (.invokestatic 118, 3) := by decide +kernel
theorem dJx4a65c_get_915e3_8 : decode cJx4a65c_get_915e3 8 = .ok (.pop, 1) := by decide +kernel
theorem dJx4a65c_get_915e3_9 : decode cJx4a65c_get_915e3 9 = .ok (.aload_n 0, 1) := by decide +kernel
theorem dJx4a65c_get_915e3_10 : decode cJx4a65c_get_915e3 10 = .ok (.iload_n 1, 1) := by decide +kernel
theorem dJx4a65c_get_915e3_11 : decode cJx4a65c_get_915e3 11 = .ok (.invokevirtual 123, 3) := by decide +kernel
theorem dJx4a65c_get_915e3_14 : decode cJx4a65c_get_915e3 14 = .ok (.areturn, 1) := by decide +kernel
theorem dJx4a65c_add_72be8_0 : decode cJx4a65c_add_72be8 0 = .ok (.iload_n 3, 1) := by decide +kernel
theorem dJx4a65c_add_72be8_1 : decode cJx4a65c_add_72be8 1 = .ok (.aload_n 2, 1) := by decide +kernel
theorem dJx4a65c_add_72be8_2 : decode cJx4a65c_add_72be8 2 = .ok (.arraylength, 1) := by decide +kernel
theorem dJx4a65c_add_72be8_3 : decode cJx4a65c_add_72be8 3 = .ok (.if_icmp .ne 8, 3) := by decide +kernel
theorem dJx4a65c_add_72be8_6 : decode cJx4a65c_add_72be8 6 = .ok (.aload_n 0, 1) := by decide +kernel
theorem dJx4a65c_add_72be8_7 : decode cJx4a65c_add_72be8 7 = .ok (.invokevirtual 129, 3) := by decide +kernel
theorem dJx4a65c_add_72be8_10 : decode cJx4a65c_add_72be8 10 = .ok (.astore_n 2, 1) := by decide +kernel
theorem dJx4a65c_add_72be8_11 : decode cJx4a65c_add_72be8 11 = .ok (.aload_n 2, 1) := by decide +kernel
theorem dJx4a65c_add_72be8_12 : decode cJx4a65c_add_72be8 12 = .ok (.iload_n 3, 1) := by decide +kernel
theorem dJx4a65c_add_72be8_13 : decode cJx4a65c_add_72be8 13 = .ok (.aload_n 1, 1) := by decide +kernel
theorem dJx4a65c_add_72be8_14 : decode cJx4a65c_add_72be8 14 = .ok (.aastore, 1) := by decide +kernel
theorem dJx4a65c_add_72be8_15 : decode cJx4a65c_add_72be8 15 = .ok (.aload_n 0, 1) := by decide +kernel
theorem dJx4a65c_add_72be8_16 : decode cJx4a65c_add_72be8 16 = .ok (.iload_n 3, 1) := by decide +kernel
theorem dJx4a65c_add_72be8_17 : decode cJx4a65c_add_72be8 17 = .ok (.iconst 1, 1) := by decide +kernel
theorem dJx4a65c_add_72be8_18 : decode cJx4a65c_add_72be8 18 = .ok (.iadd, 1) := by decide +kernel
theorem dJx4a65c_add_72be8_19 : decode cJx4a65c_add_72be8 19 = .ok (.putfield 48, 3) := by decide +kernel
theorem dJx4a65c_add_72be8_22 : decode cJx4a65c_add_72be8 22 = .ok (.return_, 1) := by decide +kernel
theorem dJx4a65c_add_9ea2d_0 : decode cJx4a65c_add_9ea2d 0 = .ok (.aload_n 0, 1) := by decide +kernel
theorem dJx4a65c_add_9ea2d_1 : decode cJx4a65c_add_9ea2d 1 = .ok (.dup, 1) := by decide +kernel
theorem dJx4a65c_add_9ea2d_2 : decode cJx4a65c_add_9ea2d 2 = .ok (.getfield 63, 3) := by decide +kernel
theorem dJx4a65c_add_9ea2d_5 : decode cJx4a65c_add_9ea2d 5 = .ok (.iconst 1, 1) := by decide +kernel
theorem dJx4a65c_add_9ea2d_6 : decode cJx4a65c_add_9ea2d 6 = .ok (.iadd, 1) := by decide +kernel
theorem dJx4a65c_add_9ea2d_7 : decode cJx4a65c_add_9ea2d 7 = .ok (.putfield 63, 3) := by decide +kernel
theorem dJx4a65c_add_9ea2d_10 : decode cJx4a65c_add_9ea2d 10 = .ok (.aload_n 0, 1) := by decide +kernel
theorem dJx4a65c_add_9ea2d_11 : decode cJx4a65c_add_9ea2d 11 = .ok (.aload_n 1, 1) := by decide +kernel
theorem dJx4a65c_add_9ea2d_12 : decode cJx4a65c_add_9ea2d 12 = .ok (.aload_n 0, 1) := by decide +kernel
theorem dJx4a65c_add_9ea2d_13 : decode cJx4a65c_add_9ea2d 13 = .ok (.getfield 9, 3) := by decide +kernel
theorem dJx4a65c_add_9ea2d_16 : decode cJx4a65c_add_9ea2d 16 = .ok (.aload_n 0, 1) := by decide +kernel
theorem dJx4a65c_add_9ea2d_17 : decode cJx4a65c_add_9ea2d 17 = .ok (.getfield 48, 3) := by decide +kernel
theorem dJx4a65c_add_9ea2d_20 : decode cJx4a65c_add_9ea2d 20 = .ok (.invokevirtual 131, 3) := by decide +kernel
theorem dJx4a65c_add_9ea2d_23 : decode cJx4a65c_add_9ea2d 23 = .ok (.iconst 1, 1) := by decide +kernel
theorem dJx4a65c_add_9ea2d_24 : decode cJx4a65c_add_9ea2d 24 = .ok (.ireturn, 1) := by decide +kernel
theorem dJ7_rangeCheck_23922_0 : decode cJ7_rangeCheck_23922 0 = .ok (.iload_n 1, 1) := by decide +kernel
theorem dJ7_rangeCheck_23922_1 : decode cJ7_rangeCheck_23922 1 = .ok (.iload_n 2, 1) := by decide +kernel
theorem dJ7_rangeCheck_23922_2 : decode cJ7_rangeCheck_23922 2 = .ok (.if_icmp .le 44, 3) := by decide +kernel
theorem dJ7_rangeCheck_23922_5 : decode cJ7_rangeCheck_23922 5 = .ok (.new 43, 3) := by decide +kernel
theorem dJ7_rangeCheck_23922_8 : decode cJ7_rangeCheck_23922 8 = .ok (.dup, 1) := by decide +kernel
theorem dJ7_rangeCheck_23922_9 : decode cJ7_rangeCheck_23922 9 = .ok (.new 45, 3) := by decide +kernel
theorem dJ7_rangeCheck_23922_12 : decode cJ7_rangeCheck_23922 12 = .ok (.dup, 1) := by decide +kernel
theorem dJ7_rangeCheck_23922_13 : decode cJ7_rangeCheck_23922 13 = .ok (.invokespecial 47, 3) := by decide +kernel
theorem dJ7_rangeCheck_23922_16 : decode cJ7_rangeCheck_23922 16 = .ok (.ldc 48, 2) := by decide +kernel
theorem dJ7_rangeCheck_23922_18 : decode cJ7_rangeCheck_23922 18 = .ok (.invokevirtual 50, 3) := by decide +kernel
theorem dJ7_rangeCheck_23922_21 : decode cJ7_rangeCheck_23922 21 = .ok (.iload_n 1, 1) := by decide +kernel
theorem dJ7_rangeCheck_23922_22 : decode cJ7_rangeCheck_23922 22 = .ok (.invokevirtual 54, 3) := by decide +kernel
theorem dJ7_rangeCheck_23922_25 : decode cJ7_rangeCheck_23922 25 = .ok (.ldc 57, 2) := by decide +kernel
theorem dJ7_rangeCheck_23922_27 : decode cJ7_rangeCheck_23922 27 = .ok (.invokevirtual 50, 3) := by decide +kernel
theorem dJ7_rangeCheck_23922_30 : decode cJ7_rangeCheck_23922 30 = .ok (.iload_n 2, 1) := by decide +kernel
theorem dJ7_rangeCheck_23922_31 : decode cJ7_rangeCheck_23922 31 = .ok (.invokevirtual 54, 3) := by decide +kernel
theorem dJ7_rangeCheck_23922_34 : decode cJ7_rangeCheck_23922 34 = .ok (.ldc 59, 2) := by decide +kernel
theorem dJ7_rangeCheck_23922_36 : decode cJ7_rangeCheck_23922 36 = .ok (.invokevirtual 50, 3) := by decide +kernel
theorem dJ7_rangeCheck_23922_39 : decode cJ7_rangeCheck_23922 39 = .ok (.invokevirtual 61, 3) := by decide +kernel
theorem dJ7_rangeCheck_23922_42 : decode cJ7_rangeCheck_23922 42 = .ok (.invokespecial 65, 3) := by decide +kernel
theorem dJ7_rangeCheck_23922_45 : decode cJ7_rangeCheck_23922 45 = .ok (.athrow, 1) := by decide +kernel
theorem dJ7_rangeCheck_23922_46 : decode cJ7_rangeCheck_23922 46 = .ok (.iload_n 1, 1) := by decide +kernel
theorem dJ7_rangeCheck_23922_47 : decode cJ7_rangeCheck_23922 47 = .ok (.ifCond .ge 12, 3) := by decide +kernel
theorem dJ7_rangeCheck_23922_50 : decode cJ7_rangeCheck_23922 50 = .ok (.new 68, 3) := by decide +kernel
theorem dJ7_rangeCheck_23922_53 : decode cJ7_rangeCheck_23922 53 = .ok (.dup, 1) := by decide +kernel
theorem dJ7_rangeCheck_23922_54 : decode cJ7_rangeCheck_23922 54 = .ok (.iload_n 1, 1) := by decide +kernel
theorem dJ7_rangeCheck_23922_55 : decode cJ7_rangeCheck_23922 55 = .ok (.invokespecial 70, 3) := by decide +kernel
theorem dJ7_rangeCheck_23922_58 : decode cJ7_rangeCheck_23922 58 = .ok (.athrow, 1) := by decide +kernel
theorem dJ7_rangeCheck_23922_59 : decode cJ7_rangeCheck_23922 59 = .ok (.iload_n 2, 1) := by decide +kernel
theorem dJ7_rangeCheck_23922_60 : decode cJ7_rangeCheck_23922 60 = .ok (.iload_n 0, 1) := by decide +kernel
theorem dJ7_rangeCheck_23922_61 : decode cJ7_rangeCheck_23922 61 = .ok (.if_icmp .le 12, 3) := by decide +kernel
theorem dJ7_rangeCheck_23922_64 : decode cJ7_rangeCheck_23922 64 = .ok (.new 68, 3) := by decide +kernel
theorem dJ7_rangeCheck_23922_67 : decode cJ7_rangeCheck_23922 67 = .ok (.dup, 1) := by decide +kernel
theorem dJ7_rangeCheck_23922_68 : decode cJ7_rangeCheck_23922 68 = .ok (.iload_n 2, 1) := by decide +kernel
theorem dJ7_rangeCheck_23922_69 : decode cJ7_rangeCheck_23922 69 = .ok (.invokespecial 70, 3) := by decide +kernel
theorem dJ7_rangeCheck_23922_72 : decode cJ7_rangeCheck_23922 72 = .ok (.athrow, 1) := by decide +kernel
theorem dJ7_rangeCheck_23922_73 : decode cJ7_rangeCheck_23922 73 = .ok (.return_, 1) := by decide +kernel
theorem dJ7_fill_53178_0 : decode cJ7_fill_53178 0 = .ok (.iconst 0, 1) := by decide +kernel
theorem dJ7_fill_53178_1 : decode cJ7_fill_53178 1 = .ok (.istore_n 2, 1) := by decide +kernel
theorem dJ7_fill_53178_2 : decode cJ7_fill_53178 2 = .ok (.aload_n 0, 1) := by decide +kernel
theorem dJ7_fill_53178_3 : decode cJ7_fill_53178 3 = .ok (.arraylength, 1) := by decide +kernel
theorem dJ7_fill_53178_4 : decode cJ7_fill_53178 4 = .ok (.istore_n 3, 1) := by decide +kernel
theorem dJ7_fill_53178_5 : decode cJ7_fill_53178 5 = .ok (.iload_n 2, 1) := by decide +kernel
theorem dJ7_fill_53178_6 : decode cJ7_fill_53178 6 = .ok (.iload_n 3, 1) := by decide +kernel
theorem dJ7_fill_53178_7 : decode cJ7_fill_53178 7 = .ok (.if_icmp .ge 13, 3) := by decide +kernel
theorem dJ7_fill_53178_10 : decode cJ7_fill_53178 10 = .ok (.aload_n 0, 1) := by decide +kernel
theorem dJ7_fill_53178_11 : decode cJ7_fill_53178 11 = .ok (.iload_n 2, 1) := by decide +kernel
theorem dJ7_fill_53178_12 : decode cJ7_fill_53178 12 = .ok (.iload_n 1, 1) := by decide +kernel
theorem dJ7_fill_53178_13 : decode cJ7_fill_53178 13 = .ok (.iastore, 1) := by decide +kernel
theorem dJ7_fill_53178_14 : decode cJ7_fill_53178 14 = .ok (.iinc 2 1, 3) := by decide +kernel
theorem dJ7_fill_53178_17 : decode cJ7_fill_53178 17 = .ok (.goto (-12), 3) := by decide +kernel
theorem dJ7_fill_53178_20 : decode cJ7_fill_53178 20 = .ok (.return_, 1) := by decide +kernel
theorem dJ7_fill_eb02e_0 : decode cJ7_fill_eb02e 0 = .ok (.aload_n 0, 1) := by decide +kernel
theorem dJ7_fill_eb02e_1 : decode cJ7_fill_eb02e 1 = .ok (.arraylength, 1) := by decide +kernel
theorem dJ7_fill_eb02e_2 : decode cJ7_fill_eb02e 2 = .ok (.iload_n 1, 1) := by decide +kernel
theorem dJ7_fill_eb02e_3 : decode cJ7_fill_eb02e 3 = .ok (.iload_n 2, 1) := by decide +kernel
theorem dJ7_fill_eb02e_4 : decode cJ7_fill_eb02e 4 = .ok (.invokestatic 13, 3) := by decide +kernel
theorem dJ7_fill_eb02e_7 : decode cJ7_fill_eb02e 7 = .ok (.iload_n 1, 1) := by decide +kernel
theorem dJ7_fill_eb02e_8 : decode cJ7_fill_eb02e 8 = .ok (.istore 4, 2) := by decide +kernel
theorem dJ7_fill_eb02e_10 : decode cJ7_fill_eb02e 10 = .ok (.iload 4, 2) := by decide +kernel
theorem dJ7_fill_eb02e_12 : decode cJ7_fill_eb02e 12 = .ok (.iload_n 2, 1) := by decide +kernel
theorem dJ7_fill_eb02e_13 : decode cJ7_fill_eb02e 13 = .ok (.if_icmp .ge 14, 3) := by decide +kernel
theorem dJ7_fill_eb02e_16 : decode cJ7_fill_eb02e 16 = .ok (.aload_n 0, 1) := by decide +kernel
theorem dJ7_fill_eb02e_17 : decode cJ7_fill_eb02e 17 = .ok (.iload 4, 2) := by decide +kernel
theorem dJ7_fill_eb02e_19 : decode cJ7_fill_eb02e 19 = .ok (.iload_n 3, 1) := by decide +kernel
theorem dJ7_fill_eb02e_20 : decode cJ7_fill_eb02e 20 = .ok (.bastore, 1) := by decide +kernel
theorem dJ7_fill_eb02e_21 : decode cJ7_fill_eb02e 21 = .ok (.iinc 4 1, 3) := by decide +kernel
theorem dJ7_fill_eb02e_24 : decode cJ7_fill_eb02e 24 = .ok (.goto (-14), 3) := by decide +kernel
theorem dJ7_fill_eb02e_27 : decode cJ7_fill_eb02e 27 = .ok (.return_, 1) := by decide +kernel
theorem dJ7_copyOf_1904c_0 : decode cJ7_copyOf_1904c 0 = .ok (.aload_n 0, 1) := by decide +kernel
theorem dJ7_copyOf_1904c_1 : decode cJ7_copyOf_1904c 1 = .ok (.iload_n 1, 1) := by decide +kernel
theorem dJ7_copyOf_1904c_2 : decode cJ7_copyOf_1904c 2 = .ok (.aload_n 0, 1) := by decide +kernel
theorem dJ7_copyOf_1904c_3 : decode cJ7_copyOf_1904c 3 = .ok (.invokevirtual 86, 3) := by decide +kernel
theorem dJ7_copyOf_1904c_6 : decode cJ7_copyOf_1904c 6 = .ok (.invokestatic 300, 3) := by decide +kernel
theorem dJ7_copyOf_1904c_9 : decode cJ7_copyOf_1904c 9 = .ok (.areturn, 1) := by decide +kernel
theorem dJ7_copyOf_6403c_0 : decode cJ7_copyOf_6403c 0 = .ok (.aload_n 2, 1) := by decide +kernel
theorem dJ7_copyOf_6403c_1 : decode cJ7_copyOf_6403c 1 = .ok (.ldc 110, 2) := by decide +kernel
theorem dJ7_copyOf_6403c_3 : decode cJ7_copyOf_6403c 3 = .ok (.if_acmp .ne 10, 3) := by decide +kernel
theorem dJ7_copyOf_6403c_6 : decode cJ7_copyOf_6403c 6 = .ok (.iload_n 1, 1) := by decide +kernel
theorem dJ7_copyOf_6403c_7 : decode cJ7_copyOf_6403c 7 = .ok (.anewarray 2, 3) := by decide +kernel
theorem dJ7_copyOf_6403c_10 : decode cJ7_copyOf_6403c 10 = .ok (.goto 14, 3) := by decide +kernel
theorem dJ7_copyOf_6403c_13 : decode cJ7_copyOf_6403c 13 = .ok (.aload_n 2, 1) := by decide +kernel
theorem dJ7_copyOf_6403c_14 : decode cJ7_copyOf_6403c 14 = .ok (.invokevirtual 90, 3) := by decide +kernel
theorem dJ7_copyOf_6403c_17 : decode cJ7_copyOf_6403c 17 = .ok (.iload_n 1, 1) := by decide +kernel
theorem dJ7_copyOf_6403c_18 : decode cJ7_copyOf_6403c 18 = .ok (.invokestatic 95, 3) := by decide +kernel
theorem dJ7_copyOf_6403c_21 : decode cJ7_copyOf_6403c 21 = .ok (.checkcast 110, 3) := by decide +kernel
theorem dJ7_copyOf_6403c_24 : decode cJ7_copyOf_6403c 24 = .ok (.astore_n 3, 1) := by decide +kernel
theorem dJ7_copyOf_6403c_25 : decode cJ7_copyOf_6403c 25 = .ok (.aload_n 0, 1) := by decide +kernel
theorem dJ7_copyOf_6403c_26 : decode cJ7_copyOf_6403c 26 = .ok (.iconst 0, 1) := by decide +kernel
theorem dJ7_copyOf_6403c_27 : decode cJ7_copyOf_6403c 27 = .ok (.aload_n 3, 1) := by decide +kernel
theorem dJ7_copyOf_6403c_28 : decode cJ7_copyOf_6403c 28 = .ok (.iconst 0, 1) := by decide +kernel
theorem dJ7_copyOf_6403c_29 : decode cJ7_copyOf_6403c 29 = .ok (.aload_n 0, 1) := by decide +kernel
theorem dJ7_copyOf_6403c_30 : decode cJ7_copyOf_6403c 30 = .ok (.arraylength, 1) := by decide +kernel
theorem dJ7_copyOf_6403c_31 : decode cJ7_copyOf_6403c 31 = .ok (.iload_n 1, 1) := by decide +kernel
theorem dJ7_copyOf_6403c_32 : decode cJ7_copyOf_6403c 32 = .ok (.invokestatic 304, 3) := by decide +kernel
theorem dJ7_copyOf_6403c_35 : decode cJ7_copyOf_6403c 35 = .ok (.invokestatic 150, 3) := by decide +kernel
theorem dJ7_copyOf_6403c_38 : decode cJ7_copyOf_6403c 38 = .ok (.aload_n 3, 1) := by decide +kernel
theorem dJ7_copyOf_6403c_39 : decode cJ7_copyOf_6403c 39 = .ok (.areturn, 1) := by decide +kernel
theorem dJ7_copyOf_9075b_0 : decode cJ7_copyOf_9075b 0 = .ok (.iload_n 1, 1) := by decide +kernel
theorem dJ7_copyOf_9075b_1 : decode cJ7_copyOf_9075b 1 = .ok (.aload_n 0, 1) := by decide +kernel
theorem dJ7_copyOf_9075b_2 : decode cJ7_copyOf_9075b 2 = .ok (.arraylength, 1) := by decide +kernel
theorem dJ7_copyOf_9075b_3 : decode cJ7_copyOf_9075b 3 = .ok (.if_icmp .ne 11, 3) := by decide +kernel
theorem dJ7_copyOf_9075b_6 : decode cJ7_copyOf_9075b 6 = .ok (.aload_n 0, 1) := by decide +kernel
theorem dJ7_copyOf_9075b_7 : decode cJ7_copyOf_9075b 7 = .ok (.invokevirtual 310, 3) := by decide +kernel
theorem dJ7_copyOf_9075b_10 : decode cJ7_copyOf_9075b 10 = .ok (.checkcast 311, 3) := by decide +kernel
theorem dJ7_copyOf_9075b_13 : decode cJ7_copyOf_9075b 13 = .ok (.areturn, 1) := by decide +kernel
theorem dJ7_copyOf_9075b_14 : decode cJ7_copyOf_9075b 14 = .ok (.iload_n 1, 1) := by decide +kernel
theorem dJ7_copyOf_9075b_15 : decode cJ7_copyOf_9075b 15 = .ok (.newarray .byte, 2) := by decide +kernel
theorem dJ7_copyOf_9075b_17 : decode cJ7_copyOf_9075b 17 = .ok (.astore_n 2, 1) := by decide +kernel
theorem dJ7_copyOf_9075b_18 : decode cJ7_copyOf_9075b 18 = .ok (.aload_n 0, 1) := by decide +kernel
theorem dJ7_copyOf_9075b_19 : decode cJ7_copyOf_9075b 19 = .ok (.iconst 0, 1) := by decide +kernel
theorem dJ7_copyOf_9075b_20 : decode cJ7_copyOf_9075b 20 = .ok (.aload_n 2, 1) := by decide +kernel
theorem dJ7_copyOf_9075b_21 : decode cJ7_copyOf_9075b 21 = .ok (.iconst 0, 1) := by decide +kernel
theorem dJ7_copyOf_9075b_22 : decode cJ7_copyOf_9075b 22 = .ok (.aload_n 0, 1) := by decide +kernel
theorem dJ7_copyOf_9075b_23 : decode cJ7_copyOf_9075b 23 = .ok (.arraylength, 1) := by decide +kernel
theorem dJ7_copyOf_9075b_24 : decode cJ7_copyOf_9075b 24 = .ok (.iload_n 1, 1) := by decide +kernel
theorem dJ7_copyOf_9075b_25 : decode cJ7_copyOf_9075b 25 = .ok (.invokestatic 304, 3) := by decide +kernel
theorem dJ7_copyOf_9075b_28 : decode cJ7_copyOf_9075b 28 = .ok (.invokestatic 150, 3) := by decide +kernel
theorem dJ7_copyOf_9075b_31 : decode cJ7_copyOf_9075b 31 = .ok (.aload_n 2, 1) := by decide +kernel
theorem dJ7_copyOf_9075b_32 : decode cJ7_copyOf_9075b 32 = .ok (.areturn, 1) := by decide +kernel
theorem dJ7_checkLength_df160_0 : decode cJ7_checkLength_df160 0 = .ok (.iload_n 1, 1) := by decide +kernel
theorem dJ7_checkLength_df160_1 : decode cJ7_checkLength_df160 1 = .ok (.iload_n 0, 1) := by decide +kernel
theorem dJ7_checkLength_df160_2 : decode cJ7_checkLength_df160 2 = .ok (.if_icmp .ge 35, 3) := by decide +kernel
theorem dJ7_checkLength_df160_5 : decode cJ7_checkLength_df160 5 = .ok (.new 43, 3) := by decide +kernel
theorem dJ7_checkLength_df160_8 : decode cJ7_checkLength_df160 8 = .ok (.dup, 1) := by decide +kernel
theorem dJ7_checkLength_df160_9 : decode cJ7_checkLength_df160 9 = .ok (.new 45, 3) := by decide +kernel
theorem dJ7_checkLength_df160_12 : decode cJ7_checkLength_df160 12 = .ok (.dup, 1) := by decide +kernel
theorem dJ7_checkLength_df160_13 : decode cJ7_checkLength_df160 13 = .ok (.invokespecial 47, 3) := by decide +kernel
theorem dJ7_checkLength_df160_16 : decode cJ7_checkLength_df160 16 = .ok (.iload_n 0, 1) := by decide +kernel
theorem dJ7_checkLength_df160_17 : decode cJ7_checkLength_df160 17 = .ok (.invokevirtual 54, 3) := by decide +kernel
theorem dJ7_checkLength_df160_20 : decode cJ7_checkLength_df160 20 = .ok (.ldc_w 337, 3) := by decide +kernel
theorem dJ7_checkLength_df160_23 : decode cJ7_checkLength_df160 23 = .ok (.invokevirtual 50, 3) := by decide +kernel
theorem dJ7_checkLength_df160_26 : decode cJ7_checkLength_df160 26 = .ok (.iload_n 1, 1) := by decide +kernel
theorem dJ7_checkLength_df160_27 : decode cJ7_checkLength_df160 27 = .ok (.invokevirtual 54, 3) := by decide +kernel
theorem dJ7_checkLength_df160_30 : decode cJ7_checkLength_df160 30 = .ok (.invokevirtual 61, 3) := by decide +kernel
theorem dJ7_checkLength_df160_33 : decode cJ7_checkLength_df160 33 = .ok (.invokespecial 65, 3) := by decide +kernel
theorem dJ7_checkLength_df160_36 : decode cJ7_checkLength_df160 36 = .ok (.athrow, 1) := by decide +kernel
theorem dJ7_checkLength_df160_37 : decode cJ7_checkLength_df160 37 = .ok (.return_, 1) := by decide +kernel
theorem dJ7_copyOfRange_39247_0 : decode cJ7_copyOfRange_39247 0 = .ok (.iload_n 1, 1) := by decide +kernel
theorem dJ7_copyOfRange_39247_1 : decode cJ7_copyOfRange_39247 1 = .ok (.ifCond .ne 9, 3) := by decide +kernel
theorem dJ7_copyOfRange_39247_4 : decode cJ7_copyOfRange_39247 4 = .ok (.iload_n 2, 1) := by decide +kernel
theorem dJ7_copyOfRange_39247_5 : decode cJ7_copyOfRange_39247 5 = .ok (.aload_n 0, 1) := by decide +kernel
theorem dJ7_copyOfRange_39247_6 : decode cJ7_copyOfRange_39247 6 = .ok (.arraylength, 1) := by decide +kernel
theorem dJ7_copyOfRange_39247_7 : decode cJ7_copyOfRange_39247 7 = .ok (.if_icmp .eq 10, 3) := by decide +kernel
theorem dJ7_copyOfRange_39247_10 : decode cJ7_copyOfRange_39247 10 = .ok (.aload_n 0, 1) := by decide +kernel
theorem dJ7_copyOfRange_39247_11 : decode cJ7_copyOfRange_39247 11 = .ok (.iload_n 1, 1) := by decide +kernel
theorem dJ7_copyOfRange_39247_12 : decode cJ7_copyOfRange_39247 12 = .ok (.iload_n 2, 1) := by decide +kernel
theorem dJ7_copyOfRange_39247_13 : decode cJ7_copyOfRange_39247 13 = .ok (.invokestatic 339, 3) := by decide +kernel
theorem dJ7_copyOfRange_39247_16 : decode cJ7_copyOfRange_39247 16 = .ok (.areturn, 1) := by decide +kernel
theorem dJ7_copyOfRange_39247_17 : decode cJ7_copyOfRange_39247 17 = .ok (.aload_n 0, 1) := by decide +kernel
theorem dJ7_copyOfRange_39247_18 : decode cJ7_copyOfRange_39247 18 = .ok (.invokevirtual 310, 3) := by decide +kernel
theorem dJ7_copyOfRange_39247_21 : decode cJ7_copyOfRange_39247 21 = .ok (.checkcast 311, 3) := by decide +kernel
theorem dJ7_copyOfRange_39247_24 : decode cJ7_copyOfRange_39247 24 = .ok (.areturn, 1) := by decide +kernel
theorem dJ7_copyOfRangeByte_39247_0 : decode cJ7_copyOfRangeByte_39247 0 = .ok (.iload_n 1, 1) := by decide +kernel
theorem dJ7_copyOfRangeByte_39247_1 : decode cJ7_copyOfRangeByte_39247 1 = .ok (.iload_n 2, 1) := by decide +kernel
theorem dJ7_copyOfRangeByte_39247_2 : decode cJ7_copyOfRangeByte_39247 2 = .ok (.invokestatic 343, 3) := by decide +kernel
theorem dJ7_copyOfRangeByte_39247_5 : decode cJ7_copyOfRangeByte_39247 5 = .ok (.iload_n 2, 1) := by decide +kernel
theorem dJ7_copyOfRangeByte_39247_6 : decode cJ7_copyOfRangeByte_39247 6 = .ok (.iload_n 1, 1) := by decide +kernel
theorem dJ7_copyOfRangeByte_39247_7 : decode cJ7_copyOfRangeByte_39247 7 = .ok (.isub, 1) := by decide +kernel
theorem dJ7_copyOfRangeByte_39247_8 : decode cJ7_copyOfRangeByte_39247 8 = .ok (.istore_n 3, 1) := by decide +kernel
theorem dJ7_copyOfRangeByte_39247_9 : decode cJ7_copyOfRangeByte_39247 9 = .ok (.iload_n 3, 1) := by decide +kernel
theorem dJ7_copyOfRangeByte_39247_10 : decode cJ7_copyOfRangeByte_39247 10 = .ok (.newarray .byte, 2) := by decide +kernel
theorem dJ7_copyOfRangeByte_39247_12 : decode cJ7_copyOfRangeByte_39247 12 = .ok (.astore 4, 2) := by decide +kernel
theorem dJ7_copyOfRangeByte_39247_14 : decode cJ7_copyOfRangeByte_39247 14 = .ok (.aload_n 0, 1) := by decide +kernel
theorem dJ7_copyOfRangeByte_39247_15 : decode cJ7_copyOfRangeByte_39247 15 = .ok (.iload_n 1, 1) := by decide +kernel
theorem dJ7_copyOfRangeByte_39247_16 : decode cJ7_copyOfRangeByte_39247 16 = .ok (.aload 4, 2) := by decide +kernel
theorem dJ7_copyOfRangeByte_39247_18 : decode cJ7_copyOfRangeByte_39247 18 = .ok (.iconst 0, 1) := by decide +kernel
theorem dJ7_copyOfRangeByte_39247_19 : decode cJ7_copyOfRangeByte_39247 19 = .ok (.aload_n 0, 1) := by decide +kernel
theorem dJ7_copyOfRangeByte_39247_20 : decode cJ7_copyOfRangeByte_39247 20 = .ok (.arraylength, 1) := by decide +kernel
theorem dJ7_copyOfRangeByte_39247_21 : decode cJ7_copyOfRangeByte_39247 21 = .ok (.iload_n 1, 1) := by decide +kernel
theorem dJ7_copyOfRangeByte_39247_22 : decode cJ7_copyOfRangeByte_39247 22 = .ok (.isub, 1) := by decide +kernel
theorem dJ7_copyOfRangeByte_39247_23 : decode cJ7_copyOfRangeByte_39247 23 = .ok (.iload_n 3, 1) := by decide +kernel
theorem dJ7_copyOfRangeByte_39247_24 : decode cJ7_copyOfRangeByte_39247 24 = .ok (.invokestatic 304, 3) := by decide +kernel
theorem dJ7_copyOfRangeByte_39247_27 : decode cJ7_copyOfRangeByte_39247 27 = .ok (.invokestatic 150, 3) := by decide +kernel
theorem dJ7_copyOfRangeByte_39247_30 : decode cJ7_copyOfRangeByte_39247 30 = .ok (.aload 4, 2) := by decide +kernel
theorem dJ7_copyOfRangeByte_39247_32 : decode cJ7_copyOfRangeByte_39247 32 = .ok (.areturn, 1) := by decide +kernel
theorem dJ15_checkIndex_7cf53_0 : decode cJ15_checkIndex_7cf53 0 = .ok (.iload_n 0, 1) := by decide +kernel
theorem dJ15_checkIndex_7cf53_1 : decode cJ15_checkIndex_7cf53 1 = .ok (.iload_n 1, 1) := by decide +kernel
theorem dJ15_checkIndex_7cf53_2 : decode cJ15_checkIndex_7cf53 2 = .ok (.aconst_null, 1) := by decide +kernel
theorem dJ15_checkIndex_7cf53_3 : decode cJ15_checkIndex_7cf53 3 = .ok (.invokestatic 105, 3) := by decide +kernel
theorem dJ15_checkIndex_7cf53_6 : decode cJ15_checkIndex_7cf53 6 = .ok (.ireturn, 1) := by decide +kernel
theorem dJ8_newLength_cabcc_0 : decode cJ8_newLength_cabcc 0 = .ok (.iload_n 0, 1) := by decide +kernel
theorem dJ8_newLength_cabcc_1 : decode cJ8_newLength_cabcc 1 = .ok (.iload_n 1, 1) := by decide +kernel
theorem dJ8_newLength_cabcc_2 : decode cJ8_newLength_cabcc 2 = .ok (.iload_n 2, 1) := by decide +kernel
theorem dJ8_newLength_cabcc_3 : decode cJ8_newLength_cabcc 3 = .ok (.invokestatic 194, 3) := by decide +kernel
theorem dJ8_newLength_cabcc_6 : decode cJ8_newLength_cabcc 6 = .ok (.iadd, 1) := by decide +kernel
theorem dJ8_newLength_cabcc_7 : decode cJ8_newLength_cabcc 7 = .ok (.istore_n 3, 1) := by decide +kernel
theorem dJ8_newLength_cabcc_8 : decode cJ8_newLength_cabcc 8 = .ok (.iconst 0, 1) := by decide +kernel
theorem dJ8_newLength_cabcc_9 : decode cJ8_newLength_cabcc 9 = .ok (.iload_n 3, 1) := by decide +kernel
theorem dJ8_newLength_cabcc_10 : decode cJ8_newLength_cabcc 10 = .ok (.if_icmp .ge 11, 3) := by decide +kernel
theorem dJ8_newLength_cabcc_13 : decode cJ8_newLength_cabcc 13 = .ok (.iload_n 3, 1) := by decide +kernel
theorem dJ8_newLength_cabcc_14 : decode cJ8_newLength_cabcc 14 = .ok (.ldc 200, 2) := by decide +kernel
theorem dJ8_newLength_cabcc_16 : decode cJ8_newLength_cabcc 16 = .ok (.if_icmp .gt 5, 3) := by decide +kernel
theorem dJ8_newLength_cabcc_19 : decode cJ8_newLength_cabcc 19 = .ok (.iload_n 3, 1) := by decide +kernel
theorem dJ8_newLength_cabcc_20 : decode cJ8_newLength_cabcc 20 = .ok (.ireturn, 1) := by decide +kernel
theorem dJ8_newLength_cabcc_21 : decode cJ8_newLength_cabcc 21 = .ok (.iload_n 0, 1) := by decide +kernel
theorem dJ8_newLength_cabcc_22 : decode cJ8_newLength_cabcc 22 = .ok (.iload_n 1, 1) := by decide +kernel
theorem dJ8_newLength_cabcc_23 : decode cJ8_newLength_cabcc 23 = .ok (.invokestatic 201, 3) := by decide +kernel
theorem dJ8_newLength_cabcc_26 : decode cJ8_newLength_cabcc 26 = .ok (.ireturn, 1) := by decide +kernel
theorem dJ8_hugeLength_7cf53_0 : decode cJ8_hugeLength_7cf53 0 = .ok (.iload_n 0, 1) := by decide +kernel
theorem dJ8_hugeLength_7cf53_1 : decode cJ8_hugeLength_7cf53 1 = .ok (.iload_n 1, 1) := by decide +kernel
theorem dJ8_hugeLength_7cf53_2 : decode cJ8_hugeLength_7cf53 2 = .ok (.iadd, 1) := by decide +kernel
theorem dJ8_hugeLength_7cf53_3 : decode cJ8_hugeLength_7cf53 3 = .ok (.istore_n 2, 1) := by decide +kernel
theorem dJ8_hugeLength_7cf53_4 : decode cJ8_hugeLength_7cf53 4 = .ok (.iload_n 2, 1) := by decide +kernel
theorem dJ8_hugeLength_7cf53_5 : decode cJ8_hugeLength_7cf53 5 = .ok (.ifCond .ge 44, 3) := by decide +kernel
theorem dJ8_hugeLength_7cf53_8 : decode cJ8_hugeLength_7cf53 8 = .ok (.new 204, 3) := by decide +kernel
theorem dJ8_hugeLength_7cf53_11 : decode cJ8_hugeLength_7cf53 11 = .ok (.dup, 1) := by decide +kernel
theorem dJ8_hugeLength_7cf53_12 : decode cJ8_hugeLength_7cf53 12 = .ok (.new 89, 3) := by decide +kernel
theorem dJ8_hugeLength_7cf53_15 : decode cJ8_hugeLength_7cf53 15 = .ok (.dup, 1) := by decide +kernel
theorem dJ8_hugeLength_7cf53_16 : decode cJ8_hugeLength_7cf53 16 = .ok (.invokespecial 91, 3) := by decide +kernel
theorem dJ8_hugeLength_7cf53_19 : decode cJ8_hugeLength_7cf53 19 = .ok (.ldc 206, 2) := by decide +kernel
theorem dJ8_hugeLength_7cf53_21 : decode cJ8_hugeLength_7cf53 21 = .ok (.invokevirtual 94, 3) := by decide +kernel
theorem dJ8_hugeLength_7cf53_24 : decode cJ8_hugeLength_7cf53 24 = .ok (.iload_n 0, 1) := by decide +kernel
theorem dJ8_hugeLength_7cf53_25 : decode cJ8_hugeLength_7cf53 25 = .ok (.invokevirtual 98, 3) := by decide +kernel
theorem dJ8_hugeLength_7cf53_28 : decode cJ8_hugeLength_7cf53 28 = .ok (.ldc 208, 2) := by decide +kernel
theorem dJ8_hugeLength_7cf53_30 : decode cJ8_hugeLength_7cf53 30 = .ok (.invokevirtual 94, 3) := by decide +kernel
theorem dJ8_hugeLength_7cf53_33 : decode cJ8_hugeLength_7cf53 33 = .ok (.iload_n 1, 1) := by decide +kernel
theorem dJ8_hugeLength_7cf53_34 : decode cJ8_hugeLength_7cf53 34 = .ok (.invokevirtual 98, 3) := by decide +kernel
theorem dJ8_hugeLength_7cf53_37 : decode cJ8_hugeLength_7cf53 37 = .ok (.ldc 210, 2) := by decide +kernel
theorem dJ8_hugeLength_7cf53_39 : decode cJ8_hugeLength_7cf53 39 = .ok (.invokevirtual 94, 3) := by decide +kernel
theorem dJ8_hugeLength_7cf53_42 : decode cJ8_hugeLength_7cf53 42 = .ok (.invokevirtual 101, 3) := by decide +kernel
theorem dJ8_hugeLength_7cf53_45 : decode cJ8_hugeLength_7cf53 45 = .ok (.invokespecial 212, 3) := by decide +kernel
theorem dJ8_hugeLength_7cf53_48 : decode cJ8_hugeLength_7cf53 48 = .ok (.athrow, 1) := by decide +kernel
theorem dJ8_hugeLength_7cf53_49 : decode cJ8_hugeLength_7cf53 49 = .ok (.iload_n 2, 1) := by decide +kernel
theorem dJ8_hugeLength_7cf53_50 : decode cJ8_hugeLength_7cf53 50 = .ok (.ldc 200, 2) := by decide +kernel
theorem dJ8_hugeLength_7cf53_52 : decode cJ8_hugeLength_7cf53 52 = .ok (.if_icmp .gt 6, 3) := by decide +kernel
theorem dJ8_hugeLength_7cf53_55 : decode cJ8_hugeLength_7cf53 55 = .ok (.ldc 200, 2) := by decide +kernel
theorem dJ8_hugeLength_7cf53_57 : decode cJ8_hugeLength_7cf53 57 = .ok (.ireturn, 1) := by decide +kernel
theorem dJ8_hugeLength_7cf53_58 : decode cJ8_hugeLength_7cf53 58 = .ok (.iload_n 2, 1) := by decide +kernel
theorem dJ8_hugeLength_7cf53_59 : decode cJ8_hugeLength_7cf53 59 = .ok (.ireturn, 1) := by decide +kernel
theorem dJ3_checkIndex_8e157_0 : decode cJ3_checkIndex_8e157 0 = .ok (.iload_n 0, 1) := by decide +kernel
theorem dJ3_checkIndex_8e157_1 : decode cJ3_checkIndex_8e157 1 = .ok (.ifCond .lt 8, 3) := by decide +kernel
theorem dJ3_checkIndex_8e157_4 : decode cJ3_checkIndex_8e157 4 = .ok (.iload_n 0, 1) := by decide +kernel
theorem dJ3_checkIndex_8e157_5 : decode cJ3_checkIndex_8e157 5 = .ok (.iload_n 1, 1) := by decide +kernel
theorem dJ3_checkIndex_8e157_6 : decode cJ3_checkIndex_8e157 6 = .ok (.if_icmp .lt 10, 3) := by decide +kernel
theorem dJ3_checkIndex_8e157_9 : decode cJ3_checkIndex_8e157 9 = .ok (.aload_n 2, 1) := by decide +kernel
theorem dJ3_checkIndex_8e157_10 : decode cJ3_checkIndex_8e157 10 = .ok (.iload_n 0, 1) := by decide +kernel
theorem dJ3_checkIndex_8e157_11 : decode cJ3_checkIndex_8e157 11 = .ok (.iload_n 1, 1) := by decide +kernel
theorem dJ3_checkIndex_8e157_12 : decode cJ3_checkIndex_8e157 12 = .ok (.invokestatic 95, 3) := by decide +kernel
theorem dJ3_checkIndex_8e157_15 : decode cJ3_checkIndex_8e157 15 = .ok (.athrow, 1) := by decide +kernel
theorem dJ3_checkIndex_8e157_16 : decode cJ3_checkIndex_8e157 16 = .ok (.iload_n 0, 1) := by decide +kernel
theorem dJ3_checkIndex_8e157_17 : decode cJ3_checkIndex_8e157 17 = .ok (.ireturn, 1) := by decide +kernel
theorem dJ3_checkFromToIndex_8c36e_0 : decode cJ3_checkFromToIndex_8c36e 0 = .ok (.iload_n 0, 1) := by decide +kernel
theorem dJ3_checkFromToIndex_8c36e_1 : decode cJ3_checkFromToIndex_8c36e 1 = .ok (.ifCond .lt 13, 3) := by decide +kernel
theorem dJ3_checkFromToIndex_8c36e_4 : decode cJ3_checkFromToIndex_8c36e 4 = .ok (.iload_n 0, 1) := by decide +kernel
theorem dJ3_checkFromToIndex_8c36e_5 : decode cJ3_checkFromToIndex_8c36e 5 = .ok (.iload_n 1, 1) := by decide +kernel
theorem dJ3_checkFromToIndex_8c36e_6 : decode cJ3_checkFromToIndex_8c36e 6 = .ok (.if_icmp .gt 8, 3) := by decide +kernel
theorem dJ3_checkFromToIndex_8c36e_9 : decode cJ3_checkFromToIndex_8c36e 9 = .ok (.iload_n 1, 1) := by decide +kernel
theorem dJ3_checkFromToIndex_8c36e_10 : decode cJ3_checkFromToIndex_8c36e 10 = .ok (.iload_n 2, 1) := by decide +kernel
theorem dJ3_checkFromToIndex_8c36e_11 : decode cJ3_checkFromToIndex_8c36e 11 = .ok (.if_icmp .le 11, 3) := by decide +kernel
theorem dJ3_checkFromToIndex_8c36e_14 : decode cJ3_checkFromToIndex_8c36e 14 = .ok (.aload_n 3, 1) := by decide +kernel
theorem dJ3_checkFromToIndex_8c36e_15 : decode cJ3_checkFromToIndex_8c36e 15 = .ok (.iload_n 0, 1) := by decide +kernel
theorem dJ3_checkFromToIndex_8c36e_16 : decode cJ3_checkFromToIndex_8c36e 16 = .ok (.iload_n 1, 1) := by decide +kernel
theorem dJ3_checkFromToIndex_8c36e_17 : decode cJ3_checkFromToIndex_8c36e 17 = .ok (.iload_n 2, 1) := by decide +kernel
theorem dJ3_checkFromToIndex_8c36e_18 : decode cJ3_checkFromToIndex_8c36e 18 = .ok (.invokestatic 99, 3) := by decide +kernel
theorem dJ3_checkFromToIndex_8c36e_21 : decode cJ3_checkFromToIndex_8c36e 21 = .ok (.athrow, 1) := by decide +kernel
theorem dJ3_checkFromToIndex_8c36e_22 : decode cJ3_checkFromToIndex_8c36e 22 = .ok (.iload_n 0, 1) := by decide +kernel
theorem dJ3_checkFromToIndex_8c36e_23 : decode cJ3_checkFromToIndex_8c36e 23 = .ok (.ireturn, 1) := by decide +kernel
theorem dJ3_checkFromIndexSize_8c36e_0 : decode cJ3_checkFromIndexSize_8c36e 0 = .ok (.iload_n 2, 1) := by decide +kernel
theorem dJ3_checkFromIndexSize_8c36e_1 : decode cJ3_checkFromIndexSize_8c36e 1 = .ok (.iload_n 0, 1) := by decide +kernel
theorem dJ3_checkFromIndexSize_8c36e_2 : decode cJ3_checkFromIndexSize_8c36e 2 = .ok (.ior, 1) := by decide +kernel
theorem dJ3_checkFromIndexSize_8c36e_3 : decode cJ3_checkFromIndexSize_8c36e 3 = .ok (.iload_n 1, 1) := by decide +kernel
theorem dJ3_checkFromIndexSize_8c36e_4 : decode cJ3_checkFromIndexSize_8c36e 4 = .ok (.ior, 1) := by decide +kernel
theorem dJ3_checkFromIndexSize_8c36e_5 : decode cJ3_checkFromIndexSize_8c36e 5 = .ok (.ifCond .lt 10, 3) := by decide +kernel
theorem dJ3_checkFromIndexSize_8c36e_8 : decode cJ3_checkFromIndexSize_8c36e 8 = .ok (.iload_n 1, 1) := by decide +kernel
theorem dJ3_checkFromIndexSize_8c36e_9 : decode cJ3_checkFromIndexSize_8c36e 9 = .ok (.iload_n 2, 1) := by decide +kernel
theorem dJ3_checkFromIndexSize_8c36e_10 : decode cJ3_checkFromIndexSize_8c36e 10 = .ok (.iload_n 0, 1) := by decide +kernel
theorem dJ3_checkFromIndexSize_8c36e_11 : decode cJ3_checkFromIndexSize_8c36e 11 = .ok (.isub, 1) := by decide +kernel
theorem dJ3_checkFromIndexSize_8c36e_12 : decode cJ3_checkFromIndexSize_8c36e 12 = .ok (.if_icmp .le 11, 3) := by decide +kernel
theorem dJ3_checkFromIndexSize_8c36e_15 : decode cJ3_checkFromIndexSize_8c36e 15 = .ok (.aload_n 3, 1) := by decide +kernel
theorem dJ3_checkFromIndexSize_8c36e_16 : decode cJ3_checkFromIndexSize_8c36e 16 = .ok (.iload_n 0, 1) := by decide +kernel
theorem dJ3_checkFromIndexSize_8c36e_17 : decode cJ3_checkFromIndexSize_8c36e 17 = .ok (.iload_n 1, 1) := by decide +kernel
theorem dJ3_checkFromIndexSize_8c36e_18 : decode cJ3_checkFromIndexSize_8c36e 18 = .ok (.iload_n 2, 1) := by decide +kernel
theorem dJ3_checkFromIndexSize_8c36e_19 : decode cJ3_checkFromIndexSize_8c36e 19 = .ok (.invokestatic 103, 3) := by decide +kernel
theorem dJ3_checkFromIndexSize_8c36e_22 : decode cJ3_checkFromIndexSize_8c36e 22 = .ok (.athrow, 1) := by decide +kernel
theorem dJ3_checkFromIndexSize_8c36e_23 : decode cJ3_checkFromIndexSize_8c36e 23 = .ok (.iload_n 0, 1) := by decide +kernel
theorem dJ3_checkFromIndexSize_8c36e_24 : decode cJ3_checkFromIndexSize_8c36e 24 = .ok (.ireturn, 1) := by decide +kernel
