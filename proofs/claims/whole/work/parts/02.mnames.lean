def RX12 : String := "LorewickModel"
def TX12 : u_T := fun k => match k with
  | 0 => ("LorewickModel", "thrown", "I", false)
  | 1 => ("LorewickModel", "typed", "[I", true)
  | 2 => ("LorewickModel", "signs", "I", false)
  | 3 => ("LorewickModel", "word", "[I", true)
  | 4 => ("LorewickModel", "words", "I", false)
  | 5 => ("LorewickModel", "isDark", "[Z", true)
  | 6 => ("LorewickModel", "roomShows", "[J", true)
  | 7 => ("LorewickModel", "exits", "[I", true)
  | 8 => ("LorewickModel", "locks", "[I", true)
  | 9 => ("LorewickModel", "rooms", "I", false)
  | 10 => ("LorewickModel", "noun", "[I", true)
  | 11 => ("LorewickModel", "lies", "[I", true)
  | 12 => ("LorewickModel", "weighs", "[I", true)
  | 13 => ("LorewickModel", "kind", "[C", true)
  | 14 => ("LorewickModel", "fuelAtFirst", "[I", true)
  | 15 => ("LorewickModel", "thingShows", "[J", true)
  | 16 => ("LorewickModel", "things", "I", false)
  | 17 => ("LorewickModel", "goalThing", "[I", true)
  | 18 => ("LorewickModel", "goalRoom", "[I", true)
  | 19 => ("LorewickModel", "goals", "I", false)
  | 20 => ("LorewickModel", "hasBegun", "Z", false)
  | 21 => ("LorewickModel", "room", "[I", true)
  | 22 => ("LorewickModel", "place", "[I", true)
  | 23 => ("LorewickModel", "isOn", "[Z", true)
  | 24 => ("LorewickModel", "fuel", "[I", true)
  | 25 => ("LorewickModel", "parent", "[I", true)
  | 26 => ("LorewickModel", "came", "[I", true)
  | 27 => ("LorewickModel", "cameLong", "[I", true)
  | 28 => ("LorewickModel", "cameKind", "[I", true)
  | 29 => ("LorewickModel", "cameNumber", "[I", true)
  | 30 => ("LorewickModel", "shown", "[J", true)
  | 31 => ("LorewickModel", "name", "[I", true)
  | 32 => ("LorewickModel", "sold", "[I", true)
  | 33 => ("LorewickModel", "nodes", "I", false)
  | 34 => ("LorewickModel", "now", "I", false)
  | 35 => ("LorewickModel", "here", "I", false)
  | 36 => ("LorewickModel", "spot", "[I", true)
  | 37 => ("LorewickModel", "on", "[Z", true)
  | 38 => ("LorewickModel", "burn", "[I", true)
  | 39 => ("LorewickModel", "looked", "J", false)
  | 40 => ("LorewickModel", "from", "[I", true)
  | 41 => ("LorewickModel", "to", "[I", true)
  | 42 => ("LorewickModel", "parts", "I", false)
  | 43 => ("LorewickModel", "base", "[I", true)
  | 44 => ("LorewickModel", "teaches", "[J", true)
  | 45 => ("LorewickModel", "hints", "I", false)
  | 46 => ("LorewickModel", "coins", "I", false)
  | 47 => ("LorewickModel", "saleNode", "[I", true)
  | 48 => ("LorewickModel", "saleCoins", "[I", true)
  | 49 => ("LorewickModel", "sales", "I", false)
  | 50 => ("LorewickModel", "far", "[I", true)
  | 51 => ("LorewickModel", "line", "[I", true)
  | _ => ("LorewickModel", "lineLong", "I", false)
def tyX12 : Nat → FieldType := fun k => match k with
  | 0 => .int
  | 1 => .array .int
  | 2 => .int
  | 3 => .array .int
  | 4 => .int
  | 5 => .array .boolean
  | 6 => .array .long
  | 7 => .array .int
  | 8 => .array .int
  | 9 => .int
  | 10 => .array .int
  | 11 => .array .int
  | 12 => .array .int
  | 13 => .array .char
  | 14 => .array .int
  | 15 => .array .long
  | 16 => .int
  | 17 => .array .int
  | 18 => .array .int
  | 19 => .int
  | 20 => .boolean
  | 21 => .array .int
  | 22 => .array .int
  | 23 => .array .boolean
  | 24 => .array .int
  | 25 => .array .int
  | 26 => .array .int
  | 27 => .array .int
  | 28 => .array .int
  | 29 => .array .int
  | 30 => .array .long
  | 31 => .array .int
  | 32 => .array .int
  | 33 => .int
  | 34 => .int
  | 35 => .int
  | 36 => .array .int
  | 37 => .array .boolean
  | 38 => .array .int
  | 39 => .long
  | 40 => .array .int
  | 41 => .array .int
  | 42 => .int
  | 43 => .array .int
  | 44 => .array .long
  | 45 => .int
  | 46 => .int
  | 47 => .array .int
  | 48 => .array .int
  | 49 => .int
  | 50 => .array .int
  | 51 => .array .int
  | _ => .int
abbrev wsX120 : List Cond := u_ws RX12 TX12 53
theorem nmX12 : ∀ a, a < 53 → ∀ b, b < 53 → a ≠ b → (TX12 a).2.1 ≠ (TX12 b).2.1 := by decide +kernel
theorem tyX12_ok : ∀ k, k < 53 → parseFieldDescriptor (TX12 k).2.2.1 = some (tyX12 k) := by decide +kernel
abbrev cX12_init : ByteArray := prog_14_method_1_code
def yX12_init : MethodName := ⟨RX12, "<init>", "()V"⟩
abbrev cX12_thrown : ByteArray := prog_14_method_2_code
def yX12_thrown : MethodName := ⟨RX12, "thrown", "()I"⟩
abbrev cX12_isWrong : ByteArray := prog_14_method_3_code
def yX12_isWrong : MethodName := ⟨RX12, "isWrong", "(I)Z"⟩
abbrev cX12_isBetween : ByteArray := prog_14_method_4_code
def yX12_isBetween : MethodName := ⟨RX12, "isBetween", "(III)Z"⟩
abbrev cX12_has : ByteArray := prog_14_method_5_code
def yX12_has : MethodName := ⟨RX12, "has", "(JI)Z"⟩
abbrev cX12_bits : ByteArray := prog_14_method_6_code
def yX12_bits : MethodName := ⟨RX12, "bits", "(J)I"⟩
abbrev cX12_type : ByteArray := prog_14_method_7_code
def yX12_type : MethodName := ⟨RX12, "type", "(C)I"⟩
abbrev cX12_clear : ByteArray := prog_14_method_8_code
def yX12_clear : MethodName := ⟨RX12, "clear", "()I"⟩
abbrev cX12_isRowOfLetters : ByteArray := prog_14_method_9_code
def yX12_isRowOfLetters : MethodName := ⟨RX12, "isRowOfLetters", "(II)Z"⟩
abbrev cX12_isWord : ByteArray := prog_14_method_10_code
def yX12_isWord : MethodName := ⟨RX12, "isWord", "(I)Z"⟩
abbrev cX12_wordAt : ByteArray := prog_14_method_11_code
def yX12_wordAt : MethodName := ⟨RX12, "wordAt", "(II)I"⟩
abbrev cX12_word : ByteArray := prog_14_method_12_code
def yX12_word : MethodName := ⟨RX12, "word", "()I"⟩
abbrev cX12_lengthOf : ByteArray := prog_14_method_13_code
def yX12_lengthOf : MethodName := ⟨RX12, "lengthOf", "(I)I"⟩
abbrev cX12_isRoom : ByteArray := prog_14_method_14_code
def yX12_isRoom : MethodName := ⟨RX12, "isRoom", "(I)Z"⟩
abbrev cX12_isThing : ByteArray := prog_14_method_15_code
def yX12_isThing : MethodName := ⟨RX12, "isThing", "(I)Z"⟩
abbrev cX12_directionOf : ByteArray := prog_14_method_16_code
def yX12_directionOf : MethodName := ⟨RX12, "directionOf", "(I)I"⟩
abbrev cX12_room : ByteArray := prog_14_method_17_code
def yX12_room : MethodName := ⟨RX12, "room", "(Z)I"⟩
abbrev cX12_show : ByteArray := prog_14_method_18_code
def yX12_show : MethodName := ⟨RX12, "show", "(II)I"⟩
abbrev cX12_exit : ByteArray := prog_14_method_19_code
def yX12_exit : MethodName := ⟨RX12, "exit", "(ICI)I"⟩
abbrev cX12_lock : ByteArray := prog_14_method_20_code
def yX12_lock : MethodName := ⟨RX12, "lock", "(ICI)I"⟩
abbrev cX12_thingOf : ByteArray := prog_14_method_21_code
def yX12_thingOf : MethodName := ⟨RX12, "thingOf", "(I)I"⟩
abbrev cX12_thing : ByteArray := prog_14_method_22_code
def yX12_thing : MethodName := ⟨RX12, "thing", "(IIIC)I"⟩
abbrev cX12_fuel : ByteArray := prog_14_method_23_code
def yX12_fuel : MethodName := ⟨RX12, "fuel", "(II)I"⟩
abbrev cX12_tell : ByteArray := prog_14_method_24_code
def yX12_tell : MethodName := ⟨RX12, "tell", "(II)I"⟩
abbrev cX12_goal : ByteArray := prog_14_method_25_code
def yX12_goal : MethodName := ⟨RX12, "goal", "(II)I"⟩
abbrev cX12_takesUp : ByteArray := prog_14_method_26_code
def yX12_takesUp : MethodName := ⟨RX12, "takesUp", "(I)V"⟩
abbrev cX12_isHeld : ByteArray := prog_14_method_27_code
def yX12_isHeld : MethodName := ⟨RX12, "isHeld", "(I)Z"⟩
abbrev cX12_isAtHand : ByteArray := prog_14_method_28_code
def yX12_isAtHand : MethodName := ⟨RX12, "isAtHand", "(I)Z"⟩
abbrev cX12_isBrightHere : ByteArray := prog_14_method_29_code
def yX12_isBrightHere : MethodName := ⟨RX12, "isBrightHere", "()Z"⟩
abbrev cX12_canReach : ByteArray := prog_14_method_30_code
def yX12_canReach : MethodName := ⟨RX12, "canReach", "(I)Z"⟩
abbrev cX12_inBox : ByteArray := prog_14_method_31_code
def yX12_inBox : MethodName := ⟨RX12, "inBox", "(I)I"⟩
abbrev cX12_weightWith : ByteArray := prog_14_method_32_code
def yX12_weightWith : MethodName := ⟨RX12, "weightWith", "(I)I"⟩
abbrev cX12_showsNow : ByteArray := prog_14_method_33_code
def yX12_showsNow : MethodName := ⟨RX12, "showsNow", "()J"⟩
abbrev cX12_burns : ByteArray := prog_14_method_34_code
def yX12_burns : MethodName := ⟨RX12, "burns", "()V"⟩
abbrev cX12_isLike : ByteArray := prog_14_method_35_code
def yX12_isLike : MethodName := ⟨RX12, "isLike", "(III)Z"⟩
abbrev cX12_childBy : ByteArray := prog_14_method_36_code
def yX12_childBy : MethodName := ⟨RX12, "childBy", "(II)I"⟩
abbrev cX12_comes : ByteArray := prog_14_method_37_code
def yX12_comes : MethodName := ⟨RX12, "comes", "(II)V"⟩
abbrev cX12_begin : ByteArray := prog_14_method_38_code
def yX12_begin : MethodName := ⟨RX12, "begin", "(I)I"⟩
abbrev cX12_knownAt : ByteArray := prog_14_method_39_code
def yX12_knownAt : MethodName := ⟨RX12, "knownAt", "(I)J"⟩
abbrev cX12_knownMany : ByteArray := prog_14_method_40_code
def yX12_knownMany : MethodName := ⟨RX12, "knownMany", "()I"⟩
abbrev cX12_parts : ByteArray := prog_14_method_41_code
def yX12_parts : MethodName := ⟨RX12, "parts", "()V"⟩
abbrev cX12_isPart : ByteArray := prog_14_method_42_code
def yX12_isPart : MethodName := ⟨RX12, "isPart", "(IJ)Z"⟩
abbrev cX12_row : ByteArray := prog_14_method_43_code
def yX12_row : MethodName := ⟨RX12, "row", "(IIIII)J"⟩
abbrev cX12_verb : ByteArray := prog_14_method_44_code
def yX12_verb : MethodName := ⟨RX12, "verb", "()I"⟩
abbrev cX12_thingAt : ByteArray := prog_14_method_45_code
def yX12_thingAt : MethodName := ⟨RX12, "thingAt", "(I)I"⟩
abbrev cX12_isFree : ByteArray := prog_14_method_46_code
def yX12_isFree : MethodName := ⟨RX12, "isFree", "(II)Z"⟩
abbrev cX12_canDo : ByteArray := prog_14_method_47_code
def yX12_canDo : MethodName := ⟨RX12, "canDo", "(III)Z"⟩
abbrev cX12_say : ByteArray := prog_14_method_48_code
def yX12_say : MethodName := ⟨RX12, "say", "()C"⟩
abbrev cX12_isNotBegun : ByteArray := prog_14_method_49_code
def yX12_isNotBegun : MethodName := ⟨RX12, "isNotBegun", "()Z"⟩
abbrev cX12_isNoThing : ByteArray := prog_14_method_50_code
def yX12_isNoThing : MethodName := ⟨RX12, "isNoThing", "(IZ)Z"⟩
abbrev cX12_at : ByteArray := prog_14_method_51_code
def yX12_at : MethodName := ⟨RX12, "at", "()I"⟩
abbrev cX12_place : ByteArray := prog_14_method_52_code
def yX12_place : MethodName := ⟨RX12, "place", "(I)I"⟩
abbrev cX12_isOpen : ByteArray := prog_14_method_53_code
def yX12_isOpen : MethodName := ⟨RX12, "isOpen", "(I)Z"⟩
abbrev cX12_lit : ByteArray := prog_14_method_54_code
def yX12_lit : MethodName := ⟨RX12, "lit", "(I)I"⟩
abbrev cX12_isBright : ByteArray := prog_14_method_55_code
def yX12_isBright : MethodName := ⟨RX12, "isBright", "()Z"⟩
abbrev cX12_weight : ByteArray := prog_14_method_56_code
def yX12_weight : MethodName := ⟨RX12, "weight", "()I"⟩
abbrev cX12_node : ByteArray := prog_14_method_57_code
def yX12_node : MethodName := ⟨RX12, "node", "()I"⟩
abbrev cX12_nodes : ByteArray := prog_14_method_58_code
def yX12_nodes : MethodName := ⟨RX12, "nodes", "()I"⟩
abbrev cX12_isNode : ByteArray := prog_14_method_59_code
def yX12_isNode : MethodName := ⟨RX12, "isNode", "(I)Z"⟩
abbrev cX12_depthOf : ByteArray := prog_14_method_60_code
def yX12_depthOf : MethodName := ⟨RX12, "depthOf", "(I)I"⟩
abbrev cX12_parent : ByteArray := prog_14_method_61_code
def yX12_parent : MethodName := ⟨RX12, "parent", "(I)I"⟩
abbrev cX12_depth : ByteArray := prog_14_method_62_code
def yX12_depth : MethodName := ⟨RX12, "depth", "(I)I"⟩
abbrev cX12_child : ByteArray := prog_14_method_63_code
def yX12_child : MethodName := ⟨RX12, "child", "(II)I"⟩
abbrev cX12_children : ByteArray := prog_14_method_64_code
def yX12_children : MethodName := ⟨RX12, "children", "(I)I"⟩
abbrev cX12_common : ByteArray := prog_14_method_65_code
def yX12_common : MethodName := ⟨RX12, "common", "(II)I"⟩
abbrev cX12_undo : ByteArray := prog_14_method_66_code
def yX12_undo : MethodName := ⟨RX12, "undo", "()I"⟩
abbrev cX12_redo : ByteArray := prog_14_method_67_code
def yX12_redo : MethodName := ⟨RX12, "redo", "(I)I"⟩
abbrev cX12_named : ByteArray := prog_14_method_68_code
def yX12_named : MethodName := ⟨RX12, "named", "()I"⟩
abbrev cX12_name : ByteArray := prog_14_method_69_code
def yX12_name : MethodName := ⟨RX12, "name", "()I"⟩
abbrev cX12_jump : ByteArray := prog_14_method_70_code
def yX12_jump : MethodName := ⟨RX12, "jump", "()I"⟩
abbrev cX12_isNoWord : ByteArray := prog_14_method_71_code
def yX12_isNoWord : MethodName := ⟨RX12, "isNoWord", "(I)Z"⟩
abbrev cX12_postingsOf : ByteArray := prog_14_method_72_code
def yX12_postingsOf : MethodName := ⟨RX12, "postingsOf", "(I)I"⟩
abbrev cX12_isKnown : ByteArray := prog_14_method_73_code
def yX12_isKnown : MethodName := ⟨RX12, "isKnown", "(I)Z"⟩
abbrev cX12_known : ByteArray := prog_14_method_74_code
def yX12_known : MethodName := ⟨RX12, "known", "()I"⟩
abbrev cX12_learnt : ByteArray := prog_14_method_75_code
def yX12_learnt : MethodName := ⟨RX12, "learnt", "(I)I"⟩
abbrev cX12_postings : ByteArray := prog_14_method_76_code
def yX12_postings : MethodName := ⟨RX12, "postings", "(I)I"⟩
abbrev cX12_posting : ByteArray := prog_14_method_77_code
def yX12_posting : MethodName := ⟨RX12, "posting", "(II)I"⟩
abbrev cX12_rare : ByteArray := prog_14_method_78_code
def yX12_rare : MethodName := ⟨RX12, "rare", "(I)I"⟩
abbrev cX12_isHint : ByteArray := prog_14_method_79_code
def yX12_isHint : MethodName := ⟨RX12, "isHint", "(I)Z"⟩
abbrev cX12_hint : ByteArray := prog_14_method_80_code
def yX12_hint : MethodName := ⟨RX12, "hint", "(I)I"⟩
abbrev cX12_wasSold : ByteArray := prog_14_method_81_code
def yX12_wasSold : MethodName := ⟨RX12, "wasSold", "(I)Z"⟩
abbrev cX12_teach : ByteArray := prog_14_method_82_code
def yX12_teach : MethodName := ⟨RX12, "teach", "(II)I"⟩
abbrev cX12_isOnPath : ByteArray := prog_14_method_83_code
def yX12_isOnPath : MethodName := ⟨RX12, "isOnPath", "(II)Z"⟩
abbrev cX12_isOwnedNow : ByteArray := prog_14_method_84_code
def yX12_isOwnedNow : MethodName := ⟨RX12, "isOwnedNow", "(I)Z"⟩
abbrev cX12_priceNow : ByteArray := prog_14_method_85_code
def yX12_priceNow : MethodName := ⟨RX12, "priceNow", "(I)I"⟩
abbrev cX12_price : ByteArray := prog_14_method_86_code
def yX12_price : MethodName := ⟨RX12, "price", "(I)I"⟩
abbrev cX12_buy : ByteArray := prog_14_method_87_code
def yX12_buy : MethodName := ⟨RX12, "buy", "(I)I"⟩
abbrev cX12_isOwned : ByteArray := prog_14_method_88_code
def yX12_isOwned : MethodName := ⟨RX12, "isOwned", "(I)Z"⟩
abbrev cX12_read : ByteArray := prog_14_method_89_code
def yX12_read : MethodName := ⟨RX12, "read", "(I)I"⟩
abbrev cX12_coins : ByteArray := prog_14_method_90_code
def yX12_coins : MethodName := ⟨RX12, "coins", "()I"⟩
abbrev cX12_earn : ByteArray := prog_14_method_91_code
def yX12_earn : MethodName := ⟨RX12, "earn", "(I)I"⟩
abbrev cX12_sales : ByteArray := prog_14_method_92_code
def yX12_sales : MethodName := ⟨RX12, "sales", "()I"⟩
abbrev cX12_sale : ByteArray := prog_14_method_93_code
def yX12_sale : MethodName := ⟨RX12, "sale", "(IC)I"⟩
abbrev cX12_merge : ByteArray := prog_14_method_94_code
def yX12_merge : MethodName := ⟨RX12, "merge", "(I)I"⟩
abbrev cX12_score : ByteArray := prog_14_method_95_code
def yX12_score : MethodName := ⟨RX12, "score", "()I"⟩
abbrev cX12_steps : ByteArray := prog_14_method_96_code
def yX12_steps : MethodName := ⟨RX12, "steps", "(I)I"⟩
abbrev cX12_adds : ByteArray := prog_14_method_97_code
def yX12_adds : MethodName := ⟨RX12, "adds", "(I)V"⟩
abbrev cX12_addsAll : ByteArray := prog_14_method_98_code
def yX12_addsAll : MethodName := ⟨RX12, "addsAll", "(IIIII)V"⟩
abbrev cX12_lines : ByteArray := prog_14_method_99_code
def yX12_lines : MethodName := ⟨RX12, "lines", "()V"⟩
abbrev cX12_line : ByteArray := prog_14_method_100_code
def yX12_line : MethodName := ⟨RX12, "line", "()I"⟩
abbrev cX12_signOf : ByteArray := prog_14_method_101_code
def yX12_signOf : MethodName := ⟨RX12, "signOf", "(I)C"⟩
abbrev cX12_checksum : ByteArray := prog_14_method_102_code
def yX12_checksum : MethodName := ⟨RX12, "checksum", "()J"⟩
abbrev cX12_knownShare : ByteArray := prog_14_method_103_code
def yX12_knownShare : MethodName := ⟨RX12, "knownShare", "()F"⟩
abbrev cX12_meanPrice : ByteArray := prog_14_method_104_code
def yX12_meanPrice : MethodName := ⟨RX12, "meanPrice", "()D"⟩
abbrev cX12_isSound : ByteArray := prog_14_method_105_code
def yX12_isSound : MethodName := ⟨RX12, "isSound", "()Z"⟩
theorem dX12_init_0 : decode cX12_init 0 = .ok (.aload_n 0, 1) := by decide +kernel
theorem dX12_init_1 : decode cX12_init 1 = .ok (.invokespecial 1, 3) := by decide +kernel
theorem dX12_init_4 : decode cX12_init 4 = .ok (.aload_n 0, 1) := by decide +kernel
theorem dX12_init_5 : decode cX12_init 5 = .ok (.bipush 30, 2) := by decide +kernel
theorem dX12_init_7 : decode cX12_init 7 = .ok (.newarray .int, 2) := by decide +kernel
theorem dX12_init_9 : decode cX12_init 9 = .ok (.putfield 7, 3) := by decide +kernel
theorem dX12_init_12 : decode cX12_init 12 = .ok (.aload_n 0, 1) := by decide +kernel
theorem dX12_init_13 : decode cX12_init 13 = .ok (.sipush 320, 3) := by decide +kernel
theorem dX12_init_16 : decode cX12_init 16 = .ok (.newarray .int, 2) := by decide +kernel
theorem dX12_init_18 : decode cX12_init 18 = .ok (.putfield 13, 3) := by decide +kernel
theorem dX12_init_21 : decode cX12_init 21 = .ok (.aload_n 0, 1) := by decide +kernel
theorem dX12_init_22 : decode cX12_init 22 = .ok (.bipush 12, 2) := by decide +kernel
theorem dX12_init_24 : decode cX12_init 24 = .ok (.newarray .boolean, 2) := by decide +kernel
theorem dX12_init_26 : decode cX12_init 26 = .ok (.putfield 16, 3) := by decide +kernel
theorem dX12_init_29 : decode cX12_init 29 = .ok (.aload_n 0, 1) := by decide +kernel
theorem dX12_init_30 : decode cX12_init 30 = .ok (.bipush 12, 2) := by decide +kernel
theorem dX12_init_32 : decode cX12_init 32 = .ok (.newarray .long, 2) := by decide +kernel
theorem dX12_init_34 : decode cX12_init 34 = .ok (.putfield 20, 3) := by decide +kernel
theorem dX12_init_37 : decode cX12_init 37 = .ok (.aload_n 0, 1) := by decide +kernel
theorem dX12_init_38 : decode cX12_init 38 = .ok (.bipush 72, 2) := by decide +kernel
theorem dX12_init_40 : decode cX12_init 40 = .ok (.newarray .int, 2) := by decide +kernel
theorem dX12_init_42 : decode cX12_init 42 = .ok (.putfield 24, 3) := by decide +kernel
theorem dX12_init_45 : decode cX12_init 45 = .ok (.aload_n 0, 1) := by decide +kernel
theorem dX12_init_46 : decode cX12_init 46 = .ok (.bipush 72, 2) := by decide +kernel
theorem dX12_init_48 : decode cX12_init 48 = .ok (.newarray .int, 2) := by decide +kernel
theorem dX12_init_50 : decode cX12_init 50 = .ok (.putfield 27, 3) := by decide +kernel
theorem dX12_init_53 : decode cX12_init 53 = .ok (.aload_n 0, 1) := by decide +kernel
theorem dX12_init_54 : decode cX12_init 54 = .ok (.bipush 12, 2) := by decide +kernel
theorem dX12_init_56 : decode cX12_init 56 = .ok (.newarray .int, 2) := by decide +kernel
theorem dX12_init_58 : decode cX12_init 58 = .ok (.putfield 30, 3) := by decide +kernel
theorem dX12_init_61 : decode cX12_init 61 = .ok (.aload_n 0, 1) := by decide +kernel
theorem dX12_init_62 : decode cX12_init 62 = .ok (.bipush 12, 2) := by decide +kernel
theorem dX12_init_64 : decode cX12_init 64 = .ok (.newarray .int, 2) := by decide +kernel
theorem dX12_init_66 : decode cX12_init 66 = .ok (.putfield 33, 3) := by decide +kernel
theorem dX12_init_69 : decode cX12_init 69 = .ok (.aload_n 0, 1) := by decide +kernel
theorem dX12_init_70 : decode cX12_init 70 = .ok (.bipush 12, 2) := by decide +kernel
theorem dX12_init_72 : decode cX12_init 72 = .ok (.newarray .int, 2) := by decide +kernel
theorem dX12_init_74 : decode cX12_init 74 = .ok (.putfield 36, 3) := by decide +kernel
theorem dX12_init_77 : decode cX12_init 77 = .ok (.aload_n 0, 1) := by decide +kernel
theorem dX12_init_78 : decode cX12_init 78 = .ok (.bipush 12, 2) := by decide +kernel
theorem dX12_init_80 : decode cX12_init 80 = .ok (.newarray .char, 2) := by decide +kernel
theorem dX12_init_82 : decode cX12_init 82 = .ok (.putfield 39, 3) := by decide +kernel
theorem dX12_init_85 : decode cX12_init 85 = .ok (.aload_n 0, 1) := by decide +kernel
theorem dX12_init_86 : decode cX12_init 86 = .ok (.bipush 12, 2) := by decide +kernel
theorem dX12_init_88 : decode cX12_init 88 = .ok (.newarray .int, 2) := by decide +kernel
theorem dX12_init_90 : decode cX12_init 90 = .ok (.putfield 43, 3) := by decide +kernel
theorem dX12_init_93 : decode cX12_init 93 = .ok (.aload_n 0, 1) := by decide +kernel
theorem dX12_init_94 : decode cX12_init 94 = .ok (.bipush 12, 2) := by decide +kernel
theorem dX12_init_96 : decode cX12_init 96 = .ok (.newarray .long, 2) := by decide +kernel
theorem dX12_init_98 : decode cX12_init 98 = .ok (.putfield 46, 3) := by decide +kernel
theorem dX12_init_101 : decode cX12_init 101 = .ok (.aload_n 0, 1) := by decide +kernel
theorem dX12_init_102 : decode cX12_init 102 = .ok (.bipush 6, 2) := by decide +kernel
theorem dX12_init_104 : decode cX12_init 104 = .ok (.newarray .int, 2) := by decide +kernel
theorem dX12_init_106 : decode cX12_init 106 = .ok (.putfield 49, 3) := by decide +kernel
theorem dX12_init_109 : decode cX12_init 109 = .ok (.aload_n 0, 1) := by decide +kernel
theorem dX12_init_110 : decode cX12_init 110 = .ok (.bipush 6, 2) := by decide +kernel
theorem dX12_init_112 : decode cX12_init 112 = .ok (.newarray .int, 2) := by decide +kernel
theorem dX12_init_114 : decode cX12_init 114 = .ok (.putfield 52, 3) := by decide +kernel
theorem dX12_init_117 : decode cX12_init 117 = .ok (.aload_n 0, 1) := by decide +kernel
theorem dX12_init_118 : decode cX12_init 118 = .ok (.bipush 80, 2) := by decide +kernel
theorem dX12_init_120 : decode cX12_init 120 = .ok (.newarray .int, 2) := by decide +kernel
theorem dX12_init_122 : decode cX12_init 122 = .ok (.putfield 55, 3) := by decide +kernel
theorem dX12_init_125 : decode cX12_init 125 = .ok (.aload_n 0, 1) := by decide +kernel
theorem dX12_init_126 : decode cX12_init 126 = .ok (.sipush 960, 3) := by decide +kernel
theorem dX12_init_129 : decode cX12_init 129 = .ok (.newarray .int, 2) := by decide +kernel
theorem dX12_init_131 : decode cX12_init 131 = .ok (.putfield 58, 3) := by decide +kernel
theorem dX12_init_134 : decode cX12_init 134 = .ok (.aload_n 0, 1) := by decide +kernel
theorem dX12_init_135 : decode cX12_init 135 = .ok (.sipush 960, 3) := by decide +kernel
theorem dX12_init_138 : decode cX12_init 138 = .ok (.newarray .boolean, 2) := by decide +kernel
theorem dX12_init_140 : decode cX12_init 140 = .ok (.putfield 61, 3) := by decide +kernel
theorem dX12_init_143 : decode cX12_init 143 = .ok (.aload_n 0, 1) := by decide +kernel
theorem dX12_init_144 : decode cX12_init 144 = .ok (.sipush 960, 3) := by decide +kernel
theorem dX12_init_147 : decode cX12_init 147 = .ok (.newarray .int, 2) := by decide +kernel
theorem dX12_init_149 : decode cX12_init 149 = .ok (.putfield 64, 3) := by decide +kernel
theorem dX12_init_152 : decode cX12_init 152 = .ok (.aload_n 0, 1) := by decide +kernel
theorem dX12_init_153 : decode cX12_init 153 = .ok (.bipush 80, 2) := by decide +kernel
theorem dX12_init_155 : decode cX12_init 155 = .ok (.newarray .int, 2) := by decide +kernel
theorem dX12_init_157 : decode cX12_init 157 = .ok (.putfield 67, 3) := by decide +kernel
theorem dX12_init_160 : decode cX12_init 160 = .ok (.aload_n 0, 1) := by decide +kernel
theorem dX12_init_161 : decode cX12_init 161 = .ok (.sipush 2400, 3) := by decide +kernel
theorem dX12_init_164 : decode cX12_init 164 = .ok (.newarray .int, 2) := by decide +kernel
theorem dX12_init_166 : decode cX12_init 166 = .ok (.putfield 70, 3) := by decide +kernel
theorem dX12_init_169 : decode cX12_init 169 = .ok (.aload_n 0, 1) := by decide +kernel
theorem dX12_init_170 : decode cX12_init 170 = .ok (.bipush 80, 2) := by decide +kernel
theorem dX12_init_172 : decode cX12_init 172 = .ok (.newarray .int, 2) := by decide +kernel
theorem dX12_init_174 : decode cX12_init 174 = .ok (.putfield 73, 3) := by decide +kernel
theorem dX12_init_177 : decode cX12_init 177 = .ok (.aload_n 0, 1) := by decide +kernel
theorem dX12_init_178 : decode cX12_init 178 = .ok (.bipush 80, 2) := by decide +kernel
theorem dX12_init_180 : decode cX12_init 180 = .ok (.newarray .int, 2) := by decide +kernel
theorem dX12_init_182 : decode cX12_init 182 = .ok (.putfield 76, 3) := by decide +kernel
theorem dX12_init_185 : decode cX12_init 185 = .ok (.aload_n 0, 1) := by decide +kernel
theorem dX12_init_186 : decode cX12_init 186 = .ok (.bipush 80, 2) := by decide +kernel
theorem dX12_init_188 : decode cX12_init 188 = .ok (.newarray .int, 2) := by decide +kernel
theorem dX12_init_190 : decode cX12_init 190 = .ok (.putfield 79, 3) := by decide +kernel
theorem dX12_init_193 : decode cX12_init 193 = .ok (.aload_n 0, 1) := by decide +kernel
theorem dX12_init_194 : decode cX12_init 194 = .ok (.bipush 80, 2) := by decide +kernel
theorem dX12_init_196 : decode cX12_init 196 = .ok (.newarray .long, 2) := by decide +kernel
theorem dX12_init_198 : decode cX12_init 198 = .ok (.putfield 82, 3) := by decide +kernel
theorem dX12_init_201 : decode cX12_init 201 = .ok (.aload_n 0, 1) := by decide +kernel
theorem dX12_init_202 : decode cX12_init 202 = .ok (.sipush 640, 3) := by decide +kernel
theorem dX12_init_205 : decode cX12_init 205 = .ok (.newarray .int, 2) := by decide +kernel
theorem dX12_init_207 : decode cX12_init 207 = .ok (.putfield 85, 3) := by decide +kernel
theorem dX12_init_210 : decode cX12_init 210 = .ok (.aload_n 0, 1) := by decide +kernel
theorem dX12_init_211 : decode cX12_init 211 = .ok (.bipush 80, 2) := by decide +kernel
theorem dX12_init_213 : decode cX12_init 213 = .ok (.newarray .int, 2) := by decide +kernel
theorem dX12_init_215 : decode cX12_init 215 = .ok (.putfield 88, 3) := by decide +kernel
theorem dX12_init_218 : decode cX12_init 218 = .ok (.aload_n 0, 1) := by decide +kernel
theorem dX12_init_219 : decode cX12_init 219 = .ok (.bipush 12, 2) := by decide +kernel
theorem dX12_init_221 : decode cX12_init 221 = .ok (.newarray .int, 2) := by decide +kernel
theorem dX12_init_223 : decode cX12_init 223 = .ok (.putfield 91, 3) := by decide +kernel
theorem dX12_init_226 : decode cX12_init 226 = .ok (.aload_n 0, 1) := by decide +kernel
theorem dX12_init_227 : decode cX12_init 227 = .ok (.bipush 12, 2) := by decide +kernel
theorem dX12_init_229 : decode cX12_init 229 = .ok (.newarray .boolean, 2) := by decide +kernel
theorem dX12_init_231 : decode cX12_init 231 = .ok (.putfield 94, 3) := by decide +kernel
theorem dX12_init_234 : decode cX12_init 234 = .ok (.aload_n 0, 1) := by decide +kernel
theorem dX12_init_235 : decode cX12_init 235 = .ok (.bipush 12, 2) := by decide +kernel
theorem dX12_init_237 : decode cX12_init 237 = .ok (.newarray .int, 2) := by decide +kernel
theorem dX12_init_239 : decode cX12_init 239 = .ok (.putfield 97, 3) := by decide +kernel
theorem dX12_init_242 : decode cX12_init 242 = .ok (.aload_n 0, 1) := by decide +kernel
theorem dX12_init_243 : decode cX12_init 243 = .ok (.bipush 31, 2) := by decide +kernel
theorem dX12_init_245 : decode cX12_init 245 = .ok (.newarray .int, 2) := by decide +kernel
theorem dX12_init_247 : decode cX12_init 247 = .ok (.putfield 100, 3) := by decide +kernel
theorem dX12_init_250 : decode cX12_init 250 = .ok (.aload_n 0, 1) := by decide +kernel
theorem dX12_init_251 : decode cX12_init 251 = .ok (.bipush 31, 2) := by decide +kernel
theorem dX12_init_253 : decode cX12_init 253 = .ok (.newarray .int, 2) := by decide +kernel
theorem dX12_init_255 : decode cX12_init 255 = .ok (.putfield 103, 3) := by decide +kernel
theorem dX12_init_258 : decode cX12_init 258 = .ok (.aload_n 0, 1) := by decide +kernel
theorem dX12_init_259 : decode cX12_init 259 = .ok (.bipush 12, 2) := by decide +kernel
theorem dX12_init_261 : decode cX12_init 261 = .ok (.newarray .int, 2) := by decide +kernel
theorem dX12_init_263 : decode cX12_init 263 = .ok (.putfield 106, 3) := by decide +kernel
theorem dX12_init_266 : decode cX12_init 266 = .ok (.aload_n 0, 1) := by decide +kernel
theorem dX12_init_267 : decode cX12_init 267 = .ok (.bipush 12, 2) := by decide +kernel
theorem dX12_init_269 : decode cX12_init 269 = .ok (.newarray .long, 2) := by decide +kernel
theorem dX12_init_271 : decode cX12_init 271 = .ok (.putfield 109, 3) := by decide +kernel
theorem dX12_init_274 : decode cX12_init 274 = .ok (.aload_n 0, 1) := by decide +kernel
theorem dX12_init_275 : decode cX12_init 275 = .ok (.bipush 100, 2) := by decide +kernel
theorem dX12_init_277 : decode cX12_init 277 = .ok (.putfield 112, 3) := by decide +kernel
theorem dX12_init_280 : decode cX12_init 280 = .ok (.aload_n 0, 1) := by decide +kernel
theorem dX12_init_281 : decode cX12_init 281 = .ok (.bipush 80, 2) := by decide +kernel
theorem dX12_init_283 : decode cX12_init 283 = .ok (.newarray .int, 2) := by decide +kernel
theorem dX12_init_285 : decode cX12_init 285 = .ok (.putfield 116, 3) := by decide +kernel
theorem dX12_init_288 : decode cX12_init 288 = .ok (.aload_n 0, 1) := by decide +kernel
theorem dX12_init_289 : decode cX12_init 289 = .ok (.bipush 80, 2) := by decide +kernel
theorem dX12_init_291 : decode cX12_init 291 = .ok (.newarray .int, 2) := by decide +kernel
theorem dX12_init_293 : decode cX12_init 293 = .ok (.putfield 119, 3) := by decide +kernel
theorem dX12_init_296 : decode cX12_init 296 = .ok (.aload_n 0, 1) := by decide +kernel
theorem dX12_init_297 : decode cX12_init 297 = .ok (.bipush 12, 2) := by decide +kernel
theorem dX12_init_299 : decode cX12_init 299 = .ok (.newarray .int, 2) := by decide +kernel
theorem dX12_init_301 : decode cX12_init 301 = .ok (.putfield 122, 3) := by decide +kernel
theorem dX12_init_304 : decode cX12_init 304 = .ok (.aload_n 0, 1) := by decide +kernel
theorem dX12_init_305 : decode cX12_init 305 = .ok (.sipush 200, 3) := by decide +kernel
theorem dX12_init_308 : decode cX12_init 308 = .ok (.newarray .int, 2) := by decide +kernel
theorem dX12_init_310 : decode cX12_init 310 = .ok (.putfield 125, 3) := by decide +kernel
theorem dX12_init_313 : decode cX12_init 313 = .ok (.return_, 1) := by decide +kernel
theorem dX12_thrown_0 : decode cX12_thrown 0 = .ok (.aload_n 0, 1) := by decide +kernel
theorem dX12_thrown_1 : decode cX12_thrown 1 = .ok (.getfield 128, 3) := by decide +kernel
theorem dX12_thrown_4 : decode cX12_thrown 4 = .ok (.ireturn, 1) := by decide +kernel
theorem dX12_isWrong_0 : decode cX12_isWrong 0 = .ok (.aload_n 0, 1) := by decide +kernel
theorem dX12_isWrong_1 : decode cX12_isWrong 1 = .ok (.iload_n 1, 1) := by decide +kernel
theorem dX12_isWrong_2 : decode cX12_isWrong 2 = .ok (.putfield 128, 3) := by decide +kernel
theorem dX12_isWrong_5 : decode cX12_isWrong 5 = .ok (.iload_n 1, 1) := by decide +kernel
theorem dX12_isWrong_6 : decode cX12_isWrong 6 = .ok (.ifCond .le 7, 3) := by decide +kernel
theorem dX12_isWrong_9 : decode cX12_isWrong 9 = .ok (.iconst 1, 1) := by decide +kernel
theorem dX12_isWrong_10 : decode cX12_isWrong 10 = .ok (.goto 4, 3) := by decide +kernel
theorem dX12_isWrong_13 : decode cX12_isWrong 13 = .ok (.iconst 0, 1) := by decide +kernel
theorem dX12_isWrong_14 : decode cX12_isWrong 14 = .ok (.ireturn, 1) := by decide +kernel
theorem dX12_isBetween_0 : decode cX12_isBetween 0 = .ok (.iload_n 1, 1) := by decide +kernel
theorem dX12_isBetween_1 : decode cX12_isBetween 1 = .ok (.iload_n 0, 1) := by decide +kernel
theorem dX12_isBetween_2 : decode cX12_isBetween 2 = .ok (.if_icmp .gt 12, 3) := by decide +kernel
theorem dX12_isBetween_5 : decode cX12_isBetween 5 = .ok (.iload_n 0, 1) := by decide +kernel
theorem dX12_isBetween_6 : decode cX12_isBetween 6 = .ok (.iload_n 2, 1) := by decide +kernel
theorem dX12_isBetween_7 : decode cX12_isBetween 7 = .ok (.if_icmp .gt 7, 3) := by decide +kernel
theorem dX12_isBetween_10 : decode cX12_isBetween 10 = .ok (.iconst 1, 1) := by decide +kernel
theorem dX12_isBetween_11 : decode cX12_isBetween 11 = .ok (.goto 4, 3) := by decide +kernel
theorem dX12_isBetween_14 : decode cX12_isBetween 14 = .ok (.iconst 0, 1) := by decide +kernel
theorem dX12_isBetween_15 : decode cX12_isBetween 15 = .ok (.ireturn, 1) := by decide +kernel
theorem dX12_has_0 : decode cX12_has 0 = .ok (.lload_n 0, 1) := by decide +kernel
theorem dX12_has_1 : decode cX12_has 1 = .ok (.iload_n 2, 1) := by decide +kernel
theorem dX12_has_2 : decode cX12_has 2 = .ok (.lshr, 1) := by decide +kernel
theorem dX12_has_3 : decode cX12_has 3 = .ok (.lconst 1, 1) := by decide +kernel
theorem dX12_has_4 : decode cX12_has 4 = .ok (.land, 1) := by decide +kernel
theorem dX12_has_5 : decode cX12_has 5 = .ok (.lconst 1, 1) := by decide +kernel
theorem dX12_has_6 : decode cX12_has 6 = .ok (.lcmp, 1) := by decide +kernel
theorem dX12_has_7 : decode cX12_has 7 = .ok (.ifCond .ne 7, 3) := by decide +kernel
theorem dX12_has_10 : decode cX12_has 10 = .ok (.iconst 1, 1) := by decide +kernel
theorem dX12_has_11 : decode cX12_has 11 = .ok (.goto 4, 3) := by decide +kernel
theorem dX12_has_14 : decode cX12_has 14 = .ok (.iconst 0, 1) := by decide +kernel
theorem dX12_has_15 : decode cX12_has 15 = .ok (.ireturn, 1) := by decide +kernel
theorem dX12_bits_0 : decode cX12_bits 0 = .ok (.iconst 0, 1) := by decide +kernel
theorem dX12_bits_1 : decode cX12_bits 1 = .ok (.istore_n 2, 1) := by decide +kernel
theorem dX12_bits_2 : decode cX12_bits 2 = .ok (.iconst 0, 1) := by decide +kernel
theorem dX12_bits_3 : decode cX12_bits 3 = .ok (.istore_n 3, 1) := by decide +kernel
theorem dX12_bits_4 : decode cX12_bits 4 = .ok (.iload_n 3, 1) := by decide +kernel
theorem dX12_bits_5 : decode cX12_bits 5 = .ok (.bipush 40, 2) := by decide +kernel
theorem dX12_bits_7 : decode cX12_bits 7 = .ok (.if_icmp .ge 25, 3) := by decide +kernel
theorem dX12_bits_10 : decode cX12_bits 10 = .ok (.iload_n 2, 1) := by decide +kernel
theorem dX12_bits_11 : decode cX12_bits 11 = .ok (.lload_n 0, 1) := by decide +kernel
theorem dX12_bits_12 : decode cX12_bits 12 = .ok (.iload_n 3, 1) := by decide +kernel
theorem dX12_bits_13 : decode cX12_bits 13 = .ok (.invokestatic 131, 3) := by decide +kernel
theorem dX12_bits_16 : decode cX12_bits 16 = .ok (.ifCond .eq 7, 3) := by decide +kernel
theorem dX12_bits_19 : decode cX12_bits 19 = .ok (.iconst 1, 1) := by decide +kernel
theorem dX12_bits_20 : decode cX12_bits 20 = .ok (.goto 4, 3) := by decide +kernel
theorem dX12_bits_23 : decode cX12_bits 23 = .ok (.iconst 0, 1) := by decide +kernel
theorem dX12_bits_24 : decode cX12_bits 24 = .ok (.iadd, 1) := by decide +kernel
theorem dX12_bits_25 : decode cX12_bits 25 = .ok (.istore_n 2, 1) := by decide +kernel
theorem dX12_bits_26 : decode cX12_bits 26 = .ok (.iinc 3 1, 3) := by decide +kernel
theorem dX12_bits_29 : decode cX12_bits 29 = .ok (.goto (-25), 3) := by decide +kernel
theorem dX12_bits_32 : decode cX12_bits 32 = .ok (.iload_n 2, 1) := by decide +kernel
theorem dX12_bits_33 : decode cX12_bits 33 = .ok (.ireturn, 1) := by decide +kernel
theorem dX12_type_0 : decode cX12_type 0 = .ok (.aload_n 0, 1) := by decide +kernel
theorem dX12_type_1 : decode cX12_type 1 = .ok (.iload_n 1, 1) := by decide +kernel
theorem dX12_type_2 : decode cX12_type 2 = .ok (.bipush 97, 2) := by decide +kernel
theorem dX12_type_4 : decode cX12_type 4 = .ok (.bipush 122, 2) := by decide +kernel
theorem dX12_type_6 : decode cX12_type 6 = .ok (.invokestatic 135, 3) := by decide +kernel
theorem dX12_type_9 : decode cX12_type 9 = .ok (.ifCond .ne 13, 3) := by decide +kernel
theorem dX12_type_12 : decode cX12_type 12 = .ok (.iload_n 1, 1) := by decide +kernel
theorem dX12_type_13 : decode cX12_type 13 = .ok (.bipush 32, 2) := by decide +kernel
theorem dX12_type_15 : decode cX12_type 15 = .ok (.if_icmp .eq 7, 3) := by decide +kernel
theorem dX12_type_18 : decode cX12_type 18 = .ok (.iconst 1, 1) := by decide +kernel
theorem dX12_type_19 : decode cX12_type 19 = .ok (.goto 17, 3) := by decide +kernel
theorem dX12_type_22 : decode cX12_type 22 = .ok (.aload_n 0, 1) := by decide +kernel
theorem dX12_type_23 : decode cX12_type 23 = .ok (.getfield 139, 3) := by decide +kernel
theorem dX12_type_26 : decode cX12_type 26 = .ok (.bipush 30, 2) := by decide +kernel
theorem dX12_type_28 : decode cX12_type 28 = .ok (.if_icmp .ne 7, 3) := by decide +kernel
theorem dX12_type_31 : decode cX12_type 31 = .ok (.iconst 2, 1) := by decide +kernel
theorem dX12_type_32 : decode cX12_type 32 = .ok (.goto 4, 3) := by decide +kernel
theorem dX12_type_35 : decode cX12_type 35 = .ok (.iconst 0, 1) := by decide +kernel
theorem dX12_type_36 : decode cX12_type 36 = .ok (.invokevirtual 142, 3) := by decide +kernel
theorem dX12_type_39 : decode cX12_type 39 = .ok (.ifCond .eq 5, 3) := by decide +kernel
theorem dX12_type_42 : decode cX12_type 42 = .ok (.iconst 0, 1) := by decide +kernel
theorem dX12_type_43 : decode cX12_type 43 = .ok (.ireturn, 1) := by decide +kernel
theorem dX12_type_44 : decode cX12_type 44 = .ok (.aload_n 0, 1) := by decide +kernel
theorem dX12_type_45 : decode cX12_type 45 = .ok (.getfield 7, 3) := by decide +kernel
theorem dX12_type_48 : decode cX12_type 48 = .ok (.aload_n 0, 1) := by decide +kernel
theorem dX12_type_49 : decode cX12_type 49 = .ok (.getfield 139, 3) := by decide +kernel
theorem dX12_type_52 : decode cX12_type 52 = .ok (.iload_n 1, 1) := by decide +kernel
theorem dX12_type_53 : decode cX12_type 53 = .ok (.iastore, 1) := by decide +kernel
theorem dX12_type_54 : decode cX12_type 54 = .ok (.aload_n 0, 1) := by decide +kernel
theorem dX12_type_55 : decode cX12_type 55 = .ok (.dup, 1) := by decide +kernel
theorem dX12_type_56 : decode cX12_type 56 = .ok (.getfield 139, 3) := by decide +kernel
theorem dX12_type_59 : decode cX12_type 59 = .ok (.iconst 1, 1) := by decide +kernel
theorem dX12_type_60 : decode cX12_type 60 = .ok (.iadd, 1) := by decide +kernel
theorem dX12_type_61 : decode cX12_type 61 = .ok (.putfield 139, 3) := by decide +kernel
theorem dX12_type_64 : decode cX12_type 64 = .ok (.aload_n 0, 1) := by decide +kernel
theorem dX12_type_65 : decode cX12_type 65 = .ok (.getfield 139, 3) := by decide +kernel
theorem dX12_type_68 : decode cX12_type 68 = .ok (.ireturn, 1) := by decide +kernel
theorem dX12_clear_0 : decode cX12_clear 0 = .ok (.aload_n 0, 1) := by decide +kernel
theorem dX12_clear_1 : decode cX12_clear 1 = .ok (.iconst 0, 1) := by decide +kernel
theorem dX12_clear_2 : decode cX12_clear 2 = .ok (.putfield 128, 3) := by decide +kernel
theorem dX12_clear_5 : decode cX12_clear 5 = .ok (.aload_n 0, 1) := by decide +kernel
theorem dX12_clear_6 : decode cX12_clear 6 = .ok (.getfield 139, 3) := by decide +kernel
theorem dX12_clear_9 : decode cX12_clear 9 = .ok (.istore_n 1, 1) := by decide +kernel
theorem dX12_clear_10 : decode cX12_clear 10 = .ok (.aload_n 0, 1) := by decide +kernel
theorem dX12_clear_11 : decode cX12_clear 11 = .ok (.iconst 0, 1) := by decide +kernel
theorem dX12_clear_12 : decode cX12_clear 12 = .ok (.putfield 139, 3) := by decide +kernel
theorem dX12_clear_15 : decode cX12_clear 15 = .ok (.iload_n 1, 1) := by decide +kernel
theorem dX12_clear_16 : decode cX12_clear 16 = .ok (.ireturn, 1) := by decide +kernel
theorem dX12_isRowOfLetters_0 : decode cX12_isRowOfLetters 0 = .ok (.iload_n 2, 1) := by decide +kernel
theorem dX12_isRowOfLetters_1 : decode cX12_isRowOfLetters 1 = .ok (.iload_n 1, 1) := by decide +kernel
theorem dX12_isRowOfLetters_2 : decode cX12_isRowOfLetters 2 = .ok (.if_icmp .le 15, 3) := by decide +kernel
theorem dX12_isRowOfLetters_5 : decode cX12_isRowOfLetters 5 = .ok (.iload_n 2, 1) := by decide +kernel
theorem dX12_isRowOfLetters_6 : decode cX12_isRowOfLetters 6 = .ok (.iload_n 1, 1) := by decide +kernel
theorem dX12_isRowOfLetters_7 : decode cX12_isRowOfLetters 7 = .ok (.isub, 1) := by decide +kernel
theorem dX12_isRowOfLetters_8 : decode cX12_isRowOfLetters 8 = .ok (.bipush 8, 2) := by decide +kernel
theorem dX12_isRowOfLetters_10 : decode cX12_isRowOfLetters 10 = .ok (.if_icmp .gt 7, 3) := by decide +kernel
theorem dX12_isRowOfLetters_13 : decode cX12_isRowOfLetters 13 = .ok (.iconst 1, 1) := by decide +kernel
theorem dX12_isRowOfLetters_14 : decode cX12_isRowOfLetters 14 = .ok (.goto 4, 3) := by decide +kernel
theorem dX12_isRowOfLetters_17 : decode cX12_isRowOfLetters 17 = .ok (.iconst 0, 1) := by decide +kernel
theorem dX12_isRowOfLetters_18 : decode cX12_isRowOfLetters 18 = .ok (.istore_n 3, 1) := by decide +kernel
theorem dX12_isRowOfLetters_19 : decode cX12_isRowOfLetters 19 = .ok (.iload_n 1, 1) := by decide +kernel
theorem dX12_isRowOfLetters_20 : decode cX12_isRowOfLetters 20 = .ok (.istore 4, 2) := by decide +kernel
theorem dX12_isRowOfLetters_22 : decode cX12_isRowOfLetters 22 = .ok (.iload 4, 2) := by decide +kernel
theorem dX12_isRowOfLetters_24 : decode cX12_isRowOfLetters 24 = .ok (.iload_n 2, 1) := by decide +kernel
theorem dX12_isRowOfLetters_25 : decode cX12_isRowOfLetters 25 = .ok (.if_icmp .ge 29, 3) := by decide +kernel
theorem dX12_isRowOfLetters_28 : decode cX12_isRowOfLetters 28 = .ok (.iload_n 3, 1) := by decide +kernel
theorem dX12_isRowOfLetters_29 : decode cX12_isRowOfLetters 29 = .ok (.aload_n 0, 1) := by decide +kernel
theorem dX12_isRowOfLetters_30 : decode cX12_isRowOfLetters 30 = .ok (.getfield 7, 3) := by decide +kernel
theorem dX12_isRowOfLetters_33 : decode cX12_isRowOfLetters 33 = .ok (.iload 4, 2) := by decide +kernel
theorem dX12_isRowOfLetters_35 : decode cX12_isRowOfLetters 35 = .ok (.iaload, 1) := by decide +kernel
theorem dX12_isRowOfLetters_36 : decode cX12_isRowOfLetters 36 = .ok (.bipush 32, 2) := by decide +kernel
theorem dX12_isRowOfLetters_38 : decode cX12_isRowOfLetters 38 = .ok (.if_icmp .eq 7, 3) := by decide +kernel
theorem dX12_isRowOfLetters_41 : decode cX12_isRowOfLetters 41 = .ok (.iconst 1, 1) := by decide +kernel
theorem dX12_isRowOfLetters_42 : decode cX12_isRowOfLetters 42 = .ok (.goto 4, 3) := by decide +kernel
theorem dX12_isRowOfLetters_45 : decode cX12_isRowOfLetters 45 = .ok (.iconst 0, 1) := by decide +kernel
theorem dX12_isRowOfLetters_46 : decode cX12_isRowOfLetters 46 = .ok (.iand, 1) := by decide +kernel
theorem dX12_isRowOfLetters_47 : decode cX12_isRowOfLetters 47 = .ok (.istore_n 3, 1) := by decide +kernel
theorem dX12_isRowOfLetters_48 : decode cX12_isRowOfLetters 48 = .ok (.iinc 4 1, 3) := by decide +kernel
theorem dX12_isRowOfLetters_51 : decode cX12_isRowOfLetters 51 = .ok (.goto (-29), 3) := by decide +kernel
theorem dX12_isRowOfLetters_54 : decode cX12_isRowOfLetters 54 = .ok (.iload_n 3, 1) := by decide +kernel
theorem dX12_isRowOfLetters_55 : decode cX12_isRowOfLetters 55 = .ok (.ireturn, 1) := by decide +kernel
theorem dX12_isWord_0 : decode cX12_isWord 0 = .ok (.iload_n 1, 1) := by decide +kernel
theorem dX12_isWord_1 : decode cX12_isWord 1 = .ok (.iconst 0, 1) := by decide +kernel
theorem dX12_isWord_2 : decode cX12_isWord 2 = .ok (.aload_n 0, 1) := by decide +kernel
theorem dX12_isWord_3 : decode cX12_isWord 3 = .ok (.getfield 146, 3) := by decide +kernel
theorem dX12_isWord_6 : decode cX12_isWord 6 = .ok (.iconst 1, 1) := by decide +kernel
theorem dX12_isWord_7 : decode cX12_isWord 7 = .ok (.isub, 1) := by decide +kernel
theorem dX12_isWord_8 : decode cX12_isWord 8 = .ok (.invokestatic 135, 3) := by decide +kernel
theorem dX12_isWord_11 : decode cX12_isWord 11 = .ok (.ireturn, 1) := by decide +kernel
theorem dX12_wordAt_0 : decode cX12_wordAt 0 = .ok (.iconst (-1), 1) := by decide +kernel
theorem dX12_wordAt_1 : decode cX12_wordAt 1 = .ok (.istore_n 3, 1) := by decide +kernel
theorem dX12_wordAt_2 : decode cX12_wordAt 2 = .ok (.iconst 0, 1) := by decide +kernel
theorem dX12_wordAt_3 : decode cX12_wordAt 3 = .ok (.istore 4, 2) := by decide +kernel
theorem dX12_wordAt_5 : decode cX12_wordAt 5 = .ok (.iload 4, 2) := by decide +kernel
theorem dX12_wordAt_7 : decode cX12_wordAt 7 = .ok (.aload_n 0, 1) := by decide +kernel
theorem dX12_wordAt_8 : decode cX12_wordAt 8 = .ok (.getfield 146, 3) := by decide +kernel
theorem dX12_wordAt_11 : decode cX12_wordAt 11 = .ok (.if_icmp .ge 106, 3) := by decide +kernel
theorem dX12_wordAt_14 : decode cX12_wordAt 14 = .ok (.iload_n 2, 1) := by decide +kernel
theorem dX12_wordAt_15 : decode cX12_wordAt 15 = .ok (.iload_n 1, 1) := by decide +kernel
theorem dX12_wordAt_16 : decode cX12_wordAt 16 = .ok (.isub, 1) := by decide +kernel
theorem dX12_wordAt_17 : decode cX12_wordAt 17 = .ok (.bipush 8, 2) := by decide +kernel
theorem dX12_wordAt_19 : decode cX12_wordAt 19 = .ok (.if_icmp .gt 12, 3) := by decide +kernel
theorem dX12_wordAt_22 : decode cX12_wordAt 22 = .ok (.iload_n 2, 1) := by decide +kernel
theorem dX12_wordAt_23 : decode cX12_wordAt 23 = .ok (.iload_n 1, 1) := by decide +kernel
theorem dX12_wordAt_24 : decode cX12_wordAt 24 = .ok (.if_icmp .le 7, 3) := by decide +kernel
theorem dX12_wordAt_27 : decode cX12_wordAt 27 = .ok (.iconst 1, 1) := by decide +kernel
theorem dX12_wordAt_28 : decode cX12_wordAt 28 = .ok (.goto 4, 3) := by decide +kernel
theorem dX12_wordAt_31 : decode cX12_wordAt 31 = .ok (.iconst 0, 1) := by decide +kernel
theorem dX12_wordAt_32 : decode cX12_wordAt 32 = .ok (.istore 5, 2) := by decide +kernel
theorem dX12_wordAt_34 : decode cX12_wordAt 34 = .ok (.iconst 0, 1) := by decide +kernel
theorem dX12_wordAt_35 : decode cX12_wordAt 35 = .ok (.istore 6, 2) := by decide +kernel
theorem dX12_wordAt_37 : decode cX12_wordAt 37 = .ok (.iload 6, 2) := by decide +kernel
theorem dX12_wordAt_39 : decode cX12_wordAt 39 = .ok (.bipush 8, 2) := by decide +kernel
theorem dX12_wordAt_41 : decode cX12_wordAt 41 = .ok (.if_icmp .ge 58, 3) := by decide +kernel
theorem dX12_wordAt_44 : decode cX12_wordAt 44 = .ok (.iload 5, 2) := by decide +kernel
theorem dX12_wordAt_46 : decode cX12_wordAt 46 = .ok (.ifCond .eq 53, 3) := by decide +kernel
theorem dX12_wordAt_49 : decode cX12_wordAt 49 = .ok (.aload_n 0, 1) := by decide +kernel
theorem dX12_wordAt_50 : decode cX12_wordAt 50 = .ok (.getfield 13, 3) := by decide +kernel
theorem dX12_wordAt_53 : decode cX12_wordAt 53 = .ok (.bipush 8, 2) := by decide +kernel
theorem dX12_wordAt_55 : decode cX12_wordAt 55 = .ok (.iload 4, 2) := by decide +kernel
theorem dX12_wordAt_57 : decode cX12_wordAt 57 = .ok (.imul, 1) := by decide +kernel
theorem dX12_wordAt_58 : decode cX12_wordAt 58 = .ok (.iload 6, 2) := by decide +kernel
theorem dX12_wordAt_60 : decode cX12_wordAt 60 = .ok (.iadd, 1) := by decide +kernel
theorem dX12_wordAt_61 : decode cX12_wordAt 61 = .ok (.iaload, 1) := by decide +kernel
theorem dX12_wordAt_62 : decode cX12_wordAt 62 = .ok (.iload_n 1, 1) := by decide +kernel
theorem dX12_wordAt_63 : decode cX12_wordAt 63 = .ok (.iload 6, 2) := by decide +kernel
theorem dX12_wordAt_65 : decode cX12_wordAt 65 = .ok (.iadd, 1) := by decide +kernel
theorem dX12_wordAt_66 : decode cX12_wordAt 66 = .ok (.iload_n 2, 1) := by decide +kernel
theorem dX12_wordAt_67 : decode cX12_wordAt 67 = .ok (.if_icmp .ge 15, 3) := by decide +kernel
theorem dX12_wordAt_70 : decode cX12_wordAt 70 = .ok (.aload_n 0, 1) := by decide +kernel
theorem dX12_wordAt_71 : decode cX12_wordAt 71 = .ok (.getfield 7, 3) := by decide +kernel
theorem dX12_wordAt_74 : decode cX12_wordAt 74 = .ok (.iload_n 1, 1) := by decide +kernel
theorem dX12_wordAt_75 : decode cX12_wordAt 75 = .ok (.iload 6, 2) := by decide +kernel
theorem dX12_wordAt_77 : decode cX12_wordAt 77 = .ok (.iadd, 1) := by decide +kernel
theorem dX12_wordAt_78 : decode cX12_wordAt 78 = .ok (.iaload, 1) := by decide +kernel
theorem dX12_wordAt_79 : decode cX12_wordAt 79 = .ok (.goto 4, 3) := by decide +kernel
theorem dX12_wordAt_82 : decode cX12_wordAt 82 = .ok (.iconst 0, 1) := by decide +kernel
theorem dX12_wordAt_83 : decode cX12_wordAt 83 = .ok (.if_icmp .ne 7, 3) := by decide +kernel
theorem dX12_wordAt_86 : decode cX12_wordAt 86 = .ok (.iconst 1, 1) := by decide +kernel
theorem dX12_wordAt_87 : decode cX12_wordAt 87 = .ok (.goto 4, 3) := by decide +kernel
theorem dX12_wordAt_90 : decode cX12_wordAt 90 = .ok (.iconst 0, 1) := by decide +kernel
theorem dX12_wordAt_91 : decode cX12_wordAt 91 = .ok (.istore 5, 2) := by decide +kernel
theorem dX12_wordAt_93 : decode cX12_wordAt 93 = .ok (.iinc 6 1, 3) := by decide +kernel
theorem dX12_wordAt_96 : decode cX12_wordAt 96 = .ok (.goto (-59), 3) := by decide +kernel
theorem dX12_wordAt_99 : decode cX12_wordAt 99 = .ok (.iload 5, 2) := by decide +kernel
theorem dX12_wordAt_101 : decode cX12_wordAt 101 = .ok (.ifCond .eq 8, 3) := by decide +kernel
theorem dX12_wordAt_104 : decode cX12_wordAt 104 = .ok (.iload 4, 2) := by decide +kernel
theorem dX12_wordAt_106 : decode cX12_wordAt 106 = .ok (.goto 4, 3) := by decide +kernel
theorem dX12_wordAt_109 : decode cX12_wordAt 109 = .ok (.iload_n 3, 1) := by decide +kernel
theorem dX12_wordAt_110 : decode cX12_wordAt 110 = .ok (.istore_n 3, 1) := by decide +kernel
theorem dX12_wordAt_111 : decode cX12_wordAt 111 = .ok (.iinc 4 1, 3) := by decide +kernel
theorem dX12_wordAt_114 : decode cX12_wordAt 114 = .ok (.goto (-109), 3) := by decide +kernel
theorem dX12_wordAt_117 : decode cX12_wordAt 117 = .ok (.iload_n 3, 1) := by decide +kernel
theorem dX12_wordAt_118 : decode cX12_wordAt 118 = .ok (.ireturn, 1) := by decide +kernel
theorem dX12_word_0 : decode cX12_word 0 = .ok (.aload_n 0, 1) := by decide +kernel
theorem dX12_word_1 : decode cX12_word 1 = .ok (.aload_n 0, 1) := by decide +kernel
theorem dX12_word_2 : decode cX12_word 2 = .ok (.iconst 0, 1) := by decide +kernel
theorem dX12_word_3 : decode cX12_word 3 = .ok (.aload_n 0, 1) := by decide +kernel
theorem dX12_word_4 : decode cX12_word 4 = .ok (.getfield 139, 3) := by decide +kernel
theorem dX12_word_7 : decode cX12_word 7 = .ok (.invokevirtual 149, 3) := by decide +kernel
theorem dX12_word_10 : decode cX12_word 10 = .ok (.ifCond .ne 7, 3) := by decide +kernel
theorem dX12_word_13 : decode cX12_word 13 = .ok (.iconst 1, 1) := by decide +kernel
theorem dX12_word_14 : decode cX12_word 14 = .ok (.goto 34, 3) := by decide +kernel
theorem dX12_word_17 : decode cX12_word 17 = .ok (.aload_n 0, 1) := by decide +kernel
theorem dX12_word_18 : decode cX12_word 18 = .ok (.iconst 0, 1) := by decide +kernel
theorem dX12_word_19 : decode cX12_word 19 = .ok (.aload_n 0, 1) := by decide +kernel
theorem dX12_word_20 : decode cX12_word 20 = .ok (.getfield 139, 3) := by decide +kernel
theorem dX12_word_23 : decode cX12_word 23 = .ok (.invokevirtual 153, 3) := by decide +kernel
theorem dX12_word_26 : decode cX12_word 26 = .ok (.iconst (-1), 1) := by decide +kernel
theorem dX12_word_27 : decode cX12_word 27 = .ok (.if_icmp .eq 7, 3) := by decide +kernel
theorem dX12_word_30 : decode cX12_word 30 = .ok (.iconst 2, 1) := by decide +kernel
theorem dX12_word_31 : decode cX12_word 31 = .ok (.goto 17, 3) := by decide +kernel
theorem dX12_word_34 : decode cX12_word 34 = .ok (.aload_n 0, 1) := by decide +kernel
theorem dX12_word_35 : decode cX12_word 35 = .ok (.getfield 146, 3) := by decide +kernel
theorem dX12_word_38 : decode cX12_word 38 = .ok (.bipush 40, 2) := by decide +kernel
theorem dX12_word_40 : decode cX12_word 40 = .ok (.if_icmp .ne 7, 3) := by decide +kernel
theorem dX12_word_43 : decode cX12_word 43 = .ok (.iconst 3, 1) := by decide +kernel
theorem dX12_word_44 : decode cX12_word 44 = .ok (.goto 4, 3) := by decide +kernel
theorem dX12_word_47 : decode cX12_word 47 = .ok (.iconst 0, 1) := by decide +kernel
theorem dX12_word_48 : decode cX12_word 48 = .ok (.invokevirtual 142, 3) := by decide +kernel
theorem dX12_word_51 : decode cX12_word 51 = .ok (.ifCond .eq 5, 3) := by decide +kernel
theorem dX12_word_54 : decode cX12_word 54 = .ok (.iconst 0, 1) := by decide +kernel
theorem dX12_word_55 : decode cX12_word 55 = .ok (.ireturn, 1) := by decide +kernel
theorem dX12_word_56 : decode cX12_word 56 = .ok (.iconst 0, 1) := by decide +kernel
theorem dX12_word_57 : decode cX12_word 57 = .ok (.istore_n 1, 1) := by decide +kernel
theorem dX12_word_58 : decode cX12_word 58 = .ok (.iload_n 1, 1) := by decide +kernel
theorem dX12_word_59 : decode cX12_word 59 = .ok (.bipush 8, 2) := by decide +kernel
theorem dX12_word_61 : decode cX12_word 61 = .ok (.if_icmp .ge 41, 3) := by decide +kernel
theorem dX12_word_64 : decode cX12_word 64 = .ok (.aload_n 0, 1) := by decide +kernel
theorem dX12_word_65 : decode cX12_word 65 = .ok (.getfield 13, 3) := by decide +kernel
theorem dX12_word_68 : decode cX12_word 68 = .ok (.bipush 8, 2) := by decide +kernel
theorem dX12_word_70 : decode cX12_word 70 = .ok (.aload_n 0, 1) := by decide +kernel
theorem dX12_word_71 : decode cX12_word 71 = .ok (.getfield 146, 3) := by decide +kernel
theorem dX12_word_74 : decode cX12_word 74 = .ok (.imul, 1) := by decide +kernel
theorem dX12_word_75 : decode cX12_word 75 = .ok (.iload_n 1, 1) := by decide +kernel
theorem dX12_word_76 : decode cX12_word 76 = .ok (.iadd, 1) := by decide +kernel
theorem dX12_word_77 : decode cX12_word 77 = .ok (.iload_n 1, 1) := by decide +kernel
theorem dX12_word_78 : decode cX12_word 78 = .ok (.aload_n 0, 1) := by decide +kernel
theorem dX12_word_79 : decode cX12_word 79 = .ok (.getfield 139, 3) := by decide +kernel
theorem dX12_word_82 : decode cX12_word 82 = .ok (.if_icmp .ge 12, 3) := by decide +kernel
theorem dX12_word_85 : decode cX12_word 85 = .ok (.aload_n 0, 1) := by decide +kernel
theorem dX12_word_86 : decode cX12_word 86 = .ok (.getfield 7, 3) := by decide +kernel
theorem dX12_word_89 : decode cX12_word 89 = .ok (.iload_n 1, 1) := by decide +kernel
theorem dX12_word_90 : decode cX12_word 90 = .ok (.iaload, 1) := by decide +kernel
theorem dX12_word_91 : decode cX12_word 91 = .ok (.goto 4, 3) := by decide +kernel
theorem dX12_word_94 : decode cX12_word 94 = .ok (.iconst 0, 1) := by decide +kernel
theorem dX12_word_95 : decode cX12_word 95 = .ok (.iastore, 1) := by decide +kernel
theorem dX12_word_96 : decode cX12_word 96 = .ok (.iinc 1 1, 3) := by decide +kernel
theorem dX12_word_99 : decode cX12_word 99 = .ok (.goto (-41), 3) := by decide +kernel
theorem dX12_word_102 : decode cX12_word 102 = .ok (.aload_n 0, 1) := by decide +kernel
theorem dX12_word_103 : decode cX12_word 103 = .ok (.iconst 0, 1) := by decide +kernel
theorem dX12_word_104 : decode cX12_word 104 = .ok (.putfield 139, 3) := by decide +kernel
theorem dX12_word_107 : decode cX12_word 107 = .ok (.aload_n 0, 1) := by decide +kernel
theorem dX12_word_108 : decode cX12_word 108 = .ok (.dup, 1) := by decide +kernel
theorem dX12_word_109 : decode cX12_word 109 = .ok (.getfield 146, 3) := by decide +kernel
theorem dX12_word_112 : decode cX12_word 112 = .ok (.iconst 1, 1) := by decide +kernel
theorem dX12_word_113 : decode cX12_word 113 = .ok (.iadd, 1) := by decide +kernel
theorem dX12_word_114 : decode cX12_word 114 = .ok (.putfield 146, 3) := by decide +kernel
theorem dX12_word_117 : decode cX12_word 117 = .ok (.aload_n 0, 1) := by decide +kernel
theorem dX12_word_118 : decode cX12_word 118 = .ok (.getfield 146, 3) := by decide +kernel
theorem dX12_word_121 : decode cX12_word 121 = .ok (.iconst 1, 1) := by decide +kernel
theorem dX12_word_122 : decode cX12_word 122 = .ok (.isub, 1) := by decide +kernel
theorem dX12_word_123 : decode cX12_word 123 = .ok (.ireturn, 1) := by decide +kernel
theorem dX12_lengthOf_0 : decode cX12_lengthOf 0 = .ok (.iconst 0, 1) := by decide +kernel
theorem dX12_lengthOf_1 : decode cX12_lengthOf 1 = .ok (.istore_n 2, 1) := by decide +kernel
theorem dX12_lengthOf_2 : decode cX12_lengthOf 2 = .ok (.iload_n 2, 1) := by decide +kernel
theorem dX12_lengthOf_3 : decode cX12_lengthOf 3 = .ok (.bipush 8, 2) := by decide +kernel
theorem dX12_lengthOf_5 : decode cX12_lengthOf 5 = .ok (.if_icmp .ge 23, 3) := by decide +kernel
theorem dX12_lengthOf_8 : decode cX12_lengthOf 8 = .ok (.aload_n 0, 1) := by decide +kernel
theorem dX12_lengthOf_9 : decode cX12_lengthOf 9 = .ok (.getfield 13, 3) := by decide +kernel
theorem dX12_lengthOf_12 : decode cX12_lengthOf 12 = .ok (.bipush 8, 2) := by decide +kernel
theorem dX12_lengthOf_14 : decode cX12_lengthOf 14 = .ok (.iload_n 1, 1) := by decide +kernel
theorem dX12_lengthOf_15 : decode cX12_lengthOf 15 = .ok (.imul, 1) := by decide +kernel
theorem dX12_lengthOf_16 : decode cX12_lengthOf 16 = .ok (.iload_n 2, 1) := by decide +kernel
theorem dX12_lengthOf_17 : decode cX12_lengthOf 17 = .ok (.iadd, 1) := by decide +kernel
theorem dX12_lengthOf_18 : decode cX12_lengthOf 18 = .ok (.iaload, 1) := by decide +kernel
theorem dX12_lengthOf_19 : decode cX12_lengthOf 19 = .ok (.ifCond .eq 9, 3) := by decide +kernel
theorem dX12_lengthOf_22 : decode cX12_lengthOf 22 = .ok (.iinc 2 1, 3) := by decide +kernel
theorem dX12_lengthOf_25 : decode cX12_lengthOf 25 = .ok (.goto (-23), 3) := by decide +kernel
theorem dX12_lengthOf_28 : decode cX12_lengthOf 28 = .ok (.iload_n 2, 1) := by decide +kernel
theorem dX12_lengthOf_29 : decode cX12_lengthOf 29 = .ok (.ireturn, 1) := by decide +kernel
theorem dX12_isRoom_0 : decode cX12_isRoom 0 = .ok (.iload_n 1, 1) := by decide +kernel
theorem dX12_isRoom_1 : decode cX12_isRoom 1 = .ok (.iconst 0, 1) := by decide +kernel
theorem dX12_isRoom_2 : decode cX12_isRoom 2 = .ok (.aload_n 0, 1) := by decide +kernel
theorem dX12_isRoom_3 : decode cX12_isRoom 3 = .ok (.getfield 157, 3) := by decide +kernel
theorem dX12_isRoom_6 : decode cX12_isRoom 6 = .ok (.iconst 1, 1) := by decide +kernel
theorem dX12_isRoom_7 : decode cX12_isRoom 7 = .ok (.isub, 1) := by decide +kernel
theorem dX12_isRoom_8 : decode cX12_isRoom 8 = .ok (.invokestatic 135, 3) := by decide +kernel
theorem dX12_isRoom_11 : decode cX12_isRoom 11 = .ok (.ireturn, 1) := by decide +kernel
theorem dX12_isThing_0 : decode cX12_isThing 0 = .ok (.iload_n 1, 1) := by decide +kernel
theorem dX12_isThing_1 : decode cX12_isThing 1 = .ok (.iconst 0, 1) := by decide +kernel
theorem dX12_isThing_2 : decode cX12_isThing 2 = .ok (.aload_n 0, 1) := by decide +kernel
theorem dX12_isThing_3 : decode cX12_isThing 3 = .ok (.getfield 160, 3) := by decide +kernel
theorem dX12_isThing_6 : decode cX12_isThing 6 = .ok (.iconst 1, 1) := by decide +kernel
theorem dX12_isThing_7 : decode cX12_isThing 7 = .ok (.isub, 1) := by decide +kernel
theorem dX12_isThing_8 : decode cX12_isThing 8 = .ok (.invokestatic 135, 3) := by decide +kernel
theorem dX12_isThing_11 : decode cX12_isThing 11 = .ok (.ireturn, 1) := by decide +kernel
theorem dX12_directionOf_0 : decode cX12_directionOf 0 = .ok (.iload_n 0, 1) := by decide +kernel
theorem dX12_directionOf_1 : decode cX12_directionOf 1 = .ok (.bipush 110, 2) := by decide +kernel
theorem dX12_directionOf_3 : decode cX12_directionOf 3 = .ok (.if_icmp .ne 7, 3) := by decide +kernel
theorem dX12_directionOf_6 : decode cX12_directionOf 6 = .ok (.iconst 0, 1) := by decide +kernel
theorem dX12_directionOf_7 : decode cX12_directionOf 7 = .ok (.goto 54, 3) := by decide +kernel
theorem dX12_directionOf_10 : decode cX12_directionOf 10 = .ok (.iload_n 0, 1) := by decide +kernel
theorem dX12_directionOf_11 : decode cX12_directionOf 11 = .ok (.bipush 101, 2) := by decide +kernel
theorem dX12_directionOf_13 : decode cX12_directionOf 13 = .ok (.if_icmp .ne 7, 3) := by decide +kernel
theorem dX12_directionOf_16 : decode cX12_directionOf 16 = .ok (.iconst 1, 1) := by decide +kernel
theorem dX12_directionOf_17 : decode cX12_directionOf 17 = .ok (.goto 44, 3) := by decide +kernel
theorem dX12_directionOf_20 : decode cX12_directionOf 20 = .ok (.iload_n 0, 1) := by decide +kernel
theorem dX12_directionOf_21 : decode cX12_directionOf 21 = .ok (.bipush 115, 2) := by decide +kernel
theorem dX12_directionOf_23 : decode cX12_directionOf 23 = .ok (.if_icmp .ne 7, 3) := by decide +kernel
theorem dX12_directionOf_26 : decode cX12_directionOf 26 = .ok (.iconst 2, 1) := by decide +kernel
theorem dX12_directionOf_27 : decode cX12_directionOf 27 = .ok (.goto 34, 3) := by decide +kernel
theorem dX12_directionOf_30 : decode cX12_directionOf 30 = .ok (.iload_n 0, 1) := by decide +kernel
theorem dX12_directionOf_31 : decode cX12_directionOf 31 = .ok (.bipush 119, 2) := by decide +kernel
theorem dX12_directionOf_33 : decode cX12_directionOf 33 = .ok (.if_icmp .ne 7, 3) := by decide +kernel
theorem dX12_directionOf_36 : decode cX12_directionOf 36 = .ok (.iconst 3, 1) := by decide +kernel
theorem dX12_directionOf_37 : decode cX12_directionOf 37 = .ok (.goto 24, 3) := by decide +kernel
theorem dX12_directionOf_40 : decode cX12_directionOf 40 = .ok (.iload_n 0, 1) := by decide +kernel
theorem dX12_directionOf_41 : decode cX12_directionOf 41 = .ok (.bipush 117, 2) := by decide +kernel
theorem dX12_directionOf_43 : decode cX12_directionOf 43 = .ok (.if_icmp .ne 7, 3) := by decide +kernel
theorem dX12_directionOf_46 : decode cX12_directionOf 46 = .ok (.iconst 4, 1) := by decide +kernel
theorem dX12_directionOf_47 : decode cX12_directionOf 47 = .ok (.goto 14, 3) := by decide +kernel
theorem dX12_directionOf_50 : decode cX12_directionOf 50 = .ok (.iload_n 0, 1) := by decide +kernel
theorem dX12_directionOf_51 : decode cX12_directionOf 51 = .ok (.bipush 100, 2) := by decide +kernel
theorem dX12_directionOf_53 : decode cX12_directionOf 53 = .ok (.if_icmp .ne 7, 3) := by decide +kernel
theorem dX12_directionOf_56 : decode cX12_directionOf 56 = .ok (.iconst 5, 1) := by decide +kernel
theorem dX12_directionOf_57 : decode cX12_directionOf 57 = .ok (.goto 4, 3) := by decide +kernel
theorem dX12_directionOf_60 : decode cX12_directionOf 60 = .ok (.iconst (-1), 1) := by decide +kernel
theorem dX12_directionOf_61 : decode cX12_directionOf 61 = .ok (.ireturn, 1) := by decide +kernel
theorem dX12_room_0 : decode cX12_room 0 = .ok (.aload_n 0, 1) := by decide +kernel
theorem dX12_room_1 : decode cX12_room 1 = .ok (.aload_n 0, 1) := by decide +kernel
theorem dX12_room_2 : decode cX12_room 2 = .ok (.getfield 157, 3) := by decide +kernel
theorem dX12_room_5 : decode cX12_room 5 = .ok (.bipush 12, 2) := by decide +kernel
theorem dX12_room_7 : decode cX12_room 7 = .ok (.if_icmp .eq 10, 3) := by decide +kernel
theorem dX12_room_10 : decode cX12_room 10 = .ok (.aload_n 0, 1) := by decide +kernel
theorem dX12_room_11 : decode cX12_room 11 = .ok (.getfield 163, 3) := by decide +kernel
theorem dX12_room_14 : decode cX12_room 14 = .ok (.ifCond .eq 7, 3) := by decide +kernel
theorem dX12_room_17 : decode cX12_room 17 = .ok (.iconst 1, 1) := by decide +kernel
theorem dX12_room_18 : decode cX12_room 18 = .ok (.goto 4, 3) := by decide +kernel
theorem dX12_room_21 : decode cX12_room 21 = .ok (.iconst 0, 1) := by decide +kernel
theorem dX12_room_22 : decode cX12_room 22 = .ok (.invokevirtual 142, 3) := by decide +kernel
theorem dX12_room_25 : decode cX12_room 25 = .ok (.ifCond .eq 5, 3) := by decide +kernel
theorem dX12_room_28 : decode cX12_room 28 = .ok (.iconst 0, 1) := by decide +kernel
theorem dX12_room_29 : decode cX12_room 29 = .ok (.ireturn, 1) := by decide +kernel
theorem dX12_room_30 : decode cX12_room 30 = .ok (.aload_n 0, 1) := by decide +kernel
theorem dX12_room_31 : decode cX12_room 31 = .ok (.getfield 16, 3) := by decide +kernel
theorem dX12_room_34 : decode cX12_room 34 = .ok (.aload_n 0, 1) := by decide +kernel
theorem dX12_room_35 : decode cX12_room 35 = .ok (.getfield 157, 3) := by decide +kernel
theorem dX12_room_38 : decode cX12_room 38 = .ok (.iload_n 1, 1) := by decide +kernel
theorem dX12_room_39 : decode cX12_room 39 = .ok (.bastore, 1) := by decide +kernel
theorem dX12_room_40 : decode cX12_room 40 = .ok (.iconst 0, 1) := by decide +kernel
theorem dX12_room_41 : decode cX12_room 41 = .ok (.istore_n 2, 1) := by decide +kernel
theorem dX12_room_42 : decode cX12_room 42 = .ok (.iload_n 2, 1) := by decide +kernel
theorem dX12_room_43 : decode cX12_room 43 = .ok (.bipush 6, 2) := by decide +kernel
theorem dX12_room_45 : decode cX12_room 45 = .ok (.if_icmp .ge 39, 3) := by decide +kernel
theorem dX12_room_48 : decode cX12_room 48 = .ok (.aload_n 0, 1) := by decide +kernel
theorem dX12_room_49 : decode cX12_room 49 = .ok (.getfield 24, 3) := by decide +kernel
theorem dX12_room_52 : decode cX12_room 52 = .ok (.bipush 6, 2) := by decide +kernel
theorem dX12_room_54 : decode cX12_room 54 = .ok (.aload_n 0, 1) := by decide +kernel
theorem dX12_room_55 : decode cX12_room 55 = .ok (.getfield 157, 3) := by decide +kernel
theorem dX12_room_58 : decode cX12_room 58 = .ok (.imul, 1) := by decide +kernel
theorem dX12_room_59 : decode cX12_room 59 = .ok (.iload_n 2, 1) := by decide +kernel
theorem dX12_room_60 : decode cX12_room 60 = .ok (.iadd, 1) := by decide +kernel
theorem dX12_room_61 : decode cX12_room 61 = .ok (.iconst (-1), 1) := by decide +kernel
theorem dX12_room_62 : decode cX12_room 62 = .ok (.iastore, 1) := by decide +kernel
theorem dX12_room_63 : decode cX12_room 63 = .ok (.aload_n 0, 1) := by decide +kernel
theorem dX12_room_64 : decode cX12_room 64 = .ok (.getfield 27, 3) := by decide +kernel
theorem dX12_room_67 : decode cX12_room 67 = .ok (.bipush 6, 2) := by decide +kernel
theorem dX12_room_69 : decode cX12_room 69 = .ok (.aload_n 0, 1) := by decide +kernel
theorem dX12_room_70 : decode cX12_room 70 = .ok (.getfield 157, 3) := by decide +kernel
theorem dX12_room_73 : decode cX12_room 73 = .ok (.imul, 1) := by decide +kernel
theorem dX12_room_74 : decode cX12_room 74 = .ok (.iload_n 2, 1) := by decide +kernel
theorem dX12_room_75 : decode cX12_room 75 = .ok (.iadd, 1) := by decide +kernel
theorem dX12_room_76 : decode cX12_room 76 = .ok (.iconst (-1), 1) := by decide +kernel
theorem dX12_room_77 : decode cX12_room 77 = .ok (.iastore, 1) := by decide +kernel
theorem dX12_room_78 : decode cX12_room 78 = .ok (.iinc 2 1, 3) := by decide +kernel
theorem dX12_room_81 : decode cX12_room 81 = .ok (.goto (-39), 3) := by decide +kernel
theorem dX12_room_84 : decode cX12_room 84 = .ok (.aload_n 0, 1) := by decide +kernel
theorem dX12_room_85 : decode cX12_room 85 = .ok (.dup, 1) := by decide +kernel
theorem dX12_room_86 : decode cX12_room 86 = .ok (.getfield 157, 3) := by decide +kernel
theorem dX12_room_89 : decode cX12_room 89 = .ok (.iconst 1, 1) := by decide +kernel
theorem dX12_room_90 : decode cX12_room 90 = .ok (.iadd, 1) := by decide +kernel
theorem dX12_room_91 : decode cX12_room 91 = .ok (.putfield 157, 3) := by decide +kernel
theorem dX12_room_94 : decode cX12_room 94 = .ok (.aload_n 0, 1) := by decide +kernel
theorem dX12_room_95 : decode cX12_room 95 = .ok (.getfield 157, 3) := by decide +kernel
theorem dX12_room_98 : decode cX12_room 98 = .ok (.iconst 1, 1) := by decide +kernel
theorem dX12_room_99 : decode cX12_room 99 = .ok (.isub, 1) := by decide +kernel
theorem dX12_room_100 : decode cX12_room 100 = .ok (.ireturn, 1) := by decide +kernel
theorem dX12_show_0 : decode cX12_show 0 = .ok (.aload_n 0, 1) := by decide +kernel
theorem dX12_show_1 : decode cX12_show 1 = .ok (.aload_n 0, 1) := by decide +kernel
theorem dX12_show_2 : decode cX12_show 2 = .ok (.iload_n 1, 1) := by decide +kernel
theorem dX12_show_3 : decode cX12_show 3 = .ok (.invokevirtual 167, 3) := by decide +kernel
theorem dX12_show_6 : decode cX12_show 6 = .ok (.ifCond .eq 11, 3) := by decide +kernel
theorem dX12_show_9 : decode cX12_show 9 = .ok (.aload_n 0, 1) := by decide +kernel
theorem dX12_show_10 : decode cX12_show 10 = .ok (.iload_n 2, 1) := by decide +kernel
theorem dX12_show_11 : decode cX12_show 11 = .ok (.invokevirtual 170, 3) := by decide +kernel
theorem dX12_show_14 : decode cX12_show 14 = .ok (.ifCond .ne 7, 3) := by decide +kernel
theorem dX12_show_17 : decode cX12_show 17 = .ok (.iconst 1, 1) := by decide +kernel
theorem dX12_show_18 : decode cX12_show 18 = .ok (.goto 15, 3) := by decide +kernel
theorem dX12_show_21 : decode cX12_show 21 = .ok (.aload_n 0, 1) := by decide +kernel
theorem dX12_show_22 : decode cX12_show 22 = .ok (.getfield 163, 3) := by decide +kernel
theorem dX12_show_25 : decode cX12_show 25 = .ok (.ifCond .eq 7, 3) := by decide +kernel
theorem dX12_show_28 : decode cX12_show 28 = .ok (.iconst 2, 1) := by decide +kernel
theorem dX12_show_29 : decode cX12_show 29 = .ok (.goto 4, 3) := by decide +kernel
theorem dX12_show_32 : decode cX12_show 32 = .ok (.iconst 0, 1) := by decide +kernel
theorem dX12_show_33 : decode cX12_show 33 = .ok (.invokevirtual 142, 3) := by decide +kernel
theorem dX12_show_36 : decode cX12_show 36 = .ok (.ifCond .eq 5, 3) := by decide +kernel
theorem dX12_show_39 : decode cX12_show 39 = .ok (.iconst 0, 1) := by decide +kernel
theorem dX12_show_40 : decode cX12_show 40 = .ok (.ireturn, 1) := by decide +kernel
theorem dX12_show_41 : decode cX12_show 41 = .ok (.aload_n 0, 1) := by decide +kernel
theorem dX12_show_42 : decode cX12_show 42 = .ok (.getfield 20, 3) := by decide +kernel
theorem dX12_show_45 : decode cX12_show 45 = .ok (.iload_n 1, 1) := by decide +kernel
theorem dX12_show_46 : decode cX12_show 46 = .ok (.dup2, 1) := by decide +kernel
theorem dX12_show_47 : decode cX12_show 47 = .ok (.laload, 1) := by decide +kernel
theorem dX12_show_48 : decode cX12_show 48 = .ok (.lconst 1, 1) := by decide +kernel
theorem dX12_show_49 : decode cX12_show 49 = .ok (.iload_n 2, 1) := by decide +kernel
theorem dX12_show_50 : decode cX12_show 50 = .ok (.lshl, 1) := by decide +kernel
theorem dX12_show_51 : decode cX12_show 51 = .ok (.lor, 1) := by decide +kernel
theorem dX12_show_52 : decode cX12_show 52 = .ok (.lastore, 1) := by decide +kernel
theorem dX12_show_53 : decode cX12_show 53 = .ok (.aload_n 0, 1) := by decide +kernel
theorem dX12_show_54 : decode cX12_show 54 = .ok (.getfield 20, 3) := by decide +kernel
theorem dX12_show_57 : decode cX12_show 57 = .ok (.iload_n 1, 1) := by decide +kernel
theorem dX12_show_58 : decode cX12_show 58 = .ok (.laload, 1) := by decide +kernel
theorem dX12_show_59 : decode cX12_show 59 = .ok (.invokestatic 173, 3) := by decide +kernel
theorem dX12_show_62 : decode cX12_show 62 = .ok (.ireturn, 1) := by decide +kernel
theorem dX12_exit_0 : decode cX12_exit 0 = .ok (.aload_n 0, 1) := by decide +kernel
theorem dX12_exit_1 : decode cX12_exit 1 = .ok (.aload_n 0, 1) := by decide +kernel
theorem dX12_exit_2 : decode cX12_exit 2 = .ok (.iload_n 1, 1) := by decide +kernel
theorem dX12_exit_3 : decode cX12_exit 3 = .ok (.invokevirtual 167, 3) := by decide +kernel
theorem dX12_exit_6 : decode cX12_exit 6 = .ok (.ifCond .eq 11, 3) := by decide +kernel
theorem dX12_exit_9 : decode cX12_exit 9 = .ok (.aload_n 0, 1) := by decide +kernel
theorem dX12_exit_10 : decode cX12_exit 10 = .ok (.iload_n 3, 1) := by decide +kernel
theorem dX12_exit_11 : decode cX12_exit 11 = .ok (.invokevirtual 167, 3) := by decide +kernel
theorem dX12_exit_14 : decode cX12_exit 14 = .ok (.ifCond .ne 7, 3) := by decide +kernel
theorem dX12_exit_17 : decode cX12_exit 17 = .ok (.iconst 1, 1) := by decide +kernel
theorem dX12_exit_18 : decode cX12_exit 18 = .ok (.goto 27, 3) := by decide +kernel
theorem dX12_exit_21 : decode cX12_exit 21 = .ok (.iload_n 2, 1) := by decide +kernel
theorem dX12_exit_22 : decode cX12_exit 22 = .ok (.invokestatic 177, 3) := by decide +kernel
theorem dX12_exit_25 : decode cX12_exit 25 = .ok (.iconst (-1), 1) := by decide +kernel
theorem dX12_exit_26 : decode cX12_exit 26 = .ok (.if_icmp .ne 7, 3) := by decide +kernel
theorem dX12_exit_29 : decode cX12_exit 29 = .ok (.iconst 2, 1) := by decide +kernel
theorem dX12_exit_30 : decode cX12_exit 30 = .ok (.goto 15, 3) := by decide +kernel
theorem dX12_exit_33 : decode cX12_exit 33 = .ok (.aload_n 0, 1) := by decide +kernel
theorem dX12_exit_34 : decode cX12_exit 34 = .ok (.getfield 163, 3) := by decide +kernel
theorem dX12_exit_37 : decode cX12_exit 37 = .ok (.ifCond .eq 7, 3) := by decide +kernel
theorem dX12_exit_40 : decode cX12_exit 40 = .ok (.iconst 3, 1) := by decide +kernel
theorem dX12_exit_41 : decode cX12_exit 41 = .ok (.goto 4, 3) := by decide +kernel
theorem dX12_exit_44 : decode cX12_exit 44 = .ok (.iconst 0, 1) := by decide +kernel
theorem dX12_exit_45 : decode cX12_exit 45 = .ok (.invokevirtual 142, 3) := by decide +kernel
theorem dX12_exit_48 : decode cX12_exit 48 = .ok (.ifCond .eq 5, 3) := by decide +kernel
theorem dX12_exit_51 : decode cX12_exit 51 = .ok (.iconst 0, 1) := by decide +kernel
theorem dX12_exit_52 : decode cX12_exit 52 = .ok (.ireturn, 1) := by decide +kernel
theorem dX12_exit_53 : decode cX12_exit 53 = .ok (.bipush 6, 2) := by decide +kernel
theorem dX12_exit_55 : decode cX12_exit 55 = .ok (.iload_n 1, 1) := by decide +kernel
theorem dX12_exit_56 : decode cX12_exit 56 = .ok (.imul, 1) := by decide +kernel
theorem dX12_exit_57 : decode cX12_exit 57 = .ok (.iload_n 2, 1) := by decide +kernel
theorem dX12_exit_58 : decode cX12_exit 58 = .ok (.invokestatic 177, 3) := by decide +kernel
theorem dX12_exit_61 : decode cX12_exit 61 = .ok (.iadd, 1) := by decide +kernel
theorem dX12_exit_62 : decode cX12_exit 62 = .ok (.istore 4, 2) := by decide +kernel
theorem dX12_exit_64 : decode cX12_exit 64 = .ok (.aload_n 0, 1) := by decide +kernel
theorem dX12_exit_65 : decode cX12_exit 65 = .ok (.getfield 24, 3) := by decide +kernel
theorem dX12_exit_68 : decode cX12_exit 68 = .ok (.iload 4, 2) := by decide +kernel
theorem dX12_exit_70 : decode cX12_exit 70 = .ok (.iaload, 1) := by decide +kernel
theorem dX12_exit_71 : decode cX12_exit 71 = .ok (.istore 5, 2) := by decide +kernel
theorem dX12_exit_73 : decode cX12_exit 73 = .ok (.aload_n 0, 1) := by decide +kernel
theorem dX12_exit_74 : decode cX12_exit 74 = .ok (.getfield 24, 3) := by decide +kernel
theorem dX12_exit_77 : decode cX12_exit 77 = .ok (.iload 4, 2) := by decide +kernel
theorem dX12_exit_79 : decode cX12_exit 79 = .ok (.iload_n 3, 1) := by decide +kernel
theorem dX12_exit_80 : decode cX12_exit 80 = .ok (.iastore, 1) := by decide +kernel
theorem dX12_exit_81 : decode cX12_exit 81 = .ok (.aload_n 0, 1) := by decide +kernel
theorem dX12_exit_82 : decode cX12_exit 82 = .ok (.getfield 27, 3) := by decide +kernel
theorem dX12_exit_85 : decode cX12_exit 85 = .ok (.iload 4, 2) := by decide +kernel
theorem dX12_exit_87 : decode cX12_exit 87 = .ok (.iconst (-1), 1) := by decide +kernel
theorem dX12_exit_88 : decode cX12_exit 88 = .ok (.iastore, 1) := by decide +kernel
theorem dX12_exit_89 : decode cX12_exit 89 = .ok (.iload 5, 2) := by decide +kernel
theorem dX12_exit_91 : decode cX12_exit 91 = .ok (.ireturn, 1) := by decide +kernel
theorem dX12_lock_0 : decode cX12_lock 0 = .ok (.aload_n 0, 1) := by decide +kernel
theorem dX12_lock_1 : decode cX12_lock 1 = .ok (.aload_n 0, 1) := by decide +kernel
theorem dX12_lock_2 : decode cX12_lock 2 = .ok (.iload_n 1, 1) := by decide +kernel
theorem dX12_lock_3 : decode cX12_lock 3 = .ok (.invokevirtual 167, 3) := by decide +kernel
theorem dX12_lock_6 : decode cX12_lock 6 = .ok (.ifCond .eq 11, 3) := by decide +kernel
theorem dX12_lock_9 : decode cX12_lock 9 = .ok (.aload_n 0, 1) := by decide +kernel
theorem dX12_lock_10 : decode cX12_lock 10 = .ok (.iload_n 3, 1) := by decide +kernel
theorem dX12_lock_11 : decode cX12_lock 11 = .ok (.invokevirtual 181, 3) := by decide +kernel
theorem dX12_lock_14 : decode cX12_lock 14 = .ok (.ifCond .ne 7, 3) := by decide +kernel
theorem dX12_lock_17 : decode cX12_lock 17 = .ok (.iconst 1, 1) := by decide +kernel
theorem dX12_lock_18 : decode cX12_lock 18 = .ok (.goto 16, 3) := by decide +kernel
theorem dX12_lock_21 : decode cX12_lock 21 = .ok (.iload_n 2, 1) := by decide +kernel
theorem dX12_lock_22 : decode cX12_lock 22 = .ok (.invokestatic 177, 3) := by decide +kernel
theorem dX12_lock_25 : decode cX12_lock 25 = .ok (.iconst (-1), 1) := by decide +kernel
theorem dX12_lock_26 : decode cX12_lock 26 = .ok (.if_icmp .ne 7, 3) := by decide +kernel
theorem dX12_lock_29 : decode cX12_lock 29 = .ok (.iconst 2, 1) := by decide +kernel
theorem dX12_lock_30 : decode cX12_lock 30 = .ok (.goto 4, 3) := by decide +kernel
theorem dX12_lock_33 : decode cX12_lock 33 = .ok (.iconst 0, 1) := by decide +kernel
theorem dX12_lock_34 : decode cX12_lock 34 = .ok (.invokevirtual 142, 3) := by decide +kernel
theorem dX12_lock_37 : decode cX12_lock 37 = .ok (.ifCond .eq 5, 3) := by decide +kernel
theorem dX12_lock_40 : decode cX12_lock 40 = .ok (.iconst 0, 1) := by decide +kernel
theorem dX12_lock_41 : decode cX12_lock 41 = .ok (.ireturn, 1) := by decide +kernel
theorem dX12_lock_42 : decode cX12_lock 42 = .ok (.bipush 6, 2) := by decide +kernel
theorem dX12_lock_44 : decode cX12_lock 44 = .ok (.iload_n 1, 1) := by decide +kernel
theorem dX12_lock_45 : decode cX12_lock 45 = .ok (.imul, 1) := by decide +kernel
theorem dX12_lock_46 : decode cX12_lock 46 = .ok (.iload_n 2, 1) := by decide +kernel
theorem dX12_lock_47 : decode cX12_lock 47 = .ok (.invokestatic 177, 3) := by decide +kernel
theorem dX12_lock_50 : decode cX12_lock 50 = .ok (.iadd, 1) := by decide +kernel
theorem dX12_lock_51 : decode cX12_lock 51 = .ok (.istore 4, 2) := by decide +kernel
theorem dX12_lock_53 : decode cX12_lock 53 = .ok (.aload_n 0, 1) := by decide +kernel
theorem dX12_lock_54 : decode cX12_lock 54 = .ok (.aload_n 0, 1) := by decide +kernel
theorem dX12_lock_55 : decode cX12_lock 55 = .ok (.getfield 24, 3) := by decide +kernel
theorem dX12_lock_58 : decode cX12_lock 58 = .ok (.iload 4, 2) := by decide +kernel
theorem dX12_lock_60 : decode cX12_lock 60 = .ok (.iaload, 1) := by decide +kernel
theorem dX12_lock_61 : decode cX12_lock 61 = .ok (.iconst (-1), 1) := by decide +kernel
theorem dX12_lock_62 : decode cX12_lock 62 = .ok (.if_icmp .ne 7, 3) := by decide +kernel
theorem dX12_lock_65 : decode cX12_lock 65 = .ok (.iconst 3, 1) := by decide +kernel
theorem dX12_lock_66 : decode cX12_lock 66 = .ok (.goto 15, 3) := by decide +kernel
theorem dX12_lock_69 : decode cX12_lock 69 = .ok (.aload_n 0, 1) := by decide +kernel
theorem dX12_lock_70 : decode cX12_lock 70 = .ok (.getfield 163, 3) := by decide +kernel
theorem dX12_lock_73 : decode cX12_lock 73 = .ok (.ifCond .eq 7, 3) := by decide +kernel
theorem dX12_lock_76 : decode cX12_lock 76 = .ok (.iconst 4, 1) := by decide +kernel
theorem dX12_lock_77 : decode cX12_lock 77 = .ok (.goto 4, 3) := by decide +kernel
theorem dX12_lock_80 : decode cX12_lock 80 = .ok (.iconst 0, 1) := by decide +kernel
theorem dX12_lock_81 : decode cX12_lock 81 = .ok (.invokevirtual 142, 3) := by decide +kernel
theorem dX12_lock_84 : decode cX12_lock 84 = .ok (.ifCond .eq 5, 3) := by decide +kernel
theorem dX12_lock_87 : decode cX12_lock 87 = .ok (.iconst 0, 1) := by decide +kernel
theorem dX12_lock_88 : decode cX12_lock 88 = .ok (.ireturn, 1) := by decide +kernel
theorem dX12_lock_89 : decode cX12_lock 89 = .ok (.aload_n 0, 1) := by decide +kernel
theorem dX12_lock_90 : decode cX12_lock 90 = .ok (.getfield 27, 3) := by decide +kernel
theorem dX12_lock_93 : decode cX12_lock 93 = .ok (.iload 4, 2) := by decide +kernel
theorem dX12_lock_95 : decode cX12_lock 95 = .ok (.iaload, 1) := by decide +kernel
theorem dX12_lock_96 : decode cX12_lock 96 = .ok (.istore 5, 2) := by decide +kernel
theorem dX12_lock_98 : decode cX12_lock 98 = .ok (.aload_n 0, 1) := by decide +kernel
theorem dX12_lock_99 : decode cX12_lock 99 = .ok (.getfield 27, 3) := by decide +kernel
theorem dX12_lock_102 : decode cX12_lock 102 = .ok (.iload 4, 2) := by decide +kernel
theorem dX12_lock_104 : decode cX12_lock 104 = .ok (.iload_n 3, 1) := by decide +kernel
theorem dX12_lock_105 : decode cX12_lock 105 = .ok (.iastore, 1) := by decide +kernel
theorem dX12_lock_106 : decode cX12_lock 106 = .ok (.iload 5, 2) := by decide +kernel
theorem dX12_lock_108 : decode cX12_lock 108 = .ok (.ireturn, 1) := by decide +kernel
theorem dX12_thingOf_0 : decode cX12_thingOf 0 = .ok (.iconst (-1), 1) := by decide +kernel
theorem dX12_thingOf_1 : decode cX12_thingOf 1 = .ok (.istore_n 2, 1) := by decide +kernel
theorem dX12_thingOf_2 : decode cX12_thingOf 2 = .ok (.iconst 0, 1) := by decide +kernel
theorem dX12_thingOf_3 : decode cX12_thingOf 3 = .ok (.istore_n 3, 1) := by decide +kernel
theorem dX12_thingOf_4 : decode cX12_thingOf 4 = .ok (.iload_n 3, 1) := by decide +kernel
theorem dX12_thingOf_5 : decode cX12_thingOf 5 = .ok (.aload_n 0, 1) := by decide +kernel
theorem dX12_thingOf_6 : decode cX12_thingOf 6 = .ok (.getfield 160, 3) := by decide +kernel
theorem dX12_thingOf_9 : decode cX12_thingOf 9 = .ok (.if_icmp .ge 25, 3) := by decide +kernel
theorem dX12_thingOf_12 : decode cX12_thingOf 12 = .ok (.aload_n 0, 1) := by decide +kernel
theorem dX12_thingOf_13 : decode cX12_thingOf 13 = .ok (.getfield 30, 3) := by decide +kernel
theorem dX12_thingOf_16 : decode cX12_thingOf 16 = .ok (.iload_n 3, 1) := by decide +kernel
theorem dX12_thingOf_17 : decode cX12_thingOf 17 = .ok (.iaload, 1) := by decide +kernel
theorem dX12_thingOf_18 : decode cX12_thingOf 18 = .ok (.iload_n 1, 1) := by decide +kernel
theorem dX12_thingOf_19 : decode cX12_thingOf 19 = .ok (.if_icmp .ne 7, 3) := by decide +kernel
theorem dX12_thingOf_22 : decode cX12_thingOf 22 = .ok (.iload_n 3, 1) := by decide +kernel
theorem dX12_thingOf_23 : decode cX12_thingOf 23 = .ok (.goto 4, 3) := by decide +kernel
theorem dX12_thingOf_26 : decode cX12_thingOf 26 = .ok (.iload_n 2, 1) := by decide +kernel
theorem dX12_thingOf_27 : decode cX12_thingOf 27 = .ok (.istore_n 2, 1) := by decide +kernel
theorem dX12_thingOf_28 : decode cX12_thingOf 28 = .ok (.iinc 3 1, 3) := by decide +kernel
theorem dX12_thingOf_31 : decode cX12_thingOf 31 = .ok (.goto (-27), 3) := by decide +kernel
theorem dX12_thingOf_34 : decode cX12_thingOf 34 = .ok (.iload_n 2, 1) := by decide +kernel
theorem dX12_thingOf_35 : decode cX12_thingOf 35 = .ok (.ireturn, 1) := by decide +kernel
theorem dX12_thing_0 : decode cX12_thing 0 = .ok (.aload_n 0, 1) := by decide +kernel
theorem dX12_thing_1 : decode cX12_thing 1 = .ok (.aload_n 0, 1) := by decide +kernel
theorem dX12_thing_2 : decode cX12_thing 2 = .ok (.iload_n 1, 1) := by decide +kernel
theorem dX12_thing_3 : decode cX12_thing 3 = .ok (.invokevirtual 170, 3) := by decide +kernel
theorem dX12_thing_6 : decode cX12_thing 6 = .ok (.ifCond .eq 11, 3) := by decide +kernel
theorem dX12_thing_9 : decode cX12_thing 9 = .ok (.aload_n 0, 1) := by decide +kernel
theorem dX12_thing_10 : decode cX12_thing 10 = .ok (.iload_n 2, 1) := by decide +kernel
theorem dX12_thing_11 : decode cX12_thing 11 = .ok (.invokevirtual 167, 3) := by decide +kernel
theorem dX12_thing_14 : decode cX12_thing 14 = .ok (.ifCond .ne 7, 3) := by decide +kernel
theorem dX12_thing_17 : decode cX12_thing 17 = .ok (.iconst 1, 1) := by decide +kernel
theorem dX12_thing_18 : decode cX12_thing 18 = .ok (.goto 39, 3) := by decide +kernel
theorem dX12_thing_21 : decode cX12_thing 21 = .ok (.iload_n 3, 1) := by decide +kernel
theorem dX12_thing_22 : decode cX12_thing 22 = .ok (.iconst 1, 1) := by decide +kernel
theorem dX12_thing_23 : decode cX12_thing 23 = .ok (.bipush 9, 2) := by decide +kernel
theorem dX12_thing_25 : decode cX12_thing 25 = .ok (.invokestatic 135, 3) := by decide +kernel
theorem dX12_thing_28 : decode cX12_thing 28 = .ok (.ifCond .eq 24, 3) := by decide +kernel
theorem dX12_thing_31 : decode cX12_thing 31 = .ok (.iload 4, 2) := by decide +kernel
theorem dX12_thing_33 : decode cX12_thing 33 = .ok (.bipush 112, 2) := by decide +kernel
theorem dX12_thing_35 : decode cX12_thing 35 = .ok (.if_icmp .eq 21, 3) := by decide +kernel
theorem dX12_thing_38 : decode cX12_thing 38 = .ok (.iload 4, 2) := by decide +kernel
theorem dX12_thing_40 : decode cX12_thing 40 = .ok (.bipush 108, 2) := by decide +kernel
theorem dX12_thing_42 : decode cX12_thing 42 = .ok (.if_icmp .eq 14, 3) := by decide +kernel
theorem dX12_thing_45 : decode cX12_thing 45 = .ok (.iload 4, 2) := by decide +kernel
theorem dX12_thing_47 : decode cX12_thing 47 = .ok (.bipush 98, 2) := by decide +kernel
theorem dX12_thing_49 : decode cX12_thing 49 = .ok (.if_icmp .eq 7, 3) := by decide +kernel
theorem dX12_thing_52 : decode cX12_thing 52 = .ok (.iconst 2, 1) := by decide +kernel
theorem dX12_thing_53 : decode cX12_thing 53 = .ok (.goto 4, 3) := by decide +kernel
theorem dX12_thing_56 : decode cX12_thing 56 = .ok (.iconst 0, 1) := by decide +kernel
theorem dX12_thing_57 : decode cX12_thing 57 = .ok (.invokevirtual 142, 3) := by decide +kernel
theorem dX12_thing_60 : decode cX12_thing 60 = .ok (.ifCond .eq 5, 3) := by decide +kernel
theorem dX12_thing_63 : decode cX12_thing 63 = .ok (.iconst 0, 1) := by decide +kernel
theorem dX12_thing_64 : decode cX12_thing 64 = .ok (.ireturn, 1) := by decide +kernel
theorem dX12_thing_65 : decode cX12_thing 65 = .ok (.aload_n 0, 1) := by decide +kernel
theorem dX12_thing_66 : decode cX12_thing 66 = .ok (.aload_n 0, 1) := by decide +kernel
theorem dX12_thing_67 : decode cX12_thing 67 = .ok (.iload_n 1, 1) := by decide +kernel
theorem dX12_thing_68 : decode cX12_thing 68 = .ok (.invokevirtual 184, 3) := by decide +kernel
theorem dX12_thing_71 : decode cX12_thing 71 = .ok (.iconst (-1), 1) := by decide +kernel
theorem dX12_thing_72 : decode cX12_thing 72 = .ok (.if_icmp .eq 7, 3) := by decide +kernel
theorem dX12_thing_75 : decode cX12_thing 75 = .ok (.iconst 3, 1) := by decide +kernel
theorem dX12_thing_76 : decode cX12_thing 76 = .ok (.goto 24, 3) := by decide +kernel
theorem dX12_thing_79 : decode cX12_thing 79 = .ok (.aload_n 0, 1) := by decide +kernel
theorem dX12_thing_80 : decode cX12_thing 80 = .ok (.getfield 160, 3) := by decide +kernel
theorem dX12_thing_83 : decode cX12_thing 83 = .ok (.bipush 12, 2) := by decide +kernel
theorem dX12_thing_85 : decode cX12_thing 85 = .ok (.if_icmp .eq 10, 3) := by decide +kernel
theorem dX12_thing_88 : decode cX12_thing 88 = .ok (.aload_n 0, 1) := by decide +kernel
theorem dX12_thing_89 : decode cX12_thing 89 = .ok (.getfield 163, 3) := by decide +kernel
theorem dX12_thing_92 : decode cX12_thing 92 = .ok (.ifCond .eq 7, 3) := by decide +kernel
theorem dX12_thing_95 : decode cX12_thing 95 = .ok (.iconst 4, 1) := by decide +kernel
theorem dX12_thing_96 : decode cX12_thing 96 = .ok (.goto 4, 3) := by decide +kernel
theorem dX12_thing_99 : decode cX12_thing 99 = .ok (.iconst 0, 1) := by decide +kernel
theorem dX12_thing_100 : decode cX12_thing 100 = .ok (.invokevirtual 142, 3) := by decide +kernel
theorem dX12_thing_103 : decode cX12_thing 103 = .ok (.ifCond .eq 5, 3) := by decide +kernel
theorem dX12_thing_106 : decode cX12_thing 106 = .ok (.iconst 0, 1) := by decide +kernel
theorem dX12_thing_107 : decode cX12_thing 107 = .ok (.ireturn, 1) := by decide +kernel
theorem dX12_thing_108 : decode cX12_thing 108 = .ok (.aload_n 0, 1) := by decide +kernel
theorem dX12_thing_109 : decode cX12_thing 109 = .ok (.getfield 30, 3) := by decide +kernel
theorem dX12_thing_112 : decode cX12_thing 112 = .ok (.aload_n 0, 1) := by decide +kernel
theorem dX12_thing_113 : decode cX12_thing 113 = .ok (.getfield 160, 3) := by decide +kernel
theorem dX12_thing_116 : decode cX12_thing 116 = .ok (.iload_n 1, 1) := by decide +kernel
theorem dX12_thing_117 : decode cX12_thing 117 = .ok (.iastore, 1) := by decide +kernel
theorem dX12_thing_118 : decode cX12_thing 118 = .ok (.aload_n 0, 1) := by decide +kernel
theorem dX12_thing_119 : decode cX12_thing 119 = .ok (.getfield 33, 3) := by decide +kernel
theorem dX12_thing_122 : decode cX12_thing 122 = .ok (.aload_n 0, 1) := by decide +kernel
theorem dX12_thing_123 : decode cX12_thing 123 = .ok (.getfield 160, 3) := by decide +kernel
theorem dX12_thing_126 : decode cX12_thing 126 = .ok (.iload_n 2, 1) := by decide +kernel
theorem dX12_thing_127 : decode cX12_thing 127 = .ok (.iastore, 1) := by decide +kernel
theorem dX12_thing_128 : decode cX12_thing 128 = .ok (.aload_n 0, 1) := by decide +kernel
theorem dX12_thing_129 : decode cX12_thing 129 = .ok (.getfield 36, 3) := by decide +kernel
theorem dX12_thing_132 : decode cX12_thing 132 = .ok (.aload_n 0, 1) := by decide +kernel
theorem dX12_thing_133 : decode cX12_thing 133 = .ok (.getfield 160, 3) := by decide +kernel
theorem dX12_thing_136 : decode cX12_thing 136 = .ok (.iload_n 3, 1) := by decide +kernel
theorem dX12_thing_137 : decode cX12_thing 137 = .ok (.iastore, 1) := by decide +kernel
theorem dX12_thing_138 : decode cX12_thing 138 = .ok (.aload_n 0, 1) := by decide +kernel
theorem dX12_thing_139 : decode cX12_thing 139 = .ok (.getfield 39, 3) := by decide +kernel
theorem dX12_thing_142 : decode cX12_thing 142 = .ok (.aload_n 0, 1) := by decide +kernel
theorem dX12_thing_143 : decode cX12_thing 143 = .ok (.getfield 160, 3) := by decide +kernel
theorem dX12_thing_146 : decode cX12_thing 146 = .ok (.iload 4, 2) := by decide +kernel
theorem dX12_thing_148 : decode cX12_thing 148 = .ok (.castore, 1) := by decide +kernel
theorem dX12_thing_149 : decode cX12_thing 149 = .ok (.aload_n 0, 1) := by decide +kernel
theorem dX12_thing_150 : decode cX12_thing 150 = .ok (.getfield 43, 3) := by decide +kernel
theorem dX12_thing_153 : decode cX12_thing 153 = .ok (.aload_n 0, 1) := by decide +kernel
theorem dX12_thing_154 : decode cX12_thing 154 = .ok (.getfield 160, 3) := by decide +kernel
theorem dX12_thing_157 : decode cX12_thing 157 = .ok (.iload 4, 2) := by decide +kernel
theorem dX12_thing_159 : decode cX12_thing 159 = .ok (.bipush 108, 2) := by decide +kernel
theorem dX12_thing_161 : decode cX12_thing 161 = .ok (.if_icmp .ne 8, 3) := by decide +kernel
theorem dX12_thing_164 : decode cX12_thing 164 = .ok (.bipush 10, 2) := by decide +kernel
theorem dX12_thing_166 : decode cX12_thing 166 = .ok (.goto 4, 3) := by decide +kernel
theorem dX12_thing_169 : decode cX12_thing 169 = .ok (.iconst 0, 1) := by decide +kernel
theorem dX12_thing_170 : decode cX12_thing 170 = .ok (.iastore, 1) := by decide +kernel
theorem dX12_thing_171 : decode cX12_thing 171 = .ok (.aload_n 0, 1) := by decide +kernel
theorem dX12_thing_172 : decode cX12_thing 172 = .ok (.dup, 1) := by decide +kernel
theorem dX12_thing_173 : decode cX12_thing 173 = .ok (.getfield 160, 3) := by decide +kernel
theorem dX12_thing_176 : decode cX12_thing 176 = .ok (.iconst 1, 1) := by decide +kernel
theorem dX12_thing_177 : decode cX12_thing 177 = .ok (.iadd, 1) := by decide +kernel
theorem dX12_thing_178 : decode cX12_thing 178 = .ok (.putfield 160, 3) := by decide +kernel
theorem dX12_thing_181 : decode cX12_thing 181 = .ok (.aload_n 0, 1) := by decide +kernel
theorem dX12_thing_182 : decode cX12_thing 182 = .ok (.getfield 160, 3) := by decide +kernel
theorem dX12_thing_185 : decode cX12_thing 185 = .ok (.iconst 1, 1) := by decide +kernel
theorem dX12_thing_186 : decode cX12_thing 186 = .ok (.isub, 1) := by decide +kernel
theorem dX12_thing_187 : decode cX12_thing 187 = .ok (.ireturn, 1) := by decide +kernel
theorem dX12_fuel_0 : decode cX12_fuel 0 = .ok (.aload_n 0, 1) := by decide +kernel
theorem dX12_fuel_1 : decode cX12_fuel 1 = .ok (.aload_n 0, 1) := by decide +kernel
theorem dX12_fuel_2 : decode cX12_fuel 2 = .ok (.iload_n 1, 1) := by decide +kernel
theorem dX12_fuel_3 : decode cX12_fuel 3 = .ok (.invokevirtual 181, 3) := by decide +kernel
theorem dX12_fuel_6 : decode cX12_fuel 6 = .ok (.ifCond .ne 7, 3) := by decide +kernel
theorem dX12_fuel_9 : decode cX12_fuel 9 = .ok (.iconst 1, 1) := by decide +kernel
theorem dX12_fuel_10 : decode cX12_fuel 10 = .ok (.goto 44, 3) := by decide +kernel
theorem dX12_fuel_13 : decode cX12_fuel 13 = .ok (.iload_n 2, 1) := by decide +kernel
theorem dX12_fuel_14 : decode cX12_fuel 14 = .ok (.iconst 0, 1) := by decide +kernel
theorem dX12_fuel_15 : decode cX12_fuel 15 = .ok (.bipush 99, 2) := by decide +kernel
theorem dX12_fuel_17 : decode cX12_fuel 17 = .ok (.invokestatic 135, 3) := by decide +kernel
theorem dX12_fuel_20 : decode cX12_fuel 20 = .ok (.ifCond .ne 7, 3) := by decide +kernel
theorem dX12_fuel_23 : decode cX12_fuel 23 = .ok (.iconst 2, 1) := by decide +kernel
theorem dX12_fuel_24 : decode cX12_fuel 24 = .ok (.goto 30, 3) := by decide +kernel
theorem dX12_fuel_27 : decode cX12_fuel 27 = .ok (.aload_n 0, 1) := by decide +kernel
theorem dX12_fuel_28 : decode cX12_fuel 28 = .ok (.getfield 39, 3) := by decide +kernel
theorem dX12_fuel_31 : decode cX12_fuel 31 = .ok (.iload_n 1, 1) := by decide +kernel
theorem dX12_fuel_32 : decode cX12_fuel 32 = .ok (.caload, 1) := by decide +kernel
theorem dX12_fuel_33 : decode cX12_fuel 33 = .ok (.bipush 108, 2) := by decide +kernel
theorem dX12_fuel_35 : decode cX12_fuel 35 = .ok (.if_icmp .eq 7, 3) := by decide +kernel
theorem dX12_fuel_38 : decode cX12_fuel 38 = .ok (.iconst 3, 1) := by decide +kernel
theorem dX12_fuel_39 : decode cX12_fuel 39 = .ok (.goto 15, 3) := by decide +kernel
theorem dX12_fuel_42 : decode cX12_fuel 42 = .ok (.aload_n 0, 1) := by decide +kernel
theorem dX12_fuel_43 : decode cX12_fuel 43 = .ok (.getfield 163, 3) := by decide +kernel
theorem dX12_fuel_46 : decode cX12_fuel 46 = .ok (.ifCond .eq 7, 3) := by decide +kernel
theorem dX12_fuel_49 : decode cX12_fuel 49 = .ok (.iconst 4, 1) := by decide +kernel
theorem dX12_fuel_50 : decode cX12_fuel 50 = .ok (.goto 4, 3) := by decide +kernel
theorem dX12_fuel_53 : decode cX12_fuel 53 = .ok (.iconst 0, 1) := by decide +kernel
theorem dX12_fuel_54 : decode cX12_fuel 54 = .ok (.invokevirtual 142, 3) := by decide +kernel
theorem dX12_fuel_57 : decode cX12_fuel 57 = .ok (.ifCond .eq 5, 3) := by decide +kernel
theorem dX12_fuel_60 : decode cX12_fuel 60 = .ok (.iconst 0, 1) := by decide +kernel
theorem dX12_fuel_61 : decode cX12_fuel 61 = .ok (.ireturn, 1) := by decide +kernel
theorem dX12_fuel_62 : decode cX12_fuel 62 = .ok (.aload_n 0, 1) := by decide +kernel
theorem dX12_fuel_63 : decode cX12_fuel 63 = .ok (.getfield 43, 3) := by decide +kernel
theorem dX12_fuel_66 : decode cX12_fuel 66 = .ok (.iload_n 1, 1) := by decide +kernel
theorem dX12_fuel_67 : decode cX12_fuel 67 = .ok (.iaload, 1) := by decide +kernel
theorem dX12_fuel_68 : decode cX12_fuel 68 = .ok (.istore_n 3, 1) := by decide +kernel
theorem dX12_fuel_69 : decode cX12_fuel 69 = .ok (.aload_n 0, 1) := by decide +kernel
theorem dX12_fuel_70 : decode cX12_fuel 70 = .ok (.getfield 43, 3) := by decide +kernel
theorem dX12_fuel_73 : decode cX12_fuel 73 = .ok (.iload_n 1, 1) := by decide +kernel
theorem dX12_fuel_74 : decode cX12_fuel 74 = .ok (.iload_n 2, 1) := by decide +kernel
theorem dX12_fuel_75 : decode cX12_fuel 75 = .ok (.iastore, 1) := by decide +kernel
theorem dX12_fuel_76 : decode cX12_fuel 76 = .ok (.iload_n 3, 1) := by decide +kernel
theorem dX12_fuel_77 : decode cX12_fuel 77 = .ok (.ireturn, 1) := by decide +kernel
theorem dX12_tell_0 : decode cX12_tell 0 = .ok (.aload_n 0, 1) := by decide +kernel
theorem dX12_tell_1 : decode cX12_tell 1 = .ok (.aload_n 0, 1) := by decide +kernel
theorem dX12_tell_2 : decode cX12_tell 2 = .ok (.iload_n 1, 1) := by decide +kernel
theorem dX12_tell_3 : decode cX12_tell 3 = .ok (.invokevirtual 181, 3) := by decide +kernel
theorem dX12_tell_6 : decode cX12_tell 6 = .ok (.ifCond .eq 11, 3) := by decide +kernel
theorem dX12_tell_9 : decode cX12_tell 9 = .ok (.aload_n 0, 1) := by decide +kernel
theorem dX12_tell_10 : decode cX12_tell 10 = .ok (.iload_n 2, 1) := by decide +kernel
theorem dX12_tell_11 : decode cX12_tell 11 = .ok (.invokevirtual 170, 3) := by decide +kernel
theorem dX12_tell_14 : decode cX12_tell 14 = .ok (.ifCond .ne 7, 3) := by decide +kernel
theorem dX12_tell_17 : decode cX12_tell 17 = .ok (.iconst 1, 1) := by decide +kernel
theorem dX12_tell_18 : decode cX12_tell 18 = .ok (.goto 15, 3) := by decide +kernel
theorem dX12_tell_21 : decode cX12_tell 21 = .ok (.aload_n 0, 1) := by decide +kernel
theorem dX12_tell_22 : decode cX12_tell 22 = .ok (.getfield 163, 3) := by decide +kernel
theorem dX12_tell_25 : decode cX12_tell 25 = .ok (.ifCond .eq 7, 3) := by decide +kernel
theorem dX12_tell_28 : decode cX12_tell 28 = .ok (.iconst 2, 1) := by decide +kernel
theorem dX12_tell_29 : decode cX12_tell 29 = .ok (.goto 4, 3) := by decide +kernel
theorem dX12_tell_32 : decode cX12_tell 32 = .ok (.iconst 0, 1) := by decide +kernel
theorem dX12_tell_33 : decode cX12_tell 33 = .ok (.invokevirtual 142, 3) := by decide +kernel
theorem dX12_tell_36 : decode cX12_tell 36 = .ok (.ifCond .eq 5, 3) := by decide +kernel
theorem dX12_tell_39 : decode cX12_tell 39 = .ok (.iconst 0, 1) := by decide +kernel
theorem dX12_tell_40 : decode cX12_tell 40 = .ok (.ireturn, 1) := by decide +kernel
theorem dX12_tell_41 : decode cX12_tell 41 = .ok (.aload_n 0, 1) := by decide +kernel
theorem dX12_tell_42 : decode cX12_tell 42 = .ok (.getfield 46, 3) := by decide +kernel
theorem dX12_tell_45 : decode cX12_tell 45 = .ok (.iload_n 1, 1) := by decide +kernel
theorem dX12_tell_46 : decode cX12_tell 46 = .ok (.dup2, 1) := by decide +kernel
theorem dX12_tell_47 : decode cX12_tell 47 = .ok (.laload, 1) := by decide +kernel
theorem dX12_tell_48 : decode cX12_tell 48 = .ok (.lconst 1, 1) := by decide +kernel
theorem dX12_tell_49 : decode cX12_tell 49 = .ok (.iload_n 2, 1) := by decide +kernel
theorem dX12_tell_50 : decode cX12_tell 50 = .ok (.lshl, 1) := by decide +kernel
theorem dX12_tell_51 : decode cX12_tell 51 = .ok (.lor, 1) := by decide +kernel
theorem dX12_tell_52 : decode cX12_tell 52 = .ok (.lastore, 1) := by decide +kernel
theorem dX12_tell_53 : decode cX12_tell 53 = .ok (.aload_n 0, 1) := by decide +kernel
theorem dX12_tell_54 : decode cX12_tell 54 = .ok (.getfield 46, 3) := by decide +kernel
theorem dX12_tell_57 : decode cX12_tell 57 = .ok (.iload_n 1, 1) := by decide +kernel
theorem dX12_tell_58 : decode cX12_tell 58 = .ok (.laload, 1) := by decide +kernel
theorem dX12_tell_59 : decode cX12_tell 59 = .ok (.invokestatic 173, 3) := by decide +kernel
theorem dX12_tell_62 : decode cX12_tell 62 = .ok (.ireturn, 1) := by decide +kernel
theorem dX12_goal_0 : decode cX12_goal 0 = .ok (.aload_n 0, 1) := by decide +kernel
theorem dX12_goal_1 : decode cX12_goal 1 = .ok (.aload_n 0, 1) := by decide +kernel
theorem dX12_goal_2 : decode cX12_goal 2 = .ok (.iload_n 1, 1) := by decide +kernel
theorem dX12_goal_3 : decode cX12_goal 3 = .ok (.invokevirtual 181, 3) := by decide +kernel
theorem dX12_goal_6 : decode cX12_goal 6 = .ok (.ifCond .eq 11, 3) := by decide +kernel
theorem dX12_goal_9 : decode cX12_goal 9 = .ok (.aload_n 0, 1) := by decide +kernel
theorem dX12_goal_10 : decode cX12_goal 10 = .ok (.iload_n 2, 1) := by decide +kernel
theorem dX12_goal_11 : decode cX12_goal 11 = .ok (.invokevirtual 167, 3) := by decide +kernel
theorem dX12_goal_14 : decode cX12_goal 14 = .ok (.ifCond .ne 7, 3) := by decide +kernel
theorem dX12_goal_17 : decode cX12_goal 17 = .ok (.iconst 1, 1) := by decide +kernel
theorem dX12_goal_18 : decode cX12_goal 18 = .ok (.goto 24, 3) := by decide +kernel
theorem dX12_goal_21 : decode cX12_goal 21 = .ok (.aload_n 0, 1) := by decide +kernel
theorem dX12_goal_22 : decode cX12_goal 22 = .ok (.getfield 187, 3) := by decide +kernel
theorem dX12_goal_25 : decode cX12_goal 25 = .ok (.bipush 6, 2) := by decide +kernel
theorem dX12_goal_27 : decode cX12_goal 27 = .ok (.if_icmp .eq 10, 3) := by decide +kernel
theorem dX12_goal_30 : decode cX12_goal 30 = .ok (.aload_n 0, 1) := by decide +kernel
theorem dX12_goal_31 : decode cX12_goal 31 = .ok (.getfield 163, 3) := by decide +kernel
theorem dX12_goal_34 : decode cX12_goal 34 = .ok (.ifCond .eq 7, 3) := by decide +kernel
theorem dX12_goal_37 : decode cX12_goal 37 = .ok (.iconst 2, 1) := by decide +kernel
theorem dX12_goal_38 : decode cX12_goal 38 = .ok (.goto 4, 3) := by decide +kernel
theorem dX12_goal_41 : decode cX12_goal 41 = .ok (.iconst 0, 1) := by decide +kernel
theorem dX12_goal_42 : decode cX12_goal 42 = .ok (.invokevirtual 142, 3) := by decide +kernel
theorem dX12_goal_45 : decode cX12_goal 45 = .ok (.ifCond .eq 5, 3) := by decide +kernel
theorem dX12_goal_48 : decode cX12_goal 48 = .ok (.iconst 0, 1) := by decide +kernel
theorem dX12_goal_49 : decode cX12_goal 49 = .ok (.ireturn, 1) := by decide +kernel
theorem dX12_goal_50 : decode cX12_goal 50 = .ok (.aload_n 0, 1) := by decide +kernel
theorem dX12_goal_51 : decode cX12_goal 51 = .ok (.getfield 49, 3) := by decide +kernel
theorem dX12_goal_54 : decode cX12_goal 54 = .ok (.aload_n 0, 1) := by decide +kernel
theorem dX12_goal_55 : decode cX12_goal 55 = .ok (.getfield 187, 3) := by decide +kernel
theorem dX12_goal_58 : decode cX12_goal 58 = .ok (.iload_n 1, 1) := by decide +kernel
theorem dX12_goal_59 : decode cX12_goal 59 = .ok (.iastore, 1) := by decide +kernel
theorem dX12_goal_60 : decode cX12_goal 60 = .ok (.aload_n 0, 1) := by decide +kernel
theorem dX12_goal_61 : decode cX12_goal 61 = .ok (.getfield 52, 3) := by decide +kernel
theorem dX12_goal_64 : decode cX12_goal 64 = .ok (.aload_n 0, 1) := by decide +kernel
theorem dX12_goal_65 : decode cX12_goal 65 = .ok (.getfield 187, 3) := by decide +kernel
theorem dX12_goal_68 : decode cX12_goal 68 = .ok (.iload_n 2, 1) := by decide +kernel
theorem dX12_goal_69 : decode cX12_goal 69 = .ok (.iastore, 1) := by decide +kernel
theorem dX12_goal_70 : decode cX12_goal 70 = .ok (.aload_n 0, 1) := by decide +kernel
theorem dX12_goal_71 : decode cX12_goal 71 = .ok (.dup, 1) := by decide +kernel
theorem dX12_goal_72 : decode cX12_goal 72 = .ok (.getfield 187, 3) := by decide +kernel
theorem dX12_goal_75 : decode cX12_goal 75 = .ok (.iconst 1, 1) := by decide +kernel
theorem dX12_goal_76 : decode cX12_goal 76 = .ok (.iadd, 1) := by decide +kernel
theorem dX12_goal_77 : decode cX12_goal 77 = .ok (.putfield 187, 3) := by decide +kernel
theorem dX12_goal_80 : decode cX12_goal 80 = .ok (.aload_n 0, 1) := by decide +kernel
theorem dX12_goal_81 : decode cX12_goal 81 = .ok (.getfield 187, 3) := by decide +kernel
theorem dX12_goal_84 : decode cX12_goal 84 = .ok (.ireturn, 1) := by decide +kernel
theorem dX12_takesUp_0 : decode cX12_takesUp 0 = .ok (.aload_n 0, 1) := by decide +kernel
theorem dX12_takesUp_1 : decode cX12_takesUp 1 = .ok (.aload_n 0, 1) := by decide +kernel
theorem dX12_takesUp_2 : decode cX12_takesUp 2 = .ok (.getfield 55, 3) := by decide +kernel
theorem dX12_takesUp_5 : decode cX12_takesUp 5 = .ok (.iload_n 1, 1) := by decide +kernel
theorem dX12_takesUp_6 : decode cX12_takesUp 6 = .ok (.iaload, 1) := by decide +kernel
theorem dX12_takesUp_7 : decode cX12_takesUp 7 = .ok (.putfield 190, 3) := by decide +kernel
theorem dX12_takesUp_10 : decode cX12_takesUp 10 = .ok (.aload_n 0, 1) := by decide +kernel
theorem dX12_takesUp_11 : decode cX12_takesUp 11 = .ok (.lconst 0, 1) := by decide +kernel
theorem dX12_takesUp_12 : decode cX12_takesUp 12 = .ok (.putfield 193, 3) := by decide +kernel
theorem dX12_takesUp_15 : decode cX12_takesUp 15 = .ok (.iconst 0, 1) := by decide +kernel
theorem dX12_takesUp_16 : decode cX12_takesUp 16 = .ok (.istore_n 2, 1) := by decide +kernel
theorem dX12_takesUp_17 : decode cX12_takesUp 17 = .ok (.iload_n 2, 1) := by decide +kernel
theorem dX12_takesUp_18 : decode cX12_takesUp 18 = .ok (.aload_n 0, 1) := by decide +kernel
theorem dX12_takesUp_19 : decode cX12_takesUp 19 = .ok (.getfield 160, 3) := by decide +kernel
theorem dX12_takesUp_22 : decode cX12_takesUp 22 = .ok (.if_icmp .ge 60, 3) := by decide +kernel
theorem dX12_takesUp_25 : decode cX12_takesUp 25 = .ok (.aload_n 0, 1) := by decide +kernel
theorem dX12_takesUp_26 : decode cX12_takesUp 26 = .ok (.getfield 91, 3) := by decide +kernel
theorem dX12_takesUp_29 : decode cX12_takesUp 29 = .ok (.iload_n 2, 1) := by decide +kernel
theorem dX12_takesUp_30 : decode cX12_takesUp 30 = .ok (.aload_n 0, 1) := by decide +kernel
theorem dX12_takesUp_31 : decode cX12_takesUp 31 = .ok (.getfield 58, 3) := by decide +kernel
theorem dX12_takesUp_34 : decode cX12_takesUp 34 = .ok (.bipush 12, 2) := by decide +kernel
theorem dX12_takesUp_36 : decode cX12_takesUp 36 = .ok (.iload_n 1, 1) := by decide +kernel
theorem dX12_takesUp_37 : decode cX12_takesUp 37 = .ok (.imul, 1) := by decide +kernel
theorem dX12_takesUp_38 : decode cX12_takesUp 38 = .ok (.iload_n 2, 1) := by decide +kernel
theorem dX12_takesUp_39 : decode cX12_takesUp 39 = .ok (.iadd, 1) := by decide +kernel
theorem dX12_takesUp_40 : decode cX12_takesUp 40 = .ok (.iaload, 1) := by decide +kernel
theorem dX12_takesUp_41 : decode cX12_takesUp 41 = .ok (.iastore, 1) := by decide +kernel
theorem dX12_takesUp_42 : decode cX12_takesUp 42 = .ok (.aload_n 0, 1) := by decide +kernel
theorem dX12_takesUp_43 : decode cX12_takesUp 43 = .ok (.getfield 94, 3) := by decide +kernel
theorem dX12_takesUp_46 : decode cX12_takesUp 46 = .ok (.iload_n 2, 1) := by decide +kernel
theorem dX12_takesUp_47 : decode cX12_takesUp 47 = .ok (.aload_n 0, 1) := by decide +kernel
theorem dX12_takesUp_48 : decode cX12_takesUp 48 = .ok (.getfield 61, 3) := by decide +kernel
theorem dX12_takesUp_51 : decode cX12_takesUp 51 = .ok (.bipush 12, 2) := by decide +kernel
theorem dX12_takesUp_53 : decode cX12_takesUp 53 = .ok (.iload_n 1, 1) := by decide +kernel
theorem dX12_takesUp_54 : decode cX12_takesUp 54 = .ok (.imul, 1) := by decide +kernel
theorem dX12_takesUp_55 : decode cX12_takesUp 55 = .ok (.iload_n 2, 1) := by decide +kernel
theorem dX12_takesUp_56 : decode cX12_takesUp 56 = .ok (.iadd, 1) := by decide +kernel
theorem dX12_takesUp_57 : decode cX12_takesUp 57 = .ok (.baload, 1) := by decide +kernel
theorem dX12_takesUp_58 : decode cX12_takesUp 58 = .ok (.bastore, 1) := by decide +kernel
theorem dX12_takesUp_59 : decode cX12_takesUp 59 = .ok (.aload_n 0, 1) := by decide +kernel
theorem dX12_takesUp_60 : decode cX12_takesUp 60 = .ok (.getfield 97, 3) := by decide +kernel
theorem dX12_takesUp_63 : decode cX12_takesUp 63 = .ok (.iload_n 2, 1) := by decide +kernel
theorem dX12_takesUp_64 : decode cX12_takesUp 64 = .ok (.aload_n 0, 1) := by decide +kernel
theorem dX12_takesUp_65 : decode cX12_takesUp 65 = .ok (.getfield 64, 3) := by decide +kernel
theorem dX12_takesUp_68 : decode cX12_takesUp 68 = .ok (.bipush 12, 2) := by decide +kernel
theorem dX12_takesUp_70 : decode cX12_takesUp 70 = .ok (.iload_n 1, 1) := by decide +kernel
theorem dX12_takesUp_71 : decode cX12_takesUp 71 = .ok (.imul, 1) := by decide +kernel
theorem dX12_takesUp_72 : decode cX12_takesUp 72 = .ok (.iload_n 2, 1) := by decide +kernel
theorem dX12_takesUp_73 : decode cX12_takesUp 73 = .ok (.iadd, 1) := by decide +kernel
theorem dX12_takesUp_74 : decode cX12_takesUp 74 = .ok (.iaload, 1) := by decide +kernel
theorem dX12_takesUp_75 : decode cX12_takesUp 75 = .ok (.iastore, 1) := by decide +kernel
theorem dX12_takesUp_76 : decode cX12_takesUp 76 = .ok (.iinc 2 1, 3) := by decide +kernel
theorem dX12_takesUp_79 : decode cX12_takesUp 79 = .ok (.goto (-62), 3) := by decide +kernel
theorem dX12_takesUp_82 : decode cX12_takesUp 82 = .ok (.return_, 1) := by decide +kernel
theorem dX12_isHeld_0 : decode cX12_isHeld 0 = .ok (.aload_n 0, 1) := by decide +kernel
theorem dX12_isHeld_1 : decode cX12_isHeld 1 = .ok (.getfield 91, 3) := by decide +kernel
theorem dX12_isHeld_4 : decode cX12_isHeld 4 = .ok (.iload_n 1, 1) := by decide +kernel
theorem dX12_isHeld_5 : decode cX12_isHeld 5 = .ok (.iaload, 1) := by decide +kernel
theorem dX12_isHeld_6 : decode cX12_isHeld 6 = .ok (.bipush 100, 2) := by decide +kernel
theorem dX12_isHeld_8 : decode cX12_isHeld 8 = .ok (.if_icmp .eq 53, 3) := by decide +kernel
theorem dX12_isHeld_11 : decode cX12_isHeld 11 = .ok (.aload_n 0, 1) := by decide +kernel
theorem dX12_isHeld_12 : decode cX12_isHeld 12 = .ok (.getfield 91, 3) := by decide +kernel
theorem dX12_isHeld_15 : decode cX12_isHeld 15 = .ok (.iload_n 1, 1) := by decide +kernel
theorem dX12_isHeld_16 : decode cX12_isHeld 16 = .ok (.iaload, 1) := by decide +kernel
theorem dX12_isHeld_17 : decode cX12_isHeld 17 = .ok (.sipush 200, 3) := by decide +kernel
theorem dX12_isHeld_20 : decode cX12_isHeld 20 = .ok (.if_icmp .lt 45, 3) := by decide +kernel
theorem dX12_isHeld_23 : decode cX12_isHeld 23 = .ok (.aload_n 0, 1) := by decide +kernel
theorem dX12_isHeld_24 : decode cX12_isHeld 24 = .ok (.getfield 91, 3) := by decide +kernel
theorem dX12_isHeld_27 : decode cX12_isHeld 27 = .ok (.aload_n 0, 1) := by decide +kernel
theorem dX12_isHeld_28 : decode cX12_isHeld 28 = .ok (.getfield 91, 3) := by decide +kernel
theorem dX12_isHeld_31 : decode cX12_isHeld 31 = .ok (.iload_n 1, 1) := by decide +kernel
theorem dX12_isHeld_32 : decode cX12_isHeld 32 = .ok (.iaload, 1) := by decide +kernel
theorem dX12_isHeld_33 : decode cX12_isHeld 33 = .ok (.sipush 200, 3) := by decide +kernel
theorem dX12_isHeld_36 : decode cX12_isHeld 36 = .ok (.isub, 1) := by decide +kernel
theorem dX12_isHeld_37 : decode cX12_isHeld 37 = .ok (.iaload, 1) := by decide +kernel
theorem dX12_isHeld_38 : decode cX12_isHeld 38 = .ok (.bipush 100, 2) := by decide +kernel
theorem dX12_isHeld_40 : decode cX12_isHeld 40 = .ok (.if_icmp .ne 25, 3) := by decide +kernel
theorem dX12_isHeld_43 : decode cX12_isHeld 43 = .ok (.aload_n 0, 1) := by decide +kernel
theorem dX12_isHeld_44 : decode cX12_isHeld 44 = .ok (.getfield 94, 3) := by decide +kernel
theorem dX12_isHeld_47 : decode cX12_isHeld 47 = .ok (.aload_n 0, 1) := by decide +kernel
theorem dX12_isHeld_48 : decode cX12_isHeld 48 = .ok (.getfield 91, 3) := by decide +kernel
theorem dX12_isHeld_51 : decode cX12_isHeld 51 = .ok (.iload_n 1, 1) := by decide +kernel
theorem dX12_isHeld_52 : decode cX12_isHeld 52 = .ok (.iaload, 1) := by decide +kernel
theorem dX12_isHeld_53 : decode cX12_isHeld 53 = .ok (.sipush 200, 3) := by decide +kernel
theorem dX12_isHeld_56 : decode cX12_isHeld 56 = .ok (.isub, 1) := by decide +kernel
theorem dX12_isHeld_57 : decode cX12_isHeld 57 = .ok (.baload, 1) := by decide +kernel
theorem dX12_isHeld_58 : decode cX12_isHeld 58 = .ok (.ifCond .eq 7, 3) := by decide +kernel
theorem dX12_isHeld_61 : decode cX12_isHeld 61 = .ok (.iconst 1, 1) := by decide +kernel
theorem dX12_isHeld_62 : decode cX12_isHeld 62 = .ok (.goto 4, 3) := by decide +kernel
theorem dX12_isHeld_65 : decode cX12_isHeld 65 = .ok (.iconst 0, 1) := by decide +kernel
theorem dX12_isHeld_66 : decode cX12_isHeld 66 = .ok (.ireturn, 1) := by decide +kernel
theorem dX12_isAtHand_0 : decode cX12_isAtHand 0 = .ok (.aload_n 0, 1) := by decide +kernel
theorem dX12_isAtHand_1 : decode cX12_isAtHand 1 = .ok (.getfield 91, 3) := by decide +kernel
theorem dX12_isAtHand_4 : decode cX12_isAtHand 4 = .ok (.iload_n 1, 1) := by decide +kernel
theorem dX12_isAtHand_5 : decode cX12_isAtHand 5 = .ok (.iaload, 1) := by decide +kernel
theorem dX12_isAtHand_6 : decode cX12_isAtHand 6 = .ok (.sipush 200, 3) := by decide +kernel
theorem dX12_isAtHand_9 : decode cX12_isAtHand 9 = .ok (.if_icmp .lt 16, 3) := by decide +kernel
theorem dX12_isAtHand_12 : decode cX12_isAtHand 12 = .ok (.aload_n 0, 1) := by decide +kernel
theorem dX12_isAtHand_13 : decode cX12_isAtHand 13 = .ok (.getfield 91, 3) := by decide +kernel
theorem dX12_isAtHand_16 : decode cX12_isAtHand 16 = .ok (.iload_n 1, 1) := by decide +kernel
theorem dX12_isAtHand_17 : decode cX12_isAtHand 17 = .ok (.iaload, 1) := by decide +kernel
theorem dX12_isAtHand_18 : decode cX12_isAtHand 18 = .ok (.sipush 200, 3) := by decide +kernel
theorem dX12_isAtHand_21 : decode cX12_isAtHand 21 = .ok (.isub, 1) := by decide +kernel
theorem dX12_isAtHand_22 : decode cX12_isAtHand 22 = .ok (.goto 4, 3) := by decide +kernel
theorem dX12_isAtHand_25 : decode cX12_isAtHand 25 = .ok (.iload_n 1, 1) := by decide +kernel
theorem dX12_isAtHand_26 : decode cX12_isAtHand 26 = .ok (.istore_n 2, 1) := by decide +kernel
theorem dX12_isAtHand_27 : decode cX12_isAtHand 27 = .ok (.iload_n 2, 1) := by decide +kernel
theorem dX12_isAtHand_28 : decode cX12_isAtHand 28 = .ok (.iload_n 1, 1) := by decide +kernel
theorem dX12_isAtHand_29 : decode cX12_isAtHand 29 = .ok (.if_icmp .eq 12, 3) := by decide +kernel
theorem dX12_isAtHand_32 : decode cX12_isAtHand 32 = .ok (.aload_n 0, 1) := by decide +kernel
theorem dX12_isAtHand_33 : decode cX12_isAtHand 33 = .ok (.getfield 94, 3) := by decide +kernel
theorem dX12_isAtHand_36 : decode cX12_isAtHand 36 = .ok (.iload_n 2, 1) := by decide +kernel
theorem dX12_isAtHand_37 : decode cX12_isAtHand 37 = .ok (.baload, 1) := by decide +kernel
theorem dX12_isAtHand_38 : decode cX12_isAtHand 38 = .ok (.ifCond .eq 31, 3) := by decide +kernel
theorem dX12_isAtHand_41 : decode cX12_isAtHand 41 = .ok (.aload_n 0, 1) := by decide +kernel
theorem dX12_isAtHand_42 : decode cX12_isAtHand 42 = .ok (.getfield 91, 3) := by decide +kernel
theorem dX12_isAtHand_45 : decode cX12_isAtHand 45 = .ok (.iload_n 2, 1) := by decide +kernel
theorem dX12_isAtHand_46 : decode cX12_isAtHand 46 = .ok (.iaload, 1) := by decide +kernel
theorem dX12_isAtHand_47 : decode cX12_isAtHand 47 = .ok (.bipush 100, 2) := by decide +kernel
theorem dX12_isAtHand_49 : decode cX12_isAtHand 49 = .ok (.if_icmp .eq 16, 3) := by decide +kernel
theorem dX12_isAtHand_52 : decode cX12_isAtHand 52 = .ok (.aload_n 0, 1) := by decide +kernel
theorem dX12_isAtHand_53 : decode cX12_isAtHand 53 = .ok (.getfield 91, 3) := by decide +kernel
theorem dX12_isAtHand_56 : decode cX12_isAtHand 56 = .ok (.iload_n 2, 1) := by decide +kernel
theorem dX12_isAtHand_57 : decode cX12_isAtHand 57 = .ok (.iaload, 1) := by decide +kernel
theorem dX12_isAtHand_58 : decode cX12_isAtHand 58 = .ok (.aload_n 0, 1) := by decide +kernel
theorem dX12_isAtHand_59 : decode cX12_isAtHand 59 = .ok (.getfield 190, 3) := by decide +kernel
theorem dX12_isAtHand_62 : decode cX12_isAtHand 62 = .ok (.if_icmp .ne 7, 3) := by decide +kernel
theorem dX12_isAtHand_65 : decode cX12_isAtHand 65 = .ok (.iconst 1, 1) := by decide +kernel
theorem dX12_isAtHand_66 : decode cX12_isAtHand 66 = .ok (.goto 4, 3) := by decide +kernel
theorem dX12_isAtHand_69 : decode cX12_isAtHand 69 = .ok (.iconst 0, 1) := by decide +kernel
theorem dX12_isAtHand_70 : decode cX12_isAtHand 70 = .ok (.ireturn, 1) := by decide +kernel
theorem dX12_isBrightHere_0 : decode cX12_isBrightHere 0 = .ok (.aload_n 0, 1) := by decide +kernel
theorem dX12_isBrightHere_1 : decode cX12_isBrightHere 1 = .ok (.getfield 16, 3) := by decide +kernel
theorem dX12_isBrightHere_4 : decode cX12_isBrightHere 4 = .ok (.aload_n 0, 1) := by decide +kernel
theorem dX12_isBrightHere_5 : decode cX12_isBrightHere 5 = .ok (.getfield 190, 3) := by decide +kernel
theorem dX12_isBrightHere_8 : decode cX12_isBrightHere 8 = .ok (.baload, 1) := by decide +kernel
theorem dX12_isBrightHere_9 : decode cX12_isBrightHere 9 = .ok (.ifCond .ne 7, 3) := by decide +kernel
theorem dX12_isBrightHere_12 : decode cX12_isBrightHere 12 = .ok (.iconst 1, 1) := by decide +kernel
theorem dX12_isBrightHere_13 : decode cX12_isBrightHere 13 = .ok (.goto 4, 3) := by decide +kernel
theorem dX12_isBrightHere_16 : decode cX12_isBrightHere 16 = .ok (.iconst 0, 1) := by decide +kernel
theorem dX12_isBrightHere_17 : decode cX12_isBrightHere 17 = .ok (.istore_n 1, 1) := by decide +kernel
theorem dX12_isBrightHere_18 : decode cX12_isBrightHere 18 = .ok (.iconst 0, 1) := by decide +kernel
theorem dX12_isBrightHere_19 : decode cX12_isBrightHere 19 = .ok (.istore_n 2, 1) := by decide +kernel
theorem dX12_isBrightHere_20 : decode cX12_isBrightHere 20 = .ok (.iload_n 2, 1) := by decide +kernel
theorem dX12_isBrightHere_21 : decode cX12_isBrightHere 21 = .ok (.aload_n 0, 1) := by decide +kernel
theorem dX12_isBrightHere_22 : decode cX12_isBrightHere 22 = .ok (.getfield 160, 3) := by decide +kernel
theorem dX12_isBrightHere_25 : decode cX12_isBrightHere 25 = .ok (.if_icmp .ge 45, 3) := by decide +kernel
theorem dX12_isBrightHere_28 : decode cX12_isBrightHere 28 = .ok (.iload_n 1, 1) := by decide +kernel
theorem dX12_isBrightHere_29 : decode cX12_isBrightHere 29 = .ok (.aload_n 0, 1) := by decide +kernel
theorem dX12_isBrightHere_30 : decode cX12_isBrightHere 30 = .ok (.getfield 39, 3) := by decide +kernel
theorem dX12_isBrightHere_33 : decode cX12_isBrightHere 33 = .ok (.iload_n 2, 1) := by decide +kernel
theorem dX12_isBrightHere_34 : decode cX12_isBrightHere 34 = .ok (.caload, 1) := by decide +kernel
theorem dX12_isBrightHere_35 : decode cX12_isBrightHere 35 = .ok (.bipush 108, 2) := by decide +kernel
theorem dX12_isBrightHere_37 : decode cX12_isBrightHere 37 = .ok (.if_icmp .ne 24, 3) := by decide +kernel
theorem dX12_isBrightHere_40 : decode cX12_isBrightHere 40 = .ok (.aload_n 0, 1) := by decide +kernel
theorem dX12_isBrightHere_41 : decode cX12_isBrightHere 41 = .ok (.getfield 94, 3) := by decide +kernel
theorem dX12_isBrightHere_44 : decode cX12_isBrightHere 44 = .ok (.iload_n 2, 1) := by decide +kernel
theorem dX12_isBrightHere_45 : decode cX12_isBrightHere 45 = .ok (.baload, 1) := by decide +kernel
theorem dX12_isBrightHere_46 : decode cX12_isBrightHere 46 = .ok (.ifCond .eq 15, 3) := by decide +kernel
theorem dX12_isBrightHere_49 : decode cX12_isBrightHere 49 = .ok (.aload_n 0, 1) := by decide +kernel
theorem dX12_isBrightHere_50 : decode cX12_isBrightHere 50 = .ok (.iload_n 2, 1) := by decide +kernel
theorem dX12_isBrightHere_51 : decode cX12_isBrightHere 51 = .ok (.invokevirtual 197, 3) := by decide +kernel
theorem dX12_isBrightHere_54 : decode cX12_isBrightHere 54 = .ok (.ifCond .eq 7, 3) := by decide +kernel
theorem dX12_isBrightHere_57 : decode cX12_isBrightHere 57 = .ok (.iconst 1, 1) := by decide +kernel
theorem dX12_isBrightHere_58 : decode cX12_isBrightHere 58 = .ok (.goto 4, 3) := by decide +kernel
theorem dX12_isBrightHere_61 : decode cX12_isBrightHere 61 = .ok (.iconst 0, 1) := by decide +kernel
theorem dX12_isBrightHere_62 : decode cX12_isBrightHere 62 = .ok (.ior, 1) := by decide +kernel
theorem dX12_isBrightHere_63 : decode cX12_isBrightHere 63 = .ok (.istore_n 1, 1) := by decide +kernel
theorem dX12_isBrightHere_64 : decode cX12_isBrightHere 64 = .ok (.iinc 2 1, 3) := by decide +kernel
theorem dX12_isBrightHere_67 : decode cX12_isBrightHere 67 = .ok (.goto (-47), 3) := by decide +kernel
theorem dX12_isBrightHere_70 : decode cX12_isBrightHere 70 = .ok (.iload_n 1, 1) := by decide +kernel
theorem dX12_isBrightHere_71 : decode cX12_isBrightHere 71 = .ok (.ireturn, 1) := by decide +kernel
theorem dX12_canReach_0 : decode cX12_canReach 0 = .ok (.aload_n 0, 1) := by decide +kernel
theorem dX12_canReach_1 : decode cX12_canReach 1 = .ok (.invokevirtual 200, 3) := by decide +kernel
theorem dX12_canReach_4 : decode cX12_canReach 4 = .ok (.ifCond .eq 11, 3) := by decide +kernel
theorem dX12_canReach_7 : decode cX12_canReach 7 = .ok (.aload_n 0, 1) := by decide +kernel
theorem dX12_canReach_8 : decode cX12_canReach 8 = .ok (.iload_n 1, 1) := by decide +kernel
theorem dX12_canReach_9 : decode cX12_canReach 9 = .ok (.invokevirtual 197, 3) := by decide +kernel
theorem dX12_canReach_12 : decode cX12_canReach 12 = .ok (.goto 8, 3) := by decide +kernel
theorem dX12_canReach_15 : decode cX12_canReach 15 = .ok (.aload_n 0, 1) := by decide +kernel
theorem dX12_canReach_16 : decode cX12_canReach 16 = .ok (.iload_n 1, 1) := by decide +kernel
theorem dX12_canReach_17 : decode cX12_canReach 17 = .ok (.invokevirtual 204, 3) := by decide +kernel
theorem dX12_canReach_20 : decode cX12_canReach 20 = .ok (.ireturn, 1) := by decide +kernel
theorem dX12_inBox_0 : decode cX12_inBox 0 = .ok (.iconst 0, 1) := by decide +kernel
theorem dX12_inBox_1 : decode cX12_inBox 1 = .ok (.istore_n 2, 1) := by decide +kernel
theorem dX12_inBox_2 : decode cX12_inBox 2 = .ok (.iconst 0, 1) := by decide +kernel
theorem dX12_inBox_3 : decode cX12_inBox 3 = .ok (.istore_n 3, 1) := by decide +kernel
theorem dX12_inBox_4 : decode cX12_inBox 4 = .ok (.iload_n 3, 1) := by decide +kernel
theorem dX12_inBox_5 : decode cX12_inBox 5 = .ok (.aload_n 0, 1) := by decide +kernel
theorem dX12_inBox_6 : decode cX12_inBox 6 = .ok (.getfield 160, 3) := by decide +kernel
theorem dX12_inBox_9 : decode cX12_inBox 9 = .ok (.if_icmp .ge 31, 3) := by decide +kernel
theorem dX12_inBox_12 : decode cX12_inBox 12 = .ok (.iload_n 2, 1) := by decide +kernel
theorem dX12_inBox_13 : decode cX12_inBox 13 = .ok (.aload_n 0, 1) := by decide +kernel
theorem dX12_inBox_14 : decode cX12_inBox 14 = .ok (.getfield 91, 3) := by decide +kernel
theorem dX12_inBox_17 : decode cX12_inBox 17 = .ok (.iload_n 3, 1) := by decide +kernel
theorem dX12_inBox_18 : decode cX12_inBox 18 = .ok (.iaload, 1) := by decide +kernel
theorem dX12_inBox_19 : decode cX12_inBox 19 = .ok (.sipush 200, 3) := by decide +kernel
theorem dX12_inBox_22 : decode cX12_inBox 22 = .ok (.iload_n 1, 1) := by decide +kernel
theorem dX12_inBox_23 : decode cX12_inBox 23 = .ok (.iadd, 1) := by decide +kernel
theorem dX12_inBox_24 : decode cX12_inBox 24 = .ok (.if_icmp .ne 7, 3) := by decide +kernel
theorem dX12_inBox_27 : decode cX12_inBox 27 = .ok (.iconst 1, 1) := by decide +kernel
theorem dX12_inBox_28 : decode cX12_inBox 28 = .ok (.goto 4, 3) := by decide +kernel
theorem dX12_inBox_31 : decode cX12_inBox 31 = .ok (.iconst 0, 1) := by decide +kernel
theorem dX12_inBox_32 : decode cX12_inBox 32 = .ok (.iadd, 1) := by decide +kernel
theorem dX12_inBox_33 : decode cX12_inBox 33 = .ok (.istore_n 2, 1) := by decide +kernel
theorem dX12_inBox_34 : decode cX12_inBox 34 = .ok (.iinc 3 1, 3) := by decide +kernel
theorem dX12_inBox_37 : decode cX12_inBox 37 = .ok (.goto (-33), 3) := by decide +kernel
theorem dX12_inBox_40 : decode cX12_inBox 40 = .ok (.iload_n 2, 1) := by decide +kernel
theorem dX12_inBox_41 : decode cX12_inBox 41 = .ok (.ireturn, 1) := by decide +kernel
theorem dX12_weightWith_0 : decode cX12_weightWith 0 = .ok (.iconst 0, 1) := by decide +kernel
theorem dX12_weightWith_1 : decode cX12_weightWith 1 = .ok (.istore_n 2, 1) := by decide +kernel
theorem dX12_weightWith_2 : decode cX12_weightWith 2 = .ok (.iconst 0, 1) := by decide +kernel
theorem dX12_weightWith_3 : decode cX12_weightWith 3 = .ok (.istore_n 3, 1) := by decide +kernel
theorem dX12_weightWith_4 : decode cX12_weightWith 4 = .ok (.iload_n 3, 1) := by decide +kernel
theorem dX12_weightWith_5 : decode cX12_weightWith 5 = .ok (.aload_n 0, 1) := by decide +kernel
theorem dX12_weightWith_6 : decode cX12_weightWith 6 = .ok (.getfield 160, 3) := by decide +kernel
theorem dX12_weightWith_9 : decode cX12_weightWith 9 = .ok (.if_icmp .ge 73, 3) := by decide +kernel
theorem dX12_weightWith_12 : decode cX12_weightWith 12 = .ok (.aload_n 0, 1) := by decide +kernel
theorem dX12_weightWith_13 : decode cX12_weightWith 13 = .ok (.getfield 91, 3) := by decide +kernel
theorem dX12_weightWith_16 : decode cX12_weightWith 16 = .ok (.iload_n 3, 1) := by decide +kernel
theorem dX12_weightWith_17 : decode cX12_weightWith 17 = .ok (.iaload, 1) := by decide +kernel
theorem dX12_weightWith_18 : decode cX12_weightWith 18 = .ok (.sipush 200, 3) := by decide +kernel
theorem dX12_weightWith_21 : decode cX12_weightWith 21 = .ok (.if_icmp .lt 21, 3) := by decide +kernel
theorem dX12_weightWith_24 : decode cX12_weightWith 24 = .ok (.iload_n 3, 1) := by decide +kernel
theorem dX12_weightWith_25 : decode cX12_weightWith 25 = .ok (.iload_n 1, 1) := by decide +kernel
theorem dX12_weightWith_26 : decode cX12_weightWith 26 = .ok (.if_icmp .eq 16, 3) := by decide +kernel
theorem dX12_weightWith_29 : decode cX12_weightWith 29 = .ok (.aload_n 0, 1) := by decide +kernel
theorem dX12_weightWith_30 : decode cX12_weightWith 30 = .ok (.getfield 91, 3) := by decide +kernel
theorem dX12_weightWith_33 : decode cX12_weightWith 33 = .ok (.iload_n 3, 1) := by decide +kernel
theorem dX12_weightWith_34 : decode cX12_weightWith 34 = .ok (.iaload, 1) := by decide +kernel
theorem dX12_weightWith_35 : decode cX12_weightWith 35 = .ok (.sipush 200, 3) := by decide +kernel
theorem dX12_weightWith_38 : decode cX12_weightWith 38 = .ok (.isub, 1) := by decide +kernel
theorem dX12_weightWith_39 : decode cX12_weightWith 39 = .ok (.goto 4, 3) := by decide +kernel
theorem dX12_weightWith_42 : decode cX12_weightWith 42 = .ok (.iload_n 3, 1) := by decide +kernel
theorem dX12_weightWith_43 : decode cX12_weightWith 43 = .ok (.istore 4, 2) := by decide +kernel
theorem dX12_weightWith_45 : decode cX12_weightWith 45 = .ok (.iload_n 2, 1) := by decide +kernel
theorem dX12_weightWith_46 : decode cX12_weightWith 46 = .ok (.iload 4, 2) := by decide +kernel
theorem dX12_weightWith_48 : decode cX12_weightWith 48 = .ok (.iload_n 1, 1) := by decide +kernel
theorem dX12_weightWith_49 : decode cX12_weightWith 49 = .ok (.if_icmp .eq 15, 3) := by decide +kernel
theorem dX12_weightWith_52 : decode cX12_weightWith 52 = .ok (.aload_n 0, 1) := by decide +kernel
theorem dX12_weightWith_53 : decode cX12_weightWith 53 = .ok (.getfield 91, 3) := by decide +kernel
theorem dX12_weightWith_56 : decode cX12_weightWith 56 = .ok (.iload 4, 2) := by decide +kernel
theorem dX12_weightWith_58 : decode cX12_weightWith 58 = .ok (.iaload, 1) := by decide +kernel
theorem dX12_weightWith_59 : decode cX12_weightWith 59 = .ok (.bipush 100, 2) := by decide +kernel
theorem dX12_weightWith_61 : decode cX12_weightWith 61 = .ok (.if_icmp .ne 12, 3) := by decide +kernel
theorem dX12_weightWith_64 : decode cX12_weightWith 64 = .ok (.aload_n 0, 1) := by decide +kernel
theorem dX12_weightWith_65 : decode cX12_weightWith 65 = .ok (.getfield 36, 3) := by decide +kernel
theorem dX12_weightWith_68 : decode cX12_weightWith 68 = .ok (.iload_n 3, 1) := by decide +kernel
theorem dX12_weightWith_69 : decode cX12_weightWith 69 = .ok (.iaload, 1) := by decide +kernel
theorem dX12_weightWith_70 : decode cX12_weightWith 70 = .ok (.goto 4, 3) := by decide +kernel
theorem dX12_weightWith_73 : decode cX12_weightWith 73 = .ok (.iconst 0, 1) := by decide +kernel
theorem dX12_weightWith_74 : decode cX12_weightWith 74 = .ok (.iadd, 1) := by decide +kernel
theorem dX12_weightWith_75 : decode cX12_weightWith 75 = .ok (.istore_n 2, 1) := by decide +kernel
theorem dX12_weightWith_76 : decode cX12_weightWith 76 = .ok (.iinc 3 1, 3) := by decide +kernel
theorem dX12_weightWith_79 : decode cX12_weightWith 79 = .ok (.goto (-75), 3) := by decide +kernel
theorem dX12_weightWith_82 : decode cX12_weightWith 82 = .ok (.iload_n 2, 1) := by decide +kernel
theorem dX12_weightWith_83 : decode cX12_weightWith 83 = .ok (.ireturn, 1) := by decide +kernel
theorem dX12_showsNow_0 : decode cX12_showsNow 0 = .ok (.aload_n 0, 1) := by decide +kernel
theorem dX12_showsNow_1 : decode cX12_showsNow 1 = .ok (.invokevirtual 200, 3) := by decide +kernel
theorem dX12_showsNow_4 : decode cX12_showsNow 4 = .ok (.istore_n 1, 1) := by decide +kernel
theorem dX12_showsNow_5 : decode cX12_showsNow 5 = .ok (.aload_n 0, 1) := by decide +kernel
theorem dX12_showsNow_6 : decode cX12_showsNow 6 = .ok (.getfield 193, 3) := by decide +kernel
theorem dX12_showsNow_9 : decode cX12_showsNow 9 = .ok (.iload_n 1, 1) := by decide +kernel
theorem dX12_showsNow_10 : decode cX12_showsNow 10 = .ok (.ifCond .eq 15, 3) := by decide +kernel
theorem dX12_showsNow_13 : decode cX12_showsNow 13 = .ok (.aload_n 0, 1) := by decide +kernel
theorem dX12_showsNow_14 : decode cX12_showsNow 14 = .ok (.getfield 20, 3) := by decide +kernel
theorem dX12_showsNow_17 : decode cX12_showsNow 17 = .ok (.aload_n 0, 1) := by decide +kernel
theorem dX12_showsNow_18 : decode cX12_showsNow 18 = .ok (.getfield 190, 3) := by decide +kernel
theorem dX12_showsNow_21 : decode cX12_showsNow 21 = .ok (.laload, 1) := by decide +kernel
theorem dX12_showsNow_22 : decode cX12_showsNow 22 = .ok (.goto 4, 3) := by decide +kernel
theorem dX12_showsNow_25 : decode cX12_showsNow 25 = .ok (.lconst 0, 1) := by decide +kernel
theorem dX12_showsNow_26 : decode cX12_showsNow 26 = .ok (.lor, 1) := by decide +kernel
theorem dX12_showsNow_27 : decode cX12_showsNow 27 = .ok (.lstore_n 2, 1) := by decide +kernel
theorem dX12_showsNow_28 : decode cX12_showsNow 28 = .ok (.iconst 0, 1) := by decide +kernel
theorem dX12_showsNow_29 : decode cX12_showsNow 29 = .ok (.istore 4, 2) := by decide +kernel
theorem dX12_showsNow_31 : decode cX12_showsNow 31 = .ok (.iload 4, 2) := by decide +kernel
theorem dX12_showsNow_33 : decode cX12_showsNow 33 = .ok (.aload_n 0, 1) := by decide +kernel
theorem dX12_showsNow_34 : decode cX12_showsNow 34 = .ok (.getfield 160, 3) := by decide +kernel
theorem dX12_showsNow_37 : decode cX12_showsNow 37 = .ok (.if_icmp .ge 50, 3) := by decide +kernel
theorem dX12_showsNow_40 : decode cX12_showsNow 40 = .ok (.lload_n 2, 1) := by decide +kernel
theorem dX12_showsNow_41 : decode cX12_showsNow 41 = .ok (.iload_n 1, 1) := by decide +kernel
theorem dX12_showsNow_42 : decode cX12_showsNow 42 = .ok (.ifCond .eq 15, 3) := by decide +kernel
theorem dX12_showsNow_45 : decode cX12_showsNow 45 = .ok (.aload_n 0, 1) := by decide +kernel
theorem dX12_showsNow_46 : decode cX12_showsNow 46 = .ok (.iload 4, 2) := by decide +kernel
theorem dX12_showsNow_48 : decode cX12_showsNow 48 = .ok (.invokevirtual 197, 3) := by decide +kernel
theorem dX12_showsNow_51 : decode cX12_showsNow 51 = .ok (.ifCond .eq 27, 3) := by decide +kernel
theorem dX12_showsNow_54 : decode cX12_showsNow 54 = .ok (.goto 12, 3) := by decide +kernel
theorem dX12_showsNow_57 : decode cX12_showsNow 57 = .ok (.aload_n 0, 1) := by decide +kernel
theorem dX12_showsNow_58 : decode cX12_showsNow 58 = .ok (.iload 4, 2) := by decide +kernel
theorem dX12_showsNow_60 : decode cX12_showsNow 60 = .ok (.invokevirtual 204, 3) := by decide +kernel
theorem dX12_showsNow_63 : decode cX12_showsNow 63 = .ok (.ifCond .eq 15, 3) := by decide +kernel
theorem dX12_showsNow_66 : decode cX12_showsNow 66 = .ok (.lconst 1, 1) := by decide +kernel
theorem dX12_showsNow_67 : decode cX12_showsNow 67 = .ok (.aload_n 0, 1) := by decide +kernel
theorem dX12_showsNow_68 : decode cX12_showsNow 68 = .ok (.getfield 30, 3) := by decide +kernel
theorem dX12_showsNow_71 : decode cX12_showsNow 71 = .ok (.iload 4, 2) := by decide +kernel
theorem dX12_showsNow_73 : decode cX12_showsNow 73 = .ok (.iaload, 1) := by decide +kernel
theorem dX12_showsNow_74 : decode cX12_showsNow 74 = .ok (.lshl, 1) := by decide +kernel
theorem dX12_showsNow_75 : decode cX12_showsNow 75 = .ok (.goto 4, 3) := by decide +kernel
theorem dX12_showsNow_78 : decode cX12_showsNow 78 = .ok (.lconst 0, 1) := by decide +kernel
theorem dX12_showsNow_79 : decode cX12_showsNow 79 = .ok (.lor, 1) := by decide +kernel
theorem dX12_showsNow_80 : decode cX12_showsNow 80 = .ok (.lstore_n 2, 1) := by decide +kernel
theorem dX12_showsNow_81 : decode cX12_showsNow 81 = .ok (.iinc 4 1, 3) := by decide +kernel
theorem dX12_showsNow_84 : decode cX12_showsNow 84 = .ok (.goto (-53), 3) := by decide +kernel
theorem dX12_showsNow_87 : decode cX12_showsNow 87 = .ok (.lload_n 2, 1) := by decide +kernel
theorem dX12_showsNow_88 : decode cX12_showsNow 88 = .ok (.lreturn, 1) := by decide +kernel
theorem dX12_burns_0 : decode cX12_burns 0 = .ok (.iconst 0, 1) := by decide +kernel
theorem dX12_burns_1 : decode cX12_burns 1 = .ok (.istore_n 1, 1) := by decide +kernel
theorem dX12_burns_2 : decode cX12_burns 2 = .ok (.iload_n 1, 1) := by decide +kernel
theorem dX12_burns_3 : decode cX12_burns 3 = .ok (.aload_n 0, 1) := by decide +kernel
theorem dX12_burns_4 : decode cX12_burns 4 = .ok (.getfield 160, 3) := by decide +kernel
theorem dX12_burns_7 : decode cX12_burns 7 = .ok (.if_icmp .ge 62, 3) := by decide +kernel
theorem dX12_burns_10 : decode cX12_burns 10 = .ok (.aload_n 0, 1) := by decide +kernel
theorem dX12_burns_11 : decode cX12_burns 11 = .ok (.getfield 39, 3) := by decide +kernel
theorem dX12_burns_14 : decode cX12_burns 14 = .ok (.iload_n 1, 1) := by decide +kernel
theorem dX12_burns_15 : decode cX12_burns 15 = .ok (.caload, 1) := by decide +kernel
theorem dX12_burns_16 : decode cX12_burns 16 = .ok (.bipush 108, 2) := by decide +kernel
theorem dX12_burns_18 : decode cX12_burns 18 = .ok (.if_icmp .ne 45, 3) := by decide +kernel
theorem dX12_burns_21 : decode cX12_burns 21 = .ok (.aload_n 0, 1) := by decide +kernel
theorem dX12_burns_22 : decode cX12_burns 22 = .ok (.getfield 94, 3) := by decide +kernel
theorem dX12_burns_25 : decode cX12_burns 25 = .ok (.iload_n 1, 1) := by decide +kernel
theorem dX12_burns_26 : decode cX12_burns 26 = .ok (.baload, 1) := by decide +kernel
theorem dX12_burns_27 : decode cX12_burns 27 = .ok (.ifCond .ne 6, 3) := by decide +kernel
theorem dX12_burns_30 : decode cX12_burns 30 = .ok (.goto 33, 3) := by decide +kernel
theorem dX12_burns_33 : decode cX12_burns 33 = .ok (.aload_n 0, 1) := by decide +kernel
theorem dX12_burns_34 : decode cX12_burns 34 = .ok (.getfield 97, 3) := by decide +kernel
theorem dX12_burns_37 : decode cX12_burns 37 = .ok (.iload_n 1, 1) := by decide +kernel
theorem dX12_burns_38 : decode cX12_burns 38 = .ok (.dup2, 1) := by decide +kernel
theorem dX12_burns_39 : decode cX12_burns 39 = .ok (.iaload, 1) := by decide +kernel
theorem dX12_burns_40 : decode cX12_burns 40 = .ok (.iconst 1, 1) := by decide +kernel
theorem dX12_burns_41 : decode cX12_burns 41 = .ok (.isub, 1) := by decide +kernel
theorem dX12_burns_42 : decode cX12_burns 42 = .ok (.iastore, 1) := by decide +kernel
theorem dX12_burns_43 : decode cX12_burns 43 = .ok (.aload_n 0, 1) := by decide +kernel
theorem dX12_burns_44 : decode cX12_burns 44 = .ok (.getfield 94, 3) := by decide +kernel
theorem dX12_burns_47 : decode cX12_burns 47 = .ok (.iload_n 1, 1) := by decide +kernel
theorem dX12_burns_48 : decode cX12_burns 48 = .ok (.aload_n 0, 1) := by decide +kernel
theorem dX12_burns_49 : decode cX12_burns 49 = .ok (.getfield 97, 3) := by decide +kernel
theorem dX12_burns_52 : decode cX12_burns 52 = .ok (.iload_n 1, 1) := by decide +kernel
theorem dX12_burns_53 : decode cX12_burns 53 = .ok (.iaload, 1) := by decide +kernel
theorem dX12_burns_54 : decode cX12_burns 54 = .ok (.ifCond .le 7, 3) := by decide +kernel
theorem dX12_burns_57 : decode cX12_burns 57 = .ok (.iconst 1, 1) := by decide +kernel
theorem dX12_burns_58 : decode cX12_burns 58 = .ok (.goto 4, 3) := by decide +kernel
theorem dX12_burns_61 : decode cX12_burns 61 = .ok (.iconst 0, 1) := by decide +kernel
theorem dX12_burns_62 : decode cX12_burns 62 = .ok (.bastore, 1) := by decide +kernel
theorem dX12_burns_63 : decode cX12_burns 63 = .ok (.iinc 1 1, 3) := by decide +kernel
theorem dX12_burns_66 : decode cX12_burns 66 = .ok (.goto (-64), 3) := by decide +kernel
theorem dX12_burns_69 : decode cX12_burns 69 = .ok (.return_, 1) := by decide +kernel
theorem dX12_isLike_0 : decode cX12_isLike 0 = .ok (.aload_n 0, 1) := by decide +kernel
theorem dX12_isLike_1 : decode cX12_isLike 1 = .ok (.getfield 76, 3) := by decide +kernel
theorem dX12_isLike_4 : decode cX12_isLike 4 = .ok (.iload_n 1, 1) := by decide +kernel
theorem dX12_isLike_5 : decode cX12_isLike 5 = .ok (.iaload, 1) := by decide +kernel
theorem dX12_isLike_6 : decode cX12_isLike 6 = .ok (.iload_n 2, 1) := by decide +kernel
theorem dX12_isLike_7 : decode cX12_isLike 7 = .ok (.if_icmp .ne 17, 3) := by decide +kernel
theorem dX12_isLike_10 : decode cX12_isLike 10 = .ok (.aload_n 0, 1) := by decide +kernel
theorem dX12_isLike_11 : decode cX12_isLike 11 = .ok (.getfield 79, 3) := by decide +kernel
theorem dX12_isLike_14 : decode cX12_isLike 14 = .ok (.iload_n 1, 1) := by decide +kernel
theorem dX12_isLike_15 : decode cX12_isLike 15 = .ok (.iaload, 1) := by decide +kernel
theorem dX12_isLike_16 : decode cX12_isLike 16 = .ok (.iload_n 3, 1) := by decide +kernel
theorem dX12_isLike_17 : decode cX12_isLike 17 = .ok (.if_icmp .ne 7, 3) := by decide +kernel
theorem dX12_isLike_20 : decode cX12_isLike 20 = .ok (.iconst 1, 1) := by decide +kernel
theorem dX12_isLike_21 : decode cX12_isLike 21 = .ok (.goto 4, 3) := by decide +kernel
theorem dX12_isLike_24 : decode cX12_isLike 24 = .ok (.iconst 0, 1) := by decide +kernel
theorem dX12_isLike_25 : decode cX12_isLike 25 = .ok (.istore 4, 2) := by decide +kernel
theorem dX12_isLike_27 : decode cX12_isLike 27 = .ok (.iload_n 2, 1) := by decide +kernel
theorem dX12_isLike_28 : decode cX12_isLike 28 = .ok (.ifCond .ne 8, 3) := by decide +kernel
theorem dX12_isLike_31 : decode cX12_isLike 31 = .ok (.iload 4, 2) := by decide +kernel
theorem dX12_isLike_33 : decode cX12_isLike 33 = .ok (.ifCond .ne 6, 3) := by decide +kernel
theorem dX12_isLike_36 : decode cX12_isLike 36 = .ok (.iload 4, 2) := by decide +kernel
theorem dX12_isLike_38 : decode cX12_isLike 38 = .ok (.ireturn, 1) := by decide +kernel
theorem dX12_isLike_39 : decode cX12_isLike 39 = .ok (.aload_n 0, 1) := by decide +kernel
theorem dX12_isLike_40 : decode cX12_isLike 40 = .ok (.getfield 73, 3) := by decide +kernel
theorem dX12_isLike_43 : decode cX12_isLike 43 = .ok (.iload_n 1, 1) := by decide +kernel
theorem dX12_isLike_44 : decode cX12_isLike 44 = .ok (.iaload, 1) := by decide +kernel
theorem dX12_isLike_45 : decode cX12_isLike 45 = .ok (.aload_n 0, 1) := by decide +kernel
theorem dX12_isLike_46 : decode cX12_isLike 46 = .ok (.getfield 139, 3) := by decide +kernel
theorem dX12_isLike_49 : decode cX12_isLike 49 = .ok (.if_icmp .ne 7, 3) := by decide +kernel
theorem dX12_isLike_52 : decode cX12_isLike 52 = .ok (.iconst 1, 1) := by decide +kernel
theorem dX12_isLike_53 : decode cX12_isLike 53 = .ok (.goto 4, 3) := by decide +kernel
theorem dX12_isLike_56 : decode cX12_isLike 56 = .ok (.iconst 0, 1) := by decide +kernel
theorem dX12_isLike_57 : decode cX12_isLike 57 = .ok (.istore 4, 2) := by decide +kernel
theorem dX12_isLike_59 : decode cX12_isLike 59 = .ok (.iconst 0, 1) := by decide +kernel
theorem dX12_isLike_60 : decode cX12_isLike 60 = .ok (.istore 5, 2) := by decide +kernel
theorem dX12_isLike_62 : decode cX12_isLike 62 = .ok (.iload 5, 2) := by decide +kernel
theorem dX12_isLike_64 : decode cX12_isLike 64 = .ok (.aload_n 0, 1) := by decide +kernel
theorem dX12_isLike_65 : decode cX12_isLike 65 = .ok (.getfield 139, 3) := by decide +kernel
theorem dX12_isLike_68 : decode cX12_isLike 68 = .ok (.if_icmp .ge 43, 3) := by decide +kernel
theorem dX12_isLike_71 : decode cX12_isLike 71 = .ok (.iload 4, 2) := by decide +kernel
theorem dX12_isLike_73 : decode cX12_isLike 73 = .ok (.ifCond .eq 38, 3) := by decide +kernel
theorem dX12_isLike_76 : decode cX12_isLike 76 = .ok (.aload_n 0, 1) := by decide +kernel
theorem dX12_isLike_77 : decode cX12_isLike 77 = .ok (.getfield 70, 3) := by decide +kernel
theorem dX12_isLike_80 : decode cX12_isLike 80 = .ok (.bipush 30, 2) := by decide +kernel
theorem dX12_isLike_82 : decode cX12_isLike 82 = .ok (.iload_n 1, 1) := by decide +kernel
theorem dX12_isLike_83 : decode cX12_isLike 83 = .ok (.imul, 1) := by decide +kernel
theorem dX12_isLike_84 : decode cX12_isLike 84 = .ok (.iload 5, 2) := by decide +kernel
theorem dX12_isLike_86 : decode cX12_isLike 86 = .ok (.iadd, 1) := by decide +kernel
theorem dX12_isLike_87 : decode cX12_isLike 87 = .ok (.iaload, 1) := by decide +kernel
theorem dX12_isLike_88 : decode cX12_isLike 88 = .ok (.aload_n 0, 1) := by decide +kernel
theorem dX12_isLike_89 : decode cX12_isLike 89 = .ok (.getfield 7, 3) := by decide +kernel
theorem dX12_isLike_92 : decode cX12_isLike 92 = .ok (.iload 5, 2) := by decide +kernel
theorem dX12_isLike_94 : decode cX12_isLike 94 = .ok (.iaload, 1) := by decide +kernel
theorem dX12_isLike_95 : decode cX12_isLike 95 = .ok (.if_icmp .ne 7, 3) := by decide +kernel
theorem dX12_isLike_98 : decode cX12_isLike 98 = .ok (.iconst 1, 1) := by decide +kernel
theorem dX12_isLike_99 : decode cX12_isLike 99 = .ok (.goto 4, 3) := by decide +kernel
theorem dX12_isLike_102 : decode cX12_isLike 102 = .ok (.iconst 0, 1) := by decide +kernel
theorem dX12_isLike_103 : decode cX12_isLike 103 = .ok (.istore 4, 2) := by decide +kernel
theorem dX12_isLike_105 : decode cX12_isLike 105 = .ok (.iinc 5 1, 3) := by decide +kernel
theorem dX12_isLike_108 : decode cX12_isLike 108 = .ok (.goto (-46), 3) := by decide +kernel
theorem dX12_isLike_111 : decode cX12_isLike 111 = .ok (.iload 4, 2) := by decide +kernel
theorem dX12_isLike_113 : decode cX12_isLike 113 = .ok (.ireturn, 1) := by decide +kernel
theorem dX12_childBy_0 : decode cX12_childBy 0 = .ok (.iconst (-1), 1) := by decide +kernel
theorem dX12_childBy_1 : decode cX12_childBy 1 = .ok (.istore_n 3, 1) := by decide +kernel
theorem dX12_childBy_2 : decode cX12_childBy 2 = .ok (.aload_n 0, 1) := by decide +kernel
theorem dX12_childBy_3 : decode cX12_childBy 3 = .ok (.getfield 207, 3) := by decide +kernel
theorem dX12_childBy_6 : decode cX12_childBy 6 = .ok (.iconst 1, 1) := by decide +kernel
theorem dX12_childBy_7 : decode cX12_childBy 7 = .ok (.isub, 1) := by decide +kernel
theorem dX12_childBy_8 : decode cX12_childBy 8 = .ok (.istore 4, 2) := by decide +kernel
theorem dX12_childBy_10 : decode cX12_childBy 10 = .ok (.iload 4, 2) := by decide +kernel
theorem dX12_childBy_12 : decode cX12_childBy 12 = .ok (.ifCond .le 46, 3) := by decide +kernel
theorem dX12_childBy_15 : decode cX12_childBy 15 = .ok (.aload_n 0, 1) := by decide +kernel
theorem dX12_childBy_16 : decode cX12_childBy 16 = .ok (.getfield 67, 3) := by decide +kernel
theorem dX12_childBy_19 : decode cX12_childBy 19 = .ok (.iload 4, 2) := by decide +kernel
theorem dX12_childBy_21 : decode cX12_childBy 21 = .ok (.iaload, 1) := by decide +kernel
theorem dX12_childBy_22 : decode cX12_childBy 22 = .ok (.aload_n 0, 1) := by decide +kernel
theorem dX12_childBy_23 : decode cX12_childBy 23 = .ok (.getfield 210, 3) := by decide +kernel
theorem dX12_childBy_26 : decode cX12_childBy 26 = .ok (.if_icmp .ne 24, 3) := by decide +kernel
theorem dX12_childBy_29 : decode cX12_childBy 29 = .ok (.iload_n 1, 1) := by decide +kernel
theorem dX12_childBy_30 : decode cX12_childBy 30 = .ok (.iconst 1, 1) := by decide +kernel
theorem dX12_childBy_31 : decode cX12_childBy 31 = .ok (.if_icmp .eq 19, 3) := by decide +kernel
theorem dX12_childBy_34 : decode cX12_childBy 34 = .ok (.aload_n 0, 1) := by decide +kernel
theorem dX12_childBy_35 : decode cX12_childBy 35 = .ok (.iload 4, 2) := by decide +kernel
theorem dX12_childBy_37 : decode cX12_childBy 37 = .ok (.iload_n 1, 1) := by decide +kernel
theorem dX12_childBy_38 : decode cX12_childBy 38 = .ok (.iload_n 2, 1) := by decide +kernel
theorem dX12_childBy_39 : decode cX12_childBy 39 = .ok (.invokevirtual 213, 3) := by decide +kernel
theorem dX12_childBy_42 : decode cX12_childBy 42 = .ok (.ifCond .eq 8, 3) := by decide +kernel
theorem dX12_childBy_45 : decode cX12_childBy 45 = .ok (.iload 4, 2) := by decide +kernel
theorem dX12_childBy_47 : decode cX12_childBy 47 = .ok (.goto 4, 3) := by decide +kernel
theorem dX12_childBy_50 : decode cX12_childBy 50 = .ok (.iload_n 3, 1) := by decide +kernel
theorem dX12_childBy_51 : decode cX12_childBy 51 = .ok (.istore_n 3, 1) := by decide +kernel
theorem dX12_childBy_52 : decode cX12_childBy 52 = .ok (.iinc 4 (-1), 3) := by decide +kernel
theorem dX12_childBy_55 : decode cX12_childBy 55 = .ok (.goto (-45), 3) := by decide +kernel
theorem dX12_childBy_58 : decode cX12_childBy 58 = .ok (.iload_n 3, 1) := by decide +kernel
theorem dX12_childBy_59 : decode cX12_childBy 59 = .ok (.ireturn, 1) := by decide +kernel
theorem dX12_comes_0 : decode cX12_comes 0 = .ok (.aload_n 0, 1) := by decide +kernel
theorem dX12_comes_1 : decode cX12_comes 1 = .ok (.getfield 207, 3) := by decide +kernel
theorem dX12_comes_4 : decode cX12_comes 4 = .ok (.ifCond .le 7, 3) := by decide +kernel
theorem dX12_comes_7 : decode cX12_comes 7 = .ok (.aload_n 0, 1) := by decide +kernel
theorem dX12_comes_8 : decode cX12_comes 8 = .ok (.invokevirtual 216, 3) := by decide +kernel
theorem dX12_comes_11 : decode cX12_comes 11 = .ok (.aload_n 0, 1) := by decide +kernel
theorem dX12_comes_12 : decode cX12_comes 12 = .ok (.getfield 207, 3) := by decide +kernel
theorem dX12_comes_15 : decode cX12_comes 15 = .ok (.istore_n 3, 1) := by decide +kernel
theorem dX12_comes_16 : decode cX12_comes 16 = .ok (.aload_n 0, 1) := by decide +kernel
theorem dX12_comes_17 : decode cX12_comes 17 = .ok (.getfield 55, 3) := by decide +kernel
theorem dX12_comes_20 : decode cX12_comes 20 = .ok (.iload_n 3, 1) := by decide +kernel
theorem dX12_comes_21 : decode cX12_comes 21 = .ok (.aload_n 0, 1) := by decide +kernel
theorem dX12_comes_22 : decode cX12_comes 22 = .ok (.getfield 190, 3) := by decide +kernel
theorem dX12_comes_25 : decode cX12_comes 25 = .ok (.iastore, 1) := by decide +kernel
theorem dX12_comes_26 : decode cX12_comes 26 = .ok (.iconst 0, 1) := by decide +kernel
theorem dX12_comes_27 : decode cX12_comes 27 = .ok (.istore 4, 2) := by decide +kernel
theorem dX12_comes_29 : decode cX12_comes 29 = .ok (.iload 4, 2) := by decide +kernel
theorem dX12_comes_31 : decode cX12_comes 31 = .ok (.aload_n 0, 1) := by decide +kernel
theorem dX12_comes_32 : decode cX12_comes 32 = .ok (.getfield 160, 3) := by decide +kernel
theorem dX12_comes_35 : decode cX12_comes 35 = .ok (.if_icmp .ge 66, 3) := by decide +kernel
theorem dX12_comes_38 : decode cX12_comes 38 = .ok (.aload_n 0, 1) := by decide +kernel
theorem dX12_comes_39 : decode cX12_comes 39 = .ok (.getfield 58, 3) := by decide +kernel
theorem dX12_comes_42 : decode cX12_comes 42 = .ok (.bipush 12, 2) := by decide +kernel
theorem dX12_comes_44 : decode cX12_comes 44 = .ok (.iload_n 3, 1) := by decide +kernel
theorem dX12_comes_45 : decode cX12_comes 45 = .ok (.imul, 1) := by decide +kernel
theorem dX12_comes_46 : decode cX12_comes 46 = .ok (.iload 4, 2) := by decide +kernel
theorem dX12_comes_48 : decode cX12_comes 48 = .ok (.iadd, 1) := by decide +kernel
theorem dX12_comes_49 : decode cX12_comes 49 = .ok (.aload_n 0, 1) := by decide +kernel
theorem dX12_comes_50 : decode cX12_comes 50 = .ok (.getfield 91, 3) := by decide +kernel
theorem dX12_comes_53 : decode cX12_comes 53 = .ok (.iload 4, 2) := by decide +kernel
theorem dX12_comes_55 : decode cX12_comes 55 = .ok (.iaload, 1) := by decide +kernel
theorem dX12_comes_56 : decode cX12_comes 56 = .ok (.iastore, 1) := by decide +kernel
theorem dX12_comes_57 : decode cX12_comes 57 = .ok (.aload_n 0, 1) := by decide +kernel
theorem dX12_comes_58 : decode cX12_comes 58 = .ok (.getfield 61, 3) := by decide +kernel
theorem dX12_comes_61 : decode cX12_comes 61 = .ok (.bipush 12, 2) := by decide +kernel
theorem dX12_comes_63 : decode cX12_comes 63 = .ok (.iload_n 3, 1) := by decide +kernel
theorem dX12_comes_64 : decode cX12_comes 64 = .ok (.imul, 1) := by decide +kernel
theorem dX12_comes_65 : decode cX12_comes 65 = .ok (.iload 4, 2) := by decide +kernel
theorem dX12_comes_67 : decode cX12_comes 67 = .ok (.iadd, 1) := by decide +kernel
theorem dX12_comes_68 : decode cX12_comes 68 = .ok (.aload_n 0, 1) := by decide +kernel
theorem dX12_comes_69 : decode cX12_comes 69 = .ok (.getfield 94, 3) := by decide +kernel
theorem dX12_comes_72 : decode cX12_comes 72 = .ok (.iload 4, 2) := by decide +kernel
theorem dX12_comes_74 : decode cX12_comes 74 = .ok (.baload, 1) := by decide +kernel
theorem dX12_comes_75 : decode cX12_comes 75 = .ok (.bastore, 1) := by decide +kernel
theorem dX12_comes_76 : decode cX12_comes 76 = .ok (.aload_n 0, 1) := by decide +kernel
theorem dX12_comes_77 : decode cX12_comes 77 = .ok (.getfield 64, 3) := by decide +kernel
theorem dX12_comes_80 : decode cX12_comes 80 = .ok (.bipush 12, 2) := by decide +kernel
theorem dX12_comes_82 : decode cX12_comes 82 = .ok (.iload_n 3, 1) := by decide +kernel
theorem dX12_comes_83 : decode cX12_comes 83 = .ok (.imul, 1) := by decide +kernel
theorem dX12_comes_84 : decode cX12_comes 84 = .ok (.iload 4, 2) := by decide +kernel
theorem dX12_comes_86 : decode cX12_comes 86 = .ok (.iadd, 1) := by decide +kernel
theorem dX12_comes_87 : decode cX12_comes 87 = .ok (.aload_n 0, 1) := by decide +kernel
theorem dX12_comes_88 : decode cX12_comes 88 = .ok (.getfield 97, 3) := by decide +kernel
theorem dX12_comes_91 : decode cX12_comes 91 = .ok (.iload 4, 2) := by decide +kernel
theorem dX12_comes_93 : decode cX12_comes 93 = .ok (.iaload, 1) := by decide +kernel
theorem dX12_comes_94 : decode cX12_comes 94 = .ok (.iastore, 1) := by decide +kernel
theorem dX12_comes_95 : decode cX12_comes 95 = .ok (.iinc 4 1, 3) := by decide +kernel
theorem dX12_comes_98 : decode cX12_comes 98 = .ok (.goto (-69), 3) := by decide +kernel
theorem dX12_comes_101 : decode cX12_comes 101 = .ok (.aload_n 0, 1) := by decide +kernel
theorem dX12_comes_102 : decode cX12_comes 102 = .ok (.getfield 82, 3) := by decide +kernel
theorem dX12_comes_105 : decode cX12_comes 105 = .ok (.iload_n 3, 1) := by decide +kernel
theorem dX12_comes_106 : decode cX12_comes 106 = .ok (.aload_n 0, 1) := by decide +kernel
theorem dX12_comes_107 : decode cX12_comes 107 = .ok (.invokevirtual 219, 3) := by decide +kernel
theorem dX12_comes_110 : decode cX12_comes 110 = .ok (.lastore, 1) := by decide +kernel
theorem dX12_comes_111 : decode cX12_comes 111 = .ok (.aload_n 0, 1) := by decide +kernel
theorem dX12_comes_112 : decode cX12_comes 112 = .ok (.getfield 67, 3) := by decide +kernel
theorem dX12_comes_115 : decode cX12_comes 115 = .ok (.iload_n 3, 1) := by decide +kernel
theorem dX12_comes_116 : decode cX12_comes 116 = .ok (.aload_n 0, 1) := by decide +kernel
theorem dX12_comes_117 : decode cX12_comes 117 = .ok (.getfield 207, 3) := by decide +kernel
theorem dX12_comes_120 : decode cX12_comes 120 = .ok (.ifCond .le 10, 3) := by decide +kernel
theorem dX12_comes_123 : decode cX12_comes 123 = .ok (.aload_n 0, 1) := by decide +kernel
theorem dX12_comes_124 : decode cX12_comes 124 = .ok (.getfield 210, 3) := by decide +kernel
theorem dX12_comes_127 : decode cX12_comes 127 = .ok (.goto 4, 3) := by decide +kernel
theorem dX12_comes_130 : decode cX12_comes 130 = .ok (.iconst (-1), 1) := by decide +kernel
theorem dX12_comes_131 : decode cX12_comes 131 = .ok (.iastore, 1) := by decide +kernel
theorem dX12_comes_132 : decode cX12_comes 132 = .ok (.aload_n 0, 1) := by decide +kernel
theorem dX12_comes_133 : decode cX12_comes 133 = .ok (.getfield 76, 3) := by decide +kernel
theorem dX12_comes_136 : decode cX12_comes 136 = .ok (.iload_n 3, 1) := by decide +kernel
theorem dX12_comes_137 : decode cX12_comes 137 = .ok (.iload_n 1, 1) := by decide +kernel
theorem dX12_comes_138 : decode cX12_comes 138 = .ok (.iastore, 1) := by decide +kernel
theorem dX12_comes_139 : decode cX12_comes 139 = .ok (.aload_n 0, 1) := by decide +kernel
theorem dX12_comes_140 : decode cX12_comes 140 = .ok (.getfield 79, 3) := by decide +kernel
theorem dX12_comes_143 : decode cX12_comes 143 = .ok (.iload_n 3, 1) := by decide +kernel
theorem dX12_comes_144 : decode cX12_comes 144 = .ok (.iload_n 2, 1) := by decide +kernel
theorem dX12_comes_145 : decode cX12_comes 145 = .ok (.iastore, 1) := by decide +kernel
theorem dX12_comes_146 : decode cX12_comes 146 = .ok (.aload_n 0, 1) := by decide +kernel
theorem dX12_comes_147 : decode cX12_comes 147 = .ok (.getfield 73, 3) := by decide +kernel
theorem dX12_comes_150 : decode cX12_comes 150 = .ok (.iload_n 3, 1) := by decide +kernel
theorem dX12_comes_151 : decode cX12_comes 151 = .ok (.aload_n 0, 1) := by decide +kernel
theorem dX12_comes_152 : decode cX12_comes 152 = .ok (.getfield 139, 3) := by decide +kernel
theorem dX12_comes_155 : decode cX12_comes 155 = .ok (.iastore, 1) := by decide +kernel
theorem dX12_comes_156 : decode cX12_comes 156 = .ok (.aload_n 0, 1) := by decide +kernel
theorem dX12_comes_157 : decode cX12_comes 157 = .ok (.getfield 88, 3) := by decide +kernel
theorem dX12_comes_160 : decode cX12_comes 160 = .ok (.iload_n 3, 1) := by decide +kernel
theorem dX12_comes_161 : decode cX12_comes 161 = .ok (.iconst (-1), 1) := by decide +kernel
theorem dX12_comes_162 : decode cX12_comes 162 = .ok (.iastore, 1) := by decide +kernel
theorem dX12_comes_163 : decode cX12_comes 163 = .ok (.aload_n 0, 1) := by decide +kernel
theorem dX12_comes_164 : decode cX12_comes 164 = .ok (.getfield 85, 3) := by decide +kernel
theorem dX12_comes_167 : decode cX12_comes 167 = .ok (.bipush 8, 2) := by decide +kernel
theorem dX12_comes_169 : decode cX12_comes 169 = .ok (.iload_n 3, 1) := by decide +kernel
theorem dX12_comes_170 : decode cX12_comes 170 = .ok (.imul, 1) := by decide +kernel
theorem dX12_comes_171 : decode cX12_comes 171 = .ok (.iconst 0, 1) := by decide +kernel
theorem dX12_comes_172 : decode cX12_comes 172 = .ok (.iastore, 1) := by decide +kernel
theorem dX12_comes_173 : decode cX12_comes 173 = .ok (.iconst 0, 1) := by decide +kernel
theorem dX12_comes_174 : decode cX12_comes 174 = .ok (.istore 4, 2) := by decide +kernel
theorem dX12_comes_176 : decode cX12_comes 176 = .ok (.iload 4, 2) := by decide +kernel
theorem dX12_comes_178 : decode cX12_comes 178 = .ok (.aload_n 0, 1) := by decide +kernel
theorem dX12_comes_179 : decode cX12_comes 179 = .ok (.getfield 139, 3) := by decide +kernel
theorem dX12_comes_182 : decode cX12_comes 182 = .ok (.if_icmp .ge 28, 3) := by decide +kernel
theorem dX12_comes_185 : decode cX12_comes 185 = .ok (.aload_n 0, 1) := by decide +kernel
theorem dX12_comes_186 : decode cX12_comes 186 = .ok (.getfield 70, 3) := by decide +kernel
theorem dX12_comes_189 : decode cX12_comes 189 = .ok (.bipush 30, 2) := by decide +kernel
theorem dX12_comes_191 : decode cX12_comes 191 = .ok (.iload_n 3, 1) := by decide +kernel
theorem dX12_comes_192 : decode cX12_comes 192 = .ok (.imul, 1) := by decide +kernel
theorem dX12_comes_193 : decode cX12_comes 193 = .ok (.iload 4, 2) := by decide +kernel
theorem dX12_comes_195 : decode cX12_comes 195 = .ok (.iadd, 1) := by decide +kernel
theorem dX12_comes_196 : decode cX12_comes 196 = .ok (.aload_n 0, 1) := by decide +kernel
theorem dX12_comes_197 : decode cX12_comes 197 = .ok (.getfield 7, 3) := by decide +kernel
theorem dX12_comes_200 : decode cX12_comes 200 = .ok (.iload 4, 2) := by decide +kernel
theorem dX12_comes_202 : decode cX12_comes 202 = .ok (.iaload, 1) := by decide +kernel
theorem dX12_comes_203 : decode cX12_comes 203 = .ok (.iastore, 1) := by decide +kernel
theorem dX12_comes_204 : decode cX12_comes 204 = .ok (.iinc 4 1, 3) := by decide +kernel
theorem dX12_comes_207 : decode cX12_comes 207 = .ok (.goto (-31), 3) := by decide +kernel
theorem dX12_comes_210 : decode cX12_comes 210 = .ok (.aload_n 0, 1) := by decide +kernel
theorem dX12_comes_211 : decode cX12_comes 211 = .ok (.dup, 1) := by decide +kernel
theorem dX12_comes_212 : decode cX12_comes 212 = .ok (.getfield 207, 3) := by decide +kernel
theorem dX12_comes_215 : decode cX12_comes 215 = .ok (.iconst 1, 1) := by decide +kernel
theorem dX12_comes_216 : decode cX12_comes 216 = .ok (.iadd, 1) := by decide +kernel
theorem dX12_comes_217 : decode cX12_comes 217 = .ok (.putfield 207, 3) := by decide +kernel
theorem dX12_comes_220 : decode cX12_comes 220 = .ok (.aload_n 0, 1) := by decide +kernel
theorem dX12_comes_221 : decode cX12_comes 221 = .ok (.iload_n 3, 1) := by decide +kernel
theorem dX12_comes_222 : decode cX12_comes 222 = .ok (.putfield 210, 3) := by decide +kernel
theorem dX12_comes_225 : decode cX12_comes 225 = .ok (.return_, 1) := by decide +kernel
theorem dX12_begin_0 : decode cX12_begin 0 = .ok (.aload_n 0, 1) := by decide +kernel
theorem dX12_begin_1 : decode cX12_begin 1 = .ok (.aload_n 0, 1) := by decide +kernel
theorem dX12_begin_2 : decode cX12_begin 2 = .ok (.iload_n 1, 1) := by decide +kernel
theorem dX12_begin_3 : decode cX12_begin 3 = .ok (.invokevirtual 167, 3) := by decide +kernel
theorem dX12_begin_6 : decode cX12_begin 6 = .ok (.ifCond .ne 7, 3) := by decide +kernel
theorem dX12_begin_9 : decode cX12_begin 9 = .ok (.iconst 1, 1) := by decide +kernel
theorem dX12_begin_10 : decode cX12_begin 10 = .ok (.goto 15, 3) := by decide +kernel
theorem dX12_begin_13 : decode cX12_begin 13 = .ok (.aload_n 0, 1) := by decide +kernel
theorem dX12_begin_14 : decode cX12_begin 14 = .ok (.getfield 163, 3) := by decide +kernel
theorem dX12_begin_17 : decode cX12_begin 17 = .ok (.ifCond .eq 7, 3) := by decide +kernel
theorem dX12_begin_20 : decode cX12_begin 20 = .ok (.iconst 2, 1) := by decide +kernel
theorem dX12_begin_21 : decode cX12_begin 21 = .ok (.goto 4, 3) := by decide +kernel
theorem dX12_begin_24 : decode cX12_begin 24 = .ok (.iconst 0, 1) := by decide +kernel
theorem dX12_begin_25 : decode cX12_begin 25 = .ok (.invokevirtual 142, 3) := by decide +kernel
theorem dX12_begin_28 : decode cX12_begin 28 = .ok (.ifCond .eq 5, 3) := by decide +kernel
theorem dX12_begin_31 : decode cX12_begin 31 = .ok (.iconst 0, 1) := by decide +kernel
theorem dX12_begin_32 : decode cX12_begin 32 = .ok (.ireturn, 1) := by decide +kernel
theorem dX12_begin_33 : decode cX12_begin 33 = .ok (.aload_n 0, 1) := by decide +kernel
theorem dX12_begin_34 : decode cX12_begin 34 = .ok (.iconst 1, 1) := by decide +kernel
theorem dX12_begin_35 : decode cX12_begin 35 = .ok (.putfield 163, 3) := by decide +kernel
theorem dX12_begin_38 : decode cX12_begin 38 = .ok (.aload_n 0, 1) := by decide +kernel
theorem dX12_begin_39 : decode cX12_begin 39 = .ok (.iload_n 1, 1) := by decide +kernel
theorem dX12_begin_40 : decode cX12_begin 40 = .ok (.putfield 190, 3) := by decide +kernel
theorem dX12_begin_43 : decode cX12_begin 43 = .ok (.aload_n 0, 1) := by decide +kernel
theorem dX12_begin_44 : decode cX12_begin 44 = .ok (.lconst 0, 1) := by decide +kernel
theorem dX12_begin_45 : decode cX12_begin 45 = .ok (.putfield 193, 3) := by decide +kernel
theorem dX12_begin_48 : decode cX12_begin 48 = .ok (.iconst 0, 1) := by decide +kernel
theorem dX12_begin_49 : decode cX12_begin 49 = .ok (.istore_n 2, 1) := by decide +kernel
theorem dX12_begin_50 : decode cX12_begin 50 = .ok (.iload_n 2, 1) := by decide +kernel
theorem dX12_begin_51 : decode cX12_begin 51 = .ok (.aload_n 0, 1) := by decide +kernel
theorem dX12_begin_52 : decode cX12_begin 52 = .ok (.getfield 160, 3) := by decide +kernel
theorem dX12_begin_55 : decode cX12_begin 55 = .ok (.if_icmp .ge 40, 3) := by decide +kernel
theorem dX12_begin_58 : decode cX12_begin 58 = .ok (.aload_n 0, 1) := by decide +kernel
theorem dX12_begin_59 : decode cX12_begin 59 = .ok (.getfield 91, 3) := by decide +kernel
theorem dX12_begin_62 : decode cX12_begin 62 = .ok (.iload_n 2, 1) := by decide +kernel
theorem dX12_begin_63 : decode cX12_begin 63 = .ok (.aload_n 0, 1) := by decide +kernel
theorem dX12_begin_64 : decode cX12_begin 64 = .ok (.getfield 33, 3) := by decide +kernel
theorem dX12_begin_67 : decode cX12_begin 67 = .ok (.iload_n 2, 1) := by decide +kernel
theorem dX12_begin_68 : decode cX12_begin 68 = .ok (.iaload, 1) := by decide +kernel
theorem dX12_begin_69 : decode cX12_begin 69 = .ok (.iastore, 1) := by decide +kernel
theorem dX12_begin_70 : decode cX12_begin 70 = .ok (.aload_n 0, 1) := by decide +kernel
theorem dX12_begin_71 : decode cX12_begin 71 = .ok (.getfield 94, 3) := by decide +kernel
theorem dX12_begin_74 : decode cX12_begin 74 = .ok (.iload_n 2, 1) := by decide +kernel
theorem dX12_begin_75 : decode cX12_begin 75 = .ok (.iconst 0, 1) := by decide +kernel
theorem dX12_begin_76 : decode cX12_begin 76 = .ok (.bastore, 1) := by decide +kernel
theorem dX12_begin_77 : decode cX12_begin 77 = .ok (.aload_n 0, 1) := by decide +kernel
theorem dX12_begin_78 : decode cX12_begin 78 = .ok (.getfield 97, 3) := by decide +kernel
theorem dX12_begin_81 : decode cX12_begin 81 = .ok (.iload_n 2, 1) := by decide +kernel
theorem dX12_begin_82 : decode cX12_begin 82 = .ok (.aload_n 0, 1) := by decide +kernel
theorem dX12_begin_83 : decode cX12_begin 83 = .ok (.getfield 43, 3) := by decide +kernel
theorem dX12_begin_86 : decode cX12_begin 86 = .ok (.iload_n 2, 1) := by decide +kernel
theorem dX12_begin_87 : decode cX12_begin 87 = .ok (.iaload, 1) := by decide +kernel
theorem dX12_begin_88 : decode cX12_begin 88 = .ok (.iastore, 1) := by decide +kernel
theorem dX12_begin_89 : decode cX12_begin 89 = .ok (.iinc 2 1, 3) := by decide +kernel
theorem dX12_begin_92 : decode cX12_begin 92 = .ok (.goto (-42), 3) := by decide +kernel
theorem dX12_begin_95 : decode cX12_begin 95 = .ok (.aload_n 0, 1) := by decide +kernel
theorem dX12_begin_96 : decode cX12_begin 96 = .ok (.getfield 139, 3) := by decide +kernel
theorem dX12_begin_99 : decode cX12_begin 99 = .ok (.istore_n 2, 1) := by decide +kernel
theorem dX12_begin_100 : decode cX12_begin 100 = .ok (.aload_n 0, 1) := by decide +kernel
theorem dX12_begin_101 : decode cX12_begin 101 = .ok (.iconst 0, 1) := by decide +kernel
theorem dX12_begin_102 : decode cX12_begin 102 = .ok (.putfield 139, 3) := by decide +kernel
theorem dX12_begin_105 : decode cX12_begin 105 = .ok (.aload_n 0, 1) := by decide +kernel
theorem dX12_begin_106 : decode cX12_begin 106 = .ok (.iconst 0, 1) := by decide +kernel
theorem dX12_begin_107 : decode cX12_begin 107 = .ok (.iconst 0, 1) := by decide +kernel
theorem dX12_begin_108 : decode cX12_begin 108 = .ok (.invokevirtual 223, 3) := by decide +kernel
theorem dX12_begin_111 : decode cX12_begin 111 = .ok (.aload_n 0, 1) := by decide +kernel
theorem dX12_begin_112 : decode cX12_begin 112 = .ok (.iload_n 2, 1) := by decide +kernel
theorem dX12_begin_113 : decode cX12_begin 113 = .ok (.putfield 139, 3) := by decide +kernel
theorem dX12_begin_116 : decode cX12_begin 116 = .ok (.aload_n 0, 1) := by decide +kernel
theorem dX12_begin_117 : decode cX12_begin 117 = .ok (.invokevirtual 227, 3) := by decide +kernel
theorem dX12_begin_120 : decode cX12_begin 120 = .ok (.ireturn, 1) := by decide +kernel
theorem dX12_knownAt_0 : decode cX12_knownAt 0 = .ok (.lconst 0, 1) := by decide +kernel
theorem dX12_knownAt_1 : decode cX12_knownAt 1 = .ok (.lstore_n 2, 1) := by decide +kernel
theorem dX12_knownAt_2 : decode cX12_knownAt 2 = .ok (.iload_n 1, 1) := by decide +kernel
theorem dX12_knownAt_3 : decode cX12_knownAt 3 = .ok (.istore 4, 2) := by decide +kernel
theorem dX12_knownAt_5 : decode cX12_knownAt 5 = .ok (.iload 4, 2) := by decide +kernel
theorem dX12_knownAt_7 : decode cX12_knownAt 7 = .ok (.iconst (-1), 1) := by decide +kernel
theorem dX12_knownAt_8 : decode cX12_knownAt 8 = .ok (.if_icmp .eq 25, 3) := by decide +kernel
theorem dX12_knownAt_11 : decode cX12_knownAt 11 = .ok (.lload_n 2, 1) := by decide +kernel
theorem dX12_knownAt_12 : decode cX12_knownAt 12 = .ok (.aload_n 0, 1) := by decide +kernel
theorem dX12_knownAt_13 : decode cX12_knownAt 13 = .ok (.getfield 82, 3) := by decide +kernel
theorem dX12_knownAt_16 : decode cX12_knownAt 16 = .ok (.iload 4, 2) := by decide +kernel
theorem dX12_knownAt_18 : decode cX12_knownAt 18 = .ok (.laload, 1) := by decide +kernel
theorem dX12_knownAt_19 : decode cX12_knownAt 19 = .ok (.lor, 1) := by decide +kernel
theorem dX12_knownAt_20 : decode cX12_knownAt 20 = .ok (.lstore_n 2, 1) := by decide +kernel
theorem dX12_knownAt_21 : decode cX12_knownAt 21 = .ok (.aload_n 0, 1) := by decide +kernel
theorem dX12_knownAt_22 : decode cX12_knownAt 22 = .ok (.getfield 67, 3) := by decide +kernel
theorem dX12_knownAt_25 : decode cX12_knownAt 25 = .ok (.iload 4, 2) := by decide +kernel
theorem dX12_knownAt_27 : decode cX12_knownAt 27 = .ok (.iaload, 1) := by decide +kernel
theorem dX12_knownAt_28 : decode cX12_knownAt 28 = .ok (.istore 4, 2) := by decide +kernel
theorem dX12_knownAt_30 : decode cX12_knownAt 30 = .ok (.goto (-25), 3) := by decide +kernel
theorem dX12_knownAt_33 : decode cX12_knownAt 33 = .ok (.lload_n 2, 1) := by decide +kernel
theorem dX12_knownAt_34 : decode cX12_knownAt 34 = .ok (.lreturn, 1) := by decide +kernel
theorem dX12_knownMany_0 : decode cX12_knownMany 0 = .ok (.aload_n 0, 1) := by decide +kernel
theorem dX12_knownMany_1 : decode cX12_knownMany 1 = .ok (.aload_n 0, 1) := by decide +kernel
theorem dX12_knownMany_2 : decode cX12_knownMany 2 = .ok (.getfield 210, 3) := by decide +kernel
theorem dX12_knownMany_5 : decode cX12_knownMany 5 = .ok (.invokevirtual 231, 3) := by decide +kernel
theorem dX12_knownMany_8 : decode cX12_knownMany 8 = .ok (.invokestatic 173, 3) := by decide +kernel
theorem dX12_knownMany_11 : decode cX12_knownMany 11 = .ok (.ireturn, 1) := by decide +kernel
theorem dX12_parts_0 : decode cX12_parts 0 = .ok (.aload_n 0, 1) := by decide +kernel
theorem dX12_parts_1 : decode cX12_parts 1 = .ok (.iconst 0, 1) := by decide +kernel
theorem dX12_parts_2 : decode cX12_parts 2 = .ok (.putfield 235, 3) := by decide +kernel
theorem dX12_parts_5 : decode cX12_parts 5 = .ok (.iconst 0, 1) := by decide +kernel
theorem dX12_parts_6 : decode cX12_parts 6 = .ok (.istore_n 1, 1) := by decide +kernel
theorem dX12_parts_7 : decode cX12_parts 7 = .ok (.iconst 0, 1) := by decide +kernel
theorem dX12_parts_8 : decode cX12_parts 8 = .ok (.istore_n 2, 1) := by decide +kernel
theorem dX12_parts_9 : decode cX12_parts 9 = .ok (.iload_n 2, 1) := by decide +kernel
theorem dX12_parts_10 : decode cX12_parts 10 = .ok (.aload_n 0, 1) := by decide +kernel
theorem dX12_parts_11 : decode cX12_parts 11 = .ok (.getfield 139, 3) := by decide +kernel
theorem dX12_parts_14 : decode cX12_parts 14 = .ok (.if_icmp .gt 65, 3) := by decide +kernel
theorem dX12_parts_17 : decode cX12_parts 17 = .ok (.iload_n 2, 1) := by decide +kernel
theorem dX12_parts_18 : decode cX12_parts 18 = .ok (.aload_n 0, 1) := by decide +kernel
theorem dX12_parts_19 : decode cX12_parts 19 = .ok (.getfield 139, 3) := by decide +kernel
theorem dX12_parts_22 : decode cX12_parts 22 = .ok (.if_icmp .ge 17, 3) := by decide +kernel
theorem dX12_parts_25 : decode cX12_parts 25 = .ok (.aload_n 0, 1) := by decide +kernel
theorem dX12_parts_26 : decode cX12_parts 26 = .ok (.getfield 7, 3) := by decide +kernel
theorem dX12_parts_29 : decode cX12_parts 29 = .ok (.iload_n 2, 1) := by decide +kernel
theorem dX12_parts_30 : decode cX12_parts 30 = .ok (.iaload, 1) := by decide +kernel
theorem dX12_parts_31 : decode cX12_parts 31 = .ok (.bipush 32, 2) := by decide +kernel
theorem dX12_parts_33 : decode cX12_parts 33 = .ok (.if_icmp .eq 6, 3) := by decide +kernel
theorem dX12_parts_36 : decode cX12_parts 36 = .ok (.goto 37, 3) := by decide +kernel
theorem dX12_parts_39 : decode cX12_parts 39 = .ok (.aload_n 0, 1) := by decide +kernel
theorem dX12_parts_40 : decode cX12_parts 40 = .ok (.getfield 100, 3) := by decide +kernel
theorem dX12_parts_43 : decode cX12_parts 43 = .ok (.aload_n 0, 1) := by decide +kernel
theorem dX12_parts_44 : decode cX12_parts 44 = .ok (.getfield 235, 3) := by decide +kernel
theorem dX12_parts_47 : decode cX12_parts 47 = .ok (.iload_n 1, 1) := by decide +kernel
theorem dX12_parts_48 : decode cX12_parts 48 = .ok (.iastore, 1) := by decide +kernel
theorem dX12_parts_49 : decode cX12_parts 49 = .ok (.aload_n 0, 1) := by decide +kernel
theorem dX12_parts_50 : decode cX12_parts 50 = .ok (.getfield 103, 3) := by decide +kernel
theorem dX12_parts_53 : decode cX12_parts 53 = .ok (.aload_n 0, 1) := by decide +kernel
theorem dX12_parts_54 : decode cX12_parts 54 = .ok (.getfield 235, 3) := by decide +kernel
theorem dX12_parts_57 : decode cX12_parts 57 = .ok (.iload_n 2, 1) := by decide +kernel
theorem dX12_parts_58 : decode cX12_parts 58 = .ok (.iastore, 1) := by decide +kernel
theorem dX12_parts_59 : decode cX12_parts 59 = .ok (.aload_n 0, 1) := by decide +kernel
theorem dX12_parts_60 : decode cX12_parts 60 = .ok (.dup, 1) := by decide +kernel
theorem dX12_parts_61 : decode cX12_parts 61 = .ok (.getfield 235, 3) := by decide +kernel
theorem dX12_parts_64 : decode cX12_parts 64 = .ok (.iconst 1, 1) := by decide +kernel
theorem dX12_parts_65 : decode cX12_parts 65 = .ok (.iadd, 1) := by decide +kernel
theorem dX12_parts_66 : decode cX12_parts 66 = .ok (.putfield 235, 3) := by decide +kernel
theorem dX12_parts_69 : decode cX12_parts 69 = .ok (.iload_n 2, 1) := by decide +kernel
theorem dX12_parts_70 : decode cX12_parts 70 = .ok (.iconst 1, 1) := by decide +kernel
theorem dX12_parts_71 : decode cX12_parts 71 = .ok (.iadd, 1) := by decide +kernel
theorem dX12_parts_72 : decode cX12_parts 72 = .ok (.istore_n 1, 1) := by decide +kernel
theorem dX12_parts_73 : decode cX12_parts 73 = .ok (.iinc 2 1, 3) := by decide +kernel
theorem dX12_parts_76 : decode cX12_parts 76 = .ok (.goto (-67), 3) := by decide +kernel
theorem dX12_parts_79 : decode cX12_parts 79 = .ok (.return_, 1) := by decide +kernel
theorem dX12_isPart_0 : decode cX12_isPart 0 = .ok (.lconst 0, 1) := by decide +kernel
theorem dX12_isPart_1 : decode cX12_isPart 1 = .ok (.lstore 4, 2) := by decide +kernel
theorem dX12_isPart_3 : decode cX12_isPart 3 = .ok (.aload_n 0, 1) := by decide +kernel
theorem dX12_isPart_4 : decode cX12_isPart 4 = .ok (.getfield 100, 3) := by decide +kernel
theorem dX12_isPart_7 : decode cX12_isPart 7 = .ok (.iload_n 1, 1) := by decide +kernel
theorem dX12_isPart_8 : decode cX12_isPart 8 = .ok (.iaload, 1) := by decide +kernel
theorem dX12_isPart_9 : decode cX12_isPart 9 = .ok (.istore 6, 2) := by decide +kernel
theorem dX12_isPart_11 : decode cX12_isPart 11 = .ok (.iload 6, 2) := by decide +kernel
theorem dX12_isPart_13 : decode cX12_isPart 13 = .ok (.aload_n 0, 1) := by decide +kernel
theorem dX12_isPart_14 : decode cX12_isPart 14 = .ok (.getfield 103, 3) := by decide +kernel
theorem dX12_isPart_17 : decode cX12_isPart 17 = .ok (.iload_n 1, 1) := by decide +kernel
theorem dX12_isPart_18 : decode cX12_isPart 18 = .ok (.iaload, 1) := by decide +kernel
theorem dX12_isPart_19 : decode cX12_isPart 19 = .ok (.if_icmp .ge 57, 3) := by decide +kernel
theorem dX12_isPart_22 : decode cX12_isPart 22 = .ok (.aload_n 0, 1) := by decide +kernel
theorem dX12_isPart_23 : decode cX12_isPart 23 = .ok (.getfield 7, 3) := by decide +kernel
theorem dX12_isPart_26 : decode cX12_isPart 26 = .ok (.iload 6, 2) := by decide +kernel
theorem dX12_isPart_28 : decode cX12_isPart 28 = .ok (.iaload, 1) := by decide +kernel
theorem dX12_isPart_29 : decode cX12_isPart 29 = .ok (.bipush 32, 2) := by decide +kernel
theorem dX12_isPart_31 : decode cX12_isPart 31 = .ok (.if_icmp .eq 12, 3) := by decide +kernel
theorem dX12_isPart_34 : decode cX12_isPart 34 = .ok (.lload 4, 2) := by decide +kernel
theorem dX12_isPart_36 : decode cX12_isPart 36 = .ok (.ldc2_w 238, 3) := by decide +kernel
theorem dX12_isPart_39 : decode cX12_isPart 39 = .ok (.lcmp, 1) := by decide +kernel
theorem dX12_isPart_40 : decode cX12_isPart 40 = .ok (.ifCond .le 9, 3) := by decide +kernel
theorem dX12_isPart_43 : decode cX12_isPart 43 = .ok (.ldc2_w 240, 3) := by decide +kernel
theorem dX12_isPart_46 : decode cX12_isPart 46 = .ok (.goto 22, 3) := by decide +kernel
theorem dX12_isPart_49 : decode cX12_isPart 49 = .ok (.ldc2_w 242, 3) := by decide +kernel
theorem dX12_isPart_52 : decode cX12_isPart 52 = .ok (.lload 4, 2) := by decide +kernel
theorem dX12_isPart_54 : decode cX12_isPart 54 = .ok (.lmul, 1) := by decide +kernel
theorem dX12_isPart_55 : decode cX12_isPart 55 = .ok (.aload_n 0, 1) := by decide +kernel
theorem dX12_isPart_56 : decode cX12_isPart 56 = .ok (.getfield 7, 3) := by decide +kernel
theorem dX12_isPart_59 : decode cX12_isPart 59 = .ok (.iload 6, 2) := by decide +kernel
theorem dX12_isPart_61 : decode cX12_isPart 61 = .ok (.iaload, 1) := by decide +kernel
theorem dX12_isPart_62 : decode cX12_isPart 62 = .ok (.i2l, 1) := by decide +kernel
theorem dX12_isPart_63 : decode cX12_isPart 63 = .ok (.ladd, 1) := by decide +kernel
theorem dX12_isPart_64 : decode cX12_isPart 64 = .ok (.ldc2_w 244, 3) := by decide +kernel
theorem dX12_isPart_67 : decode cX12_isPart 67 = .ok (.lsub, 1) := by decide +kernel
theorem dX12_isPart_68 : decode cX12_isPart 68 = .ok (.lstore 4, 2) := by decide +kernel
theorem dX12_isPart_70 : decode cX12_isPart 70 = .ok (.iinc 6 1, 3) := by decide +kernel
theorem dX12_isPart_73 : decode cX12_isPart 73 = .ok (.goto (-62), 3) := by decide +kernel
theorem dX12_isPart_76 : decode cX12_isPart 76 = .ok (.lload 4, 2) := by decide +kernel
theorem dX12_isPart_78 : decode cX12_isPart 78 = .ok (.lload_n 2, 1) := by decide +kernel
theorem dX12_isPart_79 : decode cX12_isPart 79 = .ok (.lcmp, 1) := by decide +kernel
theorem dX12_isPart_80 : decode cX12_isPart 80 = .ok (.ifCond .ne 7, 3) := by decide +kernel
theorem dX12_isPart_83 : decode cX12_isPart 83 = .ok (.iconst 1, 1) := by decide +kernel
theorem dX12_isPart_84 : decode cX12_isPart 84 = .ok (.goto 4, 3) := by decide +kernel
theorem dX12_isPart_87 : decode cX12_isPart 87 = .ok (.iconst 0, 1) := by decide +kernel
theorem dX12_isPart_88 : decode cX12_isPart 88 = .ok (.ireturn, 1) := by decide +kernel
theorem dX12_row_0 : decode cX12_row 0 = .ok (.lconst 0, 1) := by decide +kernel
theorem dX12_row_1 : decode cX12_row 1 = .ok (.lstore 5, 2) := by decide +kernel
theorem dX12_row_3 : decode cX12_row 3 = .ok (.iload_n 0, 1) := by decide +kernel
theorem dX12_row_4 : decode cX12_row 4 = .ok (.ifCond .le 19, 3) := by decide +kernel
theorem dX12_row_7 : decode cX12_row 7 = .ok (.ldc2_w 242, 3) := by decide +kernel
theorem dX12_row_10 : decode cX12_row 10 = .ok (.lload 5, 2) := by decide +kernel
theorem dX12_row_12 : decode cX12_row 12 = .ok (.lmul, 1) := by decide +kernel
theorem dX12_row_13 : decode cX12_row 13 = .ok (.iload_n 0, 1) := by decide +kernel
theorem dX12_row_14 : decode cX12_row 14 = .ok (.i2l, 1) := by decide +kernel
theorem dX12_row_15 : decode cX12_row 15 = .ok (.ladd, 1) := by decide +kernel
theorem dX12_row_16 : decode cX12_row 16 = .ok (.ldc2_w 244, 3) := by decide +kernel
theorem dX12_row_19 : decode cX12_row 19 = .ok (.lsub, 1) := by decide +kernel
theorem dX12_row_20 : decode cX12_row 20 = .ok (.goto 5, 3) := by decide +kernel
theorem dX12_row_23 : decode cX12_row 23 = .ok (.lload 5, 2) := by decide +kernel
theorem dX12_row_25 : decode cX12_row 25 = .ok (.lstore 5, 2) := by decide +kernel
theorem dX12_row_27 : decode cX12_row 27 = .ok (.iload_n 1, 1) := by decide +kernel
theorem dX12_row_28 : decode cX12_row 28 = .ok (.ifCond .le 19, 3) := by decide +kernel
theorem dX12_row_31 : decode cX12_row 31 = .ok (.ldc2_w 242, 3) := by decide +kernel
theorem dX12_row_34 : decode cX12_row 34 = .ok (.lload 5, 2) := by decide +kernel
theorem dX12_row_36 : decode cX12_row 36 = .ok (.lmul, 1) := by decide +kernel
theorem dX12_row_37 : decode cX12_row 37 = .ok (.iload_n 1, 1) := by decide +kernel
theorem dX12_row_38 : decode cX12_row 38 = .ok (.i2l, 1) := by decide +kernel
theorem dX12_row_39 : decode cX12_row 39 = .ok (.ladd, 1) := by decide +kernel
theorem dX12_row_40 : decode cX12_row 40 = .ok (.ldc2_w 244, 3) := by decide +kernel
theorem dX12_row_43 : decode cX12_row 43 = .ok (.lsub, 1) := by decide +kernel
theorem dX12_row_44 : decode cX12_row 44 = .ok (.goto 5, 3) := by decide +kernel
theorem dX12_row_47 : decode cX12_row 47 = .ok (.lload 5, 2) := by decide +kernel
theorem dX12_row_49 : decode cX12_row 49 = .ok (.lstore 5, 2) := by decide +kernel
theorem dX12_row_51 : decode cX12_row 51 = .ok (.iload_n 2, 1) := by decide +kernel
theorem dX12_row_52 : decode cX12_row 52 = .ok (.ifCond .le 19, 3) := by decide +kernel
theorem dX12_row_55 : decode cX12_row 55 = .ok (.ldc2_w 242, 3) := by decide +kernel
theorem dX12_row_58 : decode cX12_row 58 = .ok (.lload 5, 2) := by decide +kernel
theorem dX12_row_60 : decode cX12_row 60 = .ok (.lmul, 1) := by decide +kernel
theorem dX12_row_61 : decode cX12_row 61 = .ok (.iload_n 2, 1) := by decide +kernel
theorem dX12_row_62 : decode cX12_row 62 = .ok (.i2l, 1) := by decide +kernel
theorem dX12_row_63 : decode cX12_row 63 = .ok (.ladd, 1) := by decide +kernel
theorem dX12_row_64 : decode cX12_row 64 = .ok (.ldc2_w 244, 3) := by decide +kernel
theorem dX12_row_67 : decode cX12_row 67 = .ok (.lsub, 1) := by decide +kernel
theorem dX12_row_68 : decode cX12_row 68 = .ok (.goto 5, 3) := by decide +kernel
theorem dX12_row_71 : decode cX12_row 71 = .ok (.lload 5, 2) := by decide +kernel
theorem dX12_row_73 : decode cX12_row 73 = .ok (.lstore 5, 2) := by decide +kernel
theorem dX12_row_75 : decode cX12_row 75 = .ok (.iload_n 3, 1) := by decide +kernel
theorem dX12_row_76 : decode cX12_row 76 = .ok (.ifCond .le 19, 3) := by decide +kernel
theorem dX12_row_79 : decode cX12_row 79 = .ok (.ldc2_w 242, 3) := by decide +kernel
theorem dX12_row_82 : decode cX12_row 82 = .ok (.lload 5, 2) := by decide +kernel
theorem dX12_row_84 : decode cX12_row 84 = .ok (.lmul, 1) := by decide +kernel
theorem dX12_row_85 : decode cX12_row 85 = .ok (.iload_n 3, 1) := by decide +kernel
theorem dX12_row_86 : decode cX12_row 86 = .ok (.i2l, 1) := by decide +kernel
theorem dX12_row_87 : decode cX12_row 87 = .ok (.ladd, 1) := by decide +kernel
theorem dX12_row_88 : decode cX12_row 88 = .ok (.ldc2_w 244, 3) := by decide +kernel
theorem dX12_row_91 : decode cX12_row 91 = .ok (.lsub, 1) := by decide +kernel
theorem dX12_row_92 : decode cX12_row 92 = .ok (.goto 5, 3) := by decide +kernel
theorem dX12_row_95 : decode cX12_row 95 = .ok (.lload 5, 2) := by decide +kernel
theorem dX12_row_97 : decode cX12_row 97 = .ok (.lstore 5, 2) := by decide +kernel
theorem dX12_row_99 : decode cX12_row 99 = .ok (.iload 4, 2) := by decide +kernel
theorem dX12_row_101 : decode cX12_row 101 = .ok (.ifCond .le 20, 3) := by decide +kernel
theorem dX12_row_104 : decode cX12_row 104 = .ok (.ldc2_w 242, 3) := by decide +kernel
theorem dX12_row_107 : decode cX12_row 107 = .ok (.lload 5, 2) := by decide +kernel
theorem dX12_row_109 : decode cX12_row 109 = .ok (.lmul, 1) := by decide +kernel
theorem dX12_row_110 : decode cX12_row 110 = .ok (.iload 4, 2) := by decide +kernel
theorem dX12_row_112 : decode cX12_row 112 = .ok (.i2l, 1) := by decide +kernel
theorem dX12_row_113 : decode cX12_row 113 = .ok (.ladd, 1) := by decide +kernel
theorem dX12_row_114 : decode cX12_row 114 = .ok (.ldc2_w 244, 3) := by decide +kernel
theorem dX12_row_117 : decode cX12_row 117 = .ok (.lsub, 1) := by decide +kernel
theorem dX12_row_118 : decode cX12_row 118 = .ok (.goto 5, 3) := by decide +kernel
theorem dX12_row_121 : decode cX12_row 121 = .ok (.lload 5, 2) := by decide +kernel
theorem dX12_row_123 : decode cX12_row 123 = .ok (.lreturn, 1) := by decide +kernel
theorem dX12_verb_0 : decode cX12_verb 0 = .ok (.aload_n 0, 1) := by decide +kernel
theorem dX12_verb_1 : decode cX12_verb 1 = .ok (.invokevirtual 246, 3) := by decide +kernel
theorem dX12_verb_4 : decode cX12_verb 4 = .ok (.iconst 1, 1) := by decide +kernel
theorem dX12_verb_5 : decode cX12_verb 5 = .ok (.istore_n 1, 1) := by decide +kernel
theorem dX12_verb_6 : decode cX12_verb 6 = .ok (.iconst 0, 1) := by decide +kernel
theorem dX12_verb_7 : decode cX12_verb 7 = .ok (.istore_n 2, 1) := by decide +kernel
theorem dX12_verb_8 : decode cX12_verb 8 = .ok (.iload_n 2, 1) := by decide +kernel
theorem dX12_verb_9 : decode cX12_verb 9 = .ok (.aload_n 0, 1) := by decide +kernel
theorem dX12_verb_10 : decode cX12_verb 10 = .ok (.getfield 235, 3) := by decide +kernel
theorem dX12_verb_13 : decode cX12_verb 13 = .ok (.if_icmp .ge 32, 3) := by decide +kernel
theorem dX12_verb_16 : decode cX12_verb 16 = .ok (.iload_n 1, 1) := by decide +kernel
theorem dX12_verb_17 : decode cX12_verb 17 = .ok (.aload_n 0, 1) := by decide +kernel
theorem dX12_verb_18 : decode cX12_verb 18 = .ok (.getfield 103, 3) := by decide +kernel
theorem dX12_verb_21 : decode cX12_verb 21 = .ok (.iload_n 2, 1) := by decide +kernel
theorem dX12_verb_22 : decode cX12_verb 22 = .ok (.iaload, 1) := by decide +kernel
theorem dX12_verb_23 : decode cX12_verb 23 = .ok (.aload_n 0, 1) := by decide +kernel
theorem dX12_verb_24 : decode cX12_verb 24 = .ok (.getfield 100, 3) := by decide +kernel
theorem dX12_verb_27 : decode cX12_verb 27 = .ok (.iload_n 2, 1) := by decide +kernel
theorem dX12_verb_28 : decode cX12_verb 28 = .ok (.iaload, 1) := by decide +kernel
theorem dX12_verb_29 : decode cX12_verb 29 = .ok (.if_icmp .le 7, 3) := by decide +kernel
theorem dX12_verb_32 : decode cX12_verb 32 = .ok (.iconst 1, 1) := by decide +kernel
theorem dX12_verb_33 : decode cX12_verb 33 = .ok (.goto 4, 3) := by decide +kernel
theorem dX12_verb_36 : decode cX12_verb 36 = .ok (.iconst 0, 1) := by decide +kernel
theorem dX12_verb_37 : decode cX12_verb 37 = .ok (.iand, 1) := by decide +kernel
theorem dX12_verb_38 : decode cX12_verb 38 = .ok (.istore_n 1, 1) := by decide +kernel
theorem dX12_verb_39 : decode cX12_verb 39 = .ok (.iinc 2 1, 3) := by decide +kernel
theorem dX12_verb_42 : decode cX12_verb 42 = .ok (.goto (-34), 3) := by decide +kernel
theorem dX12_verb_45 : decode cX12_verb 45 = .ok (.iload_n 1, 1) := by decide +kernel
theorem dX12_verb_46 : decode cX12_verb 46 = .ok (.ifCond .ne 5, 3) := by decide +kernel
theorem dX12_verb_49 : decode cX12_verb 49 = .ok (.iconst 0, 1) := by decide +kernel
theorem dX12_verb_50 : decode cX12_verb 50 = .ok (.ireturn, 1) := by decide +kernel
theorem dX12_verb_51 : decode cX12_verb 51 = .ok (.aload_n 0, 1) := by decide +kernel
theorem dX12_verb_52 : decode cX12_verb 52 = .ok (.getfield 235, 3) := by decide +kernel
theorem dX12_verb_55 : decode cX12_verb 55 = .ok (.iconst 1, 1) := by decide +kernel
theorem dX12_verb_56 : decode cX12_verb 56 = .ok (.if_icmp .ne 55, 3) := by decide +kernel
theorem dX12_verb_59 : decode cX12_verb 59 = .ok (.aload_n 0, 1) := by decide +kernel
theorem dX12_verb_60 : decode cX12_verb 60 = .ok (.iconst 0, 1) := by decide +kernel
theorem dX12_verb_61 : decode cX12_verb 61 = .ok (.bipush 108, 2) := by decide +kernel
theorem dX12_verb_63 : decode cX12_verb 63 = .ok (.bipush 111, 2) := by decide +kernel
theorem dX12_verb_65 : decode cX12_verb 65 = .ok (.bipush 111, 2) := by decide +kernel
theorem dX12_verb_67 : decode cX12_verb 67 = .ok (.bipush 107, 2) := by decide +kernel
theorem dX12_verb_69 : decode cX12_verb 69 = .ok (.iconst 0, 1) := by decide +kernel
theorem dX12_verb_70 : decode cX12_verb 70 = .ok (.invokestatic 248, 3) := by decide +kernel
theorem dX12_verb_73 : decode cX12_verb 73 = .ok (.invokevirtual 252, 3) := by decide +kernel
theorem dX12_verb_76 : decode cX12_verb 76 = .ok (.ifCond .eq 8, 3) := by decide +kernel
theorem dX12_verb_79 : decode cX12_verb 79 = .ok (.bipush 10, 2) := by decide +kernel
theorem dX12_verb_81 : decode cX12_verb 81 = .ok (.goto 29, 3) := by decide +kernel
theorem dX12_verb_84 : decode cX12_verb 84 = .ok (.aload_n 0, 1) := by decide +kernel
theorem dX12_verb_85 : decode cX12_verb 85 = .ok (.iconst 0, 1) := by decide +kernel
theorem dX12_verb_86 : decode cX12_verb 86 = .ok (.bipush 119, 2) := by decide +kernel
theorem dX12_verb_88 : decode cX12_verb 88 = .ok (.bipush 97, 2) := by decide +kernel
theorem dX12_verb_90 : decode cX12_verb 90 = .ok (.bipush 105, 2) := by decide +kernel
theorem dX12_verb_92 : decode cX12_verb 92 = .ok (.bipush 116, 2) := by decide +kernel
theorem dX12_verb_94 : decode cX12_verb 94 = .ok (.iconst 0, 1) := by decide +kernel
theorem dX12_verb_95 : decode cX12_verb 95 = .ok (.invokestatic 248, 3) := by decide +kernel
theorem dX12_verb_98 : decode cX12_verb 98 = .ok (.invokevirtual 252, 3) := by decide +kernel
theorem dX12_verb_101 : decode cX12_verb 101 = .ok (.ifCond .eq 8, 3) := by decide +kernel
theorem dX12_verb_104 : decode cX12_verb 104 = .ok (.bipush 11, 2) := by decide +kernel
theorem dX12_verb_106 : decode cX12_verb 106 = .ok (.goto 4, 3) := by decide +kernel
theorem dX12_verb_109 : decode cX12_verb 109 = .ok (.iconst 0, 1) := by decide +kernel
theorem dX12_verb_110 : decode cX12_verb 110 = .ok (.ireturn, 1) := by decide +kernel
theorem dX12_verb_111 : decode cX12_verb 111 = .ok (.aload_n 0, 1) := by decide +kernel
theorem dX12_verb_112 : decode cX12_verb 112 = .ok (.getfield 235, 3) := by decide +kernel
theorem dX12_verb_115 : decode cX12_verb 115 = .ok (.iconst 4, 1) := by decide +kernel
theorem dX12_verb_116 : decode cX12_verb 116 = .ok (.if_icmp .ne 47, 3) := by decide +kernel
theorem dX12_verb_119 : decode cX12_verb 119 = .ok (.aload_n 0, 1) := by decide +kernel
theorem dX12_verb_120 : decode cX12_verb 120 = .ok (.iconst 0, 1) := by decide +kernel
theorem dX12_verb_121 : decode cX12_verb 121 = .ok (.bipush 112, 2) := by decide +kernel
theorem dX12_verb_123 : decode cX12_verb 123 = .ok (.bipush 117, 2) := by decide +kernel
theorem dX12_verb_125 : decode cX12_verb 125 = .ok (.bipush 116, 2) := by decide +kernel
theorem dX12_verb_127 : decode cX12_verb 127 = .ok (.iconst 0, 1) := by decide +kernel
theorem dX12_verb_128 : decode cX12_verb 128 = .ok (.iconst 0, 1) := by decide +kernel
theorem dX12_verb_129 : decode cX12_verb 129 = .ok (.invokestatic 248, 3) := by decide +kernel
theorem dX12_verb_132 : decode cX12_verb 132 = .ok (.invokevirtual 252, 3) := by decide +kernel
theorem dX12_verb_135 : decode cX12_verb 135 = .ok (.ifCond .eq 26, 3) := by decide +kernel
theorem dX12_verb_138 : decode cX12_verb 138 = .ok (.aload_n 0, 1) := by decide +kernel
theorem dX12_verb_139 : decode cX12_verb 139 = .ok (.iconst 2, 1) := by decide +kernel
theorem dX12_verb_140 : decode cX12_verb 140 = .ok (.bipush 105, 2) := by decide +kernel
theorem dX12_verb_142 : decode cX12_verb 142 = .ok (.bipush 110, 2) := by decide +kernel
theorem dX12_verb_144 : decode cX12_verb 144 = .ok (.iconst 0, 1) := by decide +kernel
theorem dX12_verb_145 : decode cX12_verb 145 = .ok (.iconst 0, 1) := by decide +kernel
theorem dX12_verb_146 : decode cX12_verb 146 = .ok (.iconst 0, 1) := by decide +kernel
theorem dX12_verb_147 : decode cX12_verb 147 = .ok (.invokestatic 248, 3) := by decide +kernel
theorem dX12_verb_150 : decode cX12_verb 150 = .ok (.invokevirtual 252, 3) := by decide +kernel
theorem dX12_verb_153 : decode cX12_verb 153 = .ok (.ifCond .eq 8, 3) := by decide +kernel
theorem dX12_verb_156 : decode cX12_verb 156 = .ok (.bipush 9, 2) := by decide +kernel
theorem dX12_verb_158 : decode cX12_verb 158 = .ok (.goto 4, 3) := by decide +kernel
theorem dX12_verb_161 : decode cX12_verb 161 = .ok (.iconst 0, 1) := by decide +kernel
theorem dX12_verb_162 : decode cX12_verb 162 = .ok (.ireturn, 1) := by decide +kernel
theorem dX12_verb_163 : decode cX12_verb 163 = .ok (.aload_n 0, 1) := by decide +kernel
theorem dX12_verb_164 : decode cX12_verb 164 = .ok (.getfield 235, 3) := by decide +kernel
theorem dX12_verb_167 : decode cX12_verb 167 = .ok (.iconst 2, 1) := by decide +kernel
theorem dX12_verb_168 : decode cX12_verb 168 = .ok (.if_icmp .eq 5, 3) := by decide +kernel
theorem dX12_verb_171 : decode cX12_verb 171 = .ok (.iconst 0, 1) := by decide +kernel
theorem dX12_verb_172 : decode cX12_verb 172 = .ok (.ireturn, 1) := by decide +kernel
theorem dX12_verb_173 : decode cX12_verb 173 = .ok (.aload_n 0, 1) := by decide +kernel
theorem dX12_verb_174 : decode cX12_verb 174 = .ok (.iconst 0, 1) := by decide +kernel
theorem dX12_verb_175 : decode cX12_verb 175 = .ok (.bipush 103, 2) := by decide +kernel
theorem dX12_verb_177 : decode cX12_verb 177 = .ok (.bipush 111, 2) := by decide +kernel
theorem dX12_verb_179 : decode cX12_verb 179 = .ok (.iconst 0, 1) := by decide +kernel
theorem dX12_verb_180 : decode cX12_verb 180 = .ok (.iconst 0, 1) := by decide +kernel
theorem dX12_verb_181 : decode cX12_verb 181 = .ok (.iconst 0, 1) := by decide +kernel
theorem dX12_verb_182 : decode cX12_verb 182 = .ok (.invokestatic 248, 3) := by decide +kernel
theorem dX12_verb_185 : decode cX12_verb 185 = .ok (.invokevirtual 252, 3) := by decide +kernel
theorem dX12_verb_188 : decode cX12_verb 188 = .ok (.ifCond .eq 44, 3) := by decide +kernel
theorem dX12_verb_191 : decode cX12_verb 191 = .ok (.aload_n 0, 1) := by decide +kernel
theorem dX12_verb_192 : decode cX12_verb 192 = .ok (.getfield 103, 3) := by decide +kernel
theorem dX12_verb_195 : decode cX12_verb 195 = .ok (.iconst 1, 1) := by decide +kernel
theorem dX12_verb_196 : decode cX12_verb 196 = .ok (.iaload, 1) := by decide +kernel
theorem dX12_verb_197 : decode cX12_verb 197 = .ok (.aload_n 0, 1) := by decide +kernel
theorem dX12_verb_198 : decode cX12_verb 198 = .ok (.getfield 100, 3) := by decide +kernel
theorem dX12_verb_201 : decode cX12_verb 201 = .ok (.iconst 1, 1) := by decide +kernel
theorem dX12_verb_202 : decode cX12_verb 202 = .ok (.iaload, 1) := by decide +kernel
theorem dX12_verb_203 : decode cX12_verb 203 = .ok (.isub, 1) := by decide +kernel
theorem dX12_verb_204 : decode cX12_verb 204 = .ok (.iconst 1, 1) := by decide +kernel
theorem dX12_verb_205 : decode cX12_verb 205 = .ok (.if_icmp .ne 25, 3) := by decide +kernel
theorem dX12_verb_208 : decode cX12_verb 208 = .ok (.aload_n 0, 1) := by decide +kernel
theorem dX12_verb_209 : decode cX12_verb 209 = .ok (.getfield 7, 3) := by decide +kernel
theorem dX12_verb_212 : decode cX12_verb 212 = .ok (.aload_n 0, 1) := by decide +kernel
theorem dX12_verb_213 : decode cX12_verb 213 = .ok (.getfield 100, 3) := by decide +kernel
theorem dX12_verb_216 : decode cX12_verb 216 = .ok (.iconst 1, 1) := by decide +kernel
theorem dX12_verb_217 : decode cX12_verb 217 = .ok (.iaload, 1) := by decide +kernel
theorem dX12_verb_218 : decode cX12_verb 218 = .ok (.iaload, 1) := by decide +kernel
theorem dX12_verb_219 : decode cX12_verb 219 = .ok (.invokestatic 177, 3) := by decide +kernel
theorem dX12_verb_222 : decode cX12_verb 222 = .ok (.iconst (-1), 1) := by decide +kernel
theorem dX12_verb_223 : decode cX12_verb 223 = .ok (.if_icmp .eq 7, 3) := by decide +kernel
theorem dX12_verb_226 : decode cX12_verb 226 = .ok (.iconst 1, 1) := by decide +kernel
theorem dX12_verb_227 : decode cX12_verb 227 = .ok (.goto 4, 3) := by decide +kernel
theorem dX12_verb_230 : decode cX12_verb 230 = .ok (.iconst 0, 1) := by decide +kernel
theorem dX12_verb_231 : decode cX12_verb 231 = .ok (.ireturn, 1) := by decide +kernel
theorem dX12_verb_232 : decode cX12_verb 232 = .ok (.aload_n 0, 1) := by decide +kernel
theorem dX12_verb_233 : decode cX12_verb 233 = .ok (.iconst 0, 1) := by decide +kernel
theorem dX12_verb_234 : decode cX12_verb 234 = .ok (.bipush 116, 2) := by decide +kernel
theorem dX12_verb_236 : decode cX12_verb 236 = .ok (.bipush 97, 2) := by decide +kernel
theorem dX12_verb_238 : decode cX12_verb 238 = .ok (.bipush 107, 2) := by decide +kernel
theorem dX12_verb_240 : decode cX12_verb 240 = .ok (.bipush 101, 2) := by decide +kernel
theorem dX12_verb_242 : decode cX12_verb 242 = .ok (.iconst 0, 1) := by decide +kernel
theorem dX12_verb_243 : decode cX12_verb 243 = .ok (.invokestatic 248, 3) := by decide +kernel
theorem dX12_verb_246 : decode cX12_verb 246 = .ok (.invokevirtual 252, 3) := by decide +kernel
theorem dX12_verb_249 : decode cX12_verb 249 = .ok (.ifCond .eq 5, 3) := by decide +kernel
theorem dX12_verb_252 : decode cX12_verb 252 = .ok (.iconst 2, 1) := by decide +kernel
theorem dX12_verb_253 : decode cX12_verb 253 = .ok (.ireturn, 1) := by decide +kernel
theorem dX12_verb_254 : decode cX12_verb 254 = .ok (.aload_n 0, 1) := by decide +kernel
theorem dX12_verb_255 : decode cX12_verb 255 = .ok (.iconst 0, 1) := by decide +kernel
theorem dX12_verb_256 : decode cX12_verb 256 = .ok (.bipush 100, 2) := by decide +kernel
theorem dX12_verb_258 : decode cX12_verb 258 = .ok (.bipush 114, 2) := by decide +kernel
theorem dX12_verb_260 : decode cX12_verb 260 = .ok (.bipush 111, 2) := by decide +kernel
theorem dX12_verb_262 : decode cX12_verb 262 = .ok (.bipush 112, 2) := by decide +kernel
theorem dX12_verb_264 : decode cX12_verb 264 = .ok (.iconst 0, 1) := by decide +kernel
theorem dX12_verb_265 : decode cX12_verb 265 = .ok (.invokestatic 248, 3) := by decide +kernel
theorem dX12_verb_268 : decode cX12_verb 268 = .ok (.invokevirtual 252, 3) := by decide +kernel
theorem dX12_verb_271 : decode cX12_verb 271 = .ok (.ifCond .eq 5, 3) := by decide +kernel
theorem dX12_verb_274 : decode cX12_verb 274 = .ok (.iconst 3, 1) := by decide +kernel
theorem dX12_verb_275 : decode cX12_verb 275 = .ok (.ireturn, 1) := by decide +kernel
theorem dX12_verb_276 : decode cX12_verb 276 = .ok (.aload_n 0, 1) := by decide +kernel
theorem dX12_verb_277 : decode cX12_verb 277 = .ok (.iconst 0, 1) := by decide +kernel
theorem dX12_verb_278 : decode cX12_verb 278 = .ok (.bipush 111, 2) := by decide +kernel
theorem dX12_verb_280 : decode cX12_verb 280 = .ok (.bipush 112, 2) := by decide +kernel
theorem dX12_verb_282 : decode cX12_verb 282 = .ok (.bipush 101, 2) := by decide +kernel
theorem dX12_verb_284 : decode cX12_verb 284 = .ok (.bipush 110, 2) := by decide +kernel
theorem dX12_verb_286 : decode cX12_verb 286 = .ok (.iconst 0, 1) := by decide +kernel
theorem dX12_verb_287 : decode cX12_verb 287 = .ok (.invokestatic 248, 3) := by decide +kernel
theorem dX12_verb_290 : decode cX12_verb 290 = .ok (.invokevirtual 252, 3) := by decide +kernel
theorem dX12_verb_293 : decode cX12_verb 293 = .ok (.ifCond .eq 5, 3) := by decide +kernel
theorem dX12_verb_296 : decode cX12_verb 296 = .ok (.iconst 4, 1) := by decide +kernel
theorem dX12_verb_297 : decode cX12_verb 297 = .ok (.ireturn, 1) := by decide +kernel
theorem dX12_verb_298 : decode cX12_verb 298 = .ok (.aload_n 0, 1) := by decide +kernel
theorem dX12_verb_299 : decode cX12_verb 299 = .ok (.iconst 0, 1) := by decide +kernel
theorem dX12_verb_300 : decode cX12_verb 300 = .ok (.bipush 99, 2) := by decide +kernel
theorem dX12_verb_302 : decode cX12_verb 302 = .ok (.bipush 108, 2) := by decide +kernel
theorem dX12_verb_304 : decode cX12_verb 304 = .ok (.bipush 111, 2) := by decide +kernel
theorem dX12_verb_306 : decode cX12_verb 306 = .ok (.bipush 115, 2) := by decide +kernel
theorem dX12_verb_308 : decode cX12_verb 308 = .ok (.bipush 101, 2) := by decide +kernel
theorem dX12_verb_310 : decode cX12_verb 310 = .ok (.invokestatic 248, 3) := by decide +kernel
theorem dX12_verb_313 : decode cX12_verb 313 = .ok (.invokevirtual 252, 3) := by decide +kernel
theorem dX12_verb_316 : decode cX12_verb 316 = .ok (.ifCond .eq 5, 3) := by decide +kernel
theorem dX12_verb_319 : decode cX12_verb 319 = .ok (.iconst 5, 1) := by decide +kernel
theorem dX12_verb_320 : decode cX12_verb 320 = .ok (.ireturn, 1) := by decide +kernel
theorem dX12_verb_321 : decode cX12_verb 321 = .ok (.aload_n 0, 1) := by decide +kernel
theorem dX12_verb_322 : decode cX12_verb 322 = .ok (.iconst 0, 1) := by decide +kernel
theorem dX12_verb_323 : decode cX12_verb 323 = .ok (.bipush 108, 2) := by decide +kernel
theorem dX12_verb_325 : decode cX12_verb 325 = .ok (.bipush 105, 2) := by decide +kernel
theorem dX12_verb_327 : decode cX12_verb 327 = .ok (.bipush 103, 2) := by decide +kernel
theorem dX12_verb_329 : decode cX12_verb 329 = .ok (.bipush 104, 2) := by decide +kernel
theorem dX12_verb_331 : decode cX12_verb 331 = .ok (.bipush 116, 2) := by decide +kernel
theorem dX12_verb_333 : decode cX12_verb 333 = .ok (.invokestatic 248, 3) := by decide +kernel
theorem dX12_verb_336 : decode cX12_verb 336 = .ok (.invokevirtual 252, 3) := by decide +kernel
theorem dX12_verb_339 : decode cX12_verb 339 = .ok (.ifCond .eq 6, 3) := by decide +kernel
theorem dX12_verb_342 : decode cX12_verb 342 = .ok (.bipush 6, 2) := by decide +kernel
theorem dX12_verb_344 : decode cX12_verb 344 = .ok (.ireturn, 1) := by decide +kernel
theorem dX12_verb_345 : decode cX12_verb 345 = .ok (.aload_n 0, 1) := by decide +kernel
theorem dX12_verb_346 : decode cX12_verb 346 = .ok (.iconst 0, 1) := by decide +kernel
theorem dX12_verb_347 : decode cX12_verb 347 = .ok (.bipush 100, 2) := by decide +kernel
theorem dX12_verb_349 : decode cX12_verb 349 = .ok (.bipush 111, 2) := by decide +kernel
theorem dX12_verb_351 : decode cX12_verb 351 = .ok (.bipush 117, 2) := by decide +kernel
theorem dX12_verb_353 : decode cX12_verb 353 = .ok (.bipush 115, 2) := by decide +kernel
theorem dX12_verb_355 : decode cX12_verb 355 = .ok (.bipush 101, 2) := by decide +kernel
theorem dX12_verb_357 : decode cX12_verb 357 = .ok (.invokestatic 248, 3) := by decide +kernel
theorem dX12_verb_360 : decode cX12_verb 360 = .ok (.invokevirtual 252, 3) := by decide +kernel
theorem dX12_verb_363 : decode cX12_verb 363 = .ok (.ifCond .eq 6, 3) := by decide +kernel
theorem dX12_verb_366 : decode cX12_verb 366 = .ok (.bipush 7, 2) := by decide +kernel
theorem dX12_verb_368 : decode cX12_verb 368 = .ok (.ireturn, 1) := by decide +kernel
theorem dX12_verb_369 : decode cX12_verb 369 = .ok (.aload_n 0, 1) := by decide +kernel
theorem dX12_verb_370 : decode cX12_verb 370 = .ok (.iconst 0, 1) := by decide +kernel
theorem dX12_verb_371 : decode cX12_verb 371 = .ok (.bipush 108, 2) := by decide +kernel
theorem dX12_verb_373 : decode cX12_verb 373 = .ok (.bipush 111, 2) := by decide +kernel
theorem dX12_verb_375 : decode cX12_verb 375 = .ok (.bipush 111, 2) := by decide +kernel
theorem dX12_verb_377 : decode cX12_verb 377 = .ok (.bipush 107, 2) := by decide +kernel
theorem dX12_verb_379 : decode cX12_verb 379 = .ok (.iconst 0, 1) := by decide +kernel
theorem dX12_verb_380 : decode cX12_verb 380 = .ok (.invokestatic 248, 3) := by decide +kernel
theorem dX12_verb_383 : decode cX12_verb 383 = .ok (.invokevirtual 252, 3) := by decide +kernel
theorem dX12_verb_386 : decode cX12_verb 386 = .ok (.ifCond .eq 8, 3) := by decide +kernel
theorem dX12_verb_389 : decode cX12_verb 389 = .ok (.bipush 8, 2) := by decide +kernel
theorem dX12_verb_391 : decode cX12_verb 391 = .ok (.goto 4, 3) := by decide +kernel
theorem dX12_verb_394 : decode cX12_verb 394 = .ok (.iconst 0, 1) := by decide +kernel
theorem dX12_verb_395 : decode cX12_verb 395 = .ok (.ireturn, 1) := by decide +kernel
theorem dX12_thingAt_0 : decode cX12_thingAt 0 = .ok (.aload_n 0, 1) := by decide +kernel
theorem dX12_thingAt_1 : decode cX12_thingAt 1 = .ok (.aload_n 0, 1) := by decide +kernel
theorem dX12_thingAt_2 : decode cX12_thingAt 2 = .ok (.getfield 100, 3) := by decide +kernel
theorem dX12_thingAt_5 : decode cX12_thingAt 5 = .ok (.iload_n 1, 1) := by decide +kernel
theorem dX12_thingAt_6 : decode cX12_thingAt 6 = .ok (.iaload, 1) := by decide +kernel
theorem dX12_thingAt_7 : decode cX12_thingAt 7 = .ok (.aload_n 0, 1) := by decide +kernel
theorem dX12_thingAt_8 : decode cX12_thingAt 8 = .ok (.getfield 103, 3) := by decide +kernel
theorem dX12_thingAt_11 : decode cX12_thingAt 11 = .ok (.iload_n 1, 1) := by decide +kernel
theorem dX12_thingAt_12 : decode cX12_thingAt 12 = .ok (.iaload, 1) := by decide +kernel
theorem dX12_thingAt_13 : decode cX12_thingAt 13 = .ok (.invokevirtual 153, 3) := by decide +kernel
theorem dX12_thingAt_16 : decode cX12_thingAt 16 = .ok (.istore_n 2, 1) := by decide +kernel
theorem dX12_thingAt_17 : decode cX12_thingAt 17 = .ok (.iload_n 2, 1) := by decide +kernel
theorem dX12_thingAt_18 : decode cX12_thingAt 18 = .ok (.iconst (-1), 1) := by decide +kernel
theorem dX12_thingAt_19 : decode cX12_thingAt 19 = .ok (.if_icmp .eq 18, 3) := by decide +kernel
theorem dX12_thingAt_22 : decode cX12_thingAt 22 = .ok (.aload_n 0, 1) := by decide +kernel
theorem dX12_thingAt_23 : decode cX12_thingAt 23 = .ok (.aload_n 0, 1) := by decide +kernel
theorem dX12_thingAt_24 : decode cX12_thingAt 24 = .ok (.getfield 210, 3) := by decide +kernel
theorem dX12_thingAt_27 : decode cX12_thingAt 27 = .ok (.invokevirtual 231, 3) := by decide +kernel
theorem dX12_thingAt_30 : decode cX12_thingAt 30 = .ok (.iload_n 2, 1) := by decide +kernel
theorem dX12_thingAt_31 : decode cX12_thingAt 31 = .ok (.invokestatic 131, 3) := by decide +kernel
theorem dX12_thingAt_34 : decode cX12_thingAt 34 = .ok (.ifCond .ne 5, 3) := by decide +kernel
theorem dX12_thingAt_37 : decode cX12_thingAt 37 = .ok (.iconst (-1), 1) := by decide +kernel
theorem dX12_thingAt_38 : decode cX12_thingAt 38 = .ok (.ireturn, 1) := by decide +kernel
theorem dX12_thingAt_39 : decode cX12_thingAt 39 = .ok (.aload_n 0, 1) := by decide +kernel
theorem dX12_thingAt_40 : decode cX12_thingAt 40 = .ok (.iload_n 2, 1) := by decide +kernel
theorem dX12_thingAt_41 : decode cX12_thingAt 41 = .ok (.invokevirtual 184, 3) := by decide +kernel
theorem dX12_thingAt_44 : decode cX12_thingAt 44 = .ok (.istore_n 3, 1) := by decide +kernel
theorem dX12_thingAt_45 : decode cX12_thingAt 45 = .ok (.iload_n 3, 1) := by decide +kernel
theorem dX12_thingAt_46 : decode cX12_thingAt 46 = .ok (.iconst (-1), 1) := by decide +kernel
theorem dX12_thingAt_47 : decode cX12_thingAt 47 = .ok (.if_icmp .ne 8, 3) := by decide +kernel
theorem dX12_thingAt_50 : decode cX12_thingAt 50 = .ok (.bipush (-2), 2) := by decide +kernel
theorem dX12_thingAt_52 : decode cX12_thingAt 52 = .ok (.goto 4, 3) := by decide +kernel
theorem dX12_thingAt_55 : decode cX12_thingAt 55 = .ok (.iload_n 3, 1) := by decide +kernel
theorem dX12_thingAt_56 : decode cX12_thingAt 56 = .ok (.ireturn, 1) := by decide +kernel
theorem dX12_isFree_0 : decode cX12_isFree 0 = .ok (.bipush 6, 2) := by decide +kernel
theorem dX12_isFree_2 : decode cX12_isFree 2 = .ok (.iload_n 1, 1) := by decide +kernel
theorem dX12_isFree_3 : decode cX12_isFree 3 = .ok (.imul, 1) := by decide +kernel
theorem dX12_isFree_4 : decode cX12_isFree 4 = .ok (.iload_n 2, 1) := by decide +kernel
theorem dX12_isFree_5 : decode cX12_isFree 5 = .ok (.iadd, 1) := by decide +kernel
theorem dX12_isFree_6 : decode cX12_isFree 6 = .ok (.istore_n 3, 1) := by decide +kernel
theorem dX12_isFree_7 : decode cX12_isFree 7 = .ok (.aload_n 0, 1) := by decide +kernel
theorem dX12_isFree_8 : decode cX12_isFree 8 = .ok (.getfield 24, 3) := by decide +kernel
theorem dX12_isFree_11 : decode cX12_isFree 11 = .ok (.iload_n 3, 1) := by decide +kernel
theorem dX12_isFree_12 : decode cX12_isFree 12 = .ok (.iaload, 1) := by decide +kernel
theorem dX12_isFree_13 : decode cX12_isFree 13 = .ok (.iconst (-1), 1) := by decide +kernel
theorem dX12_isFree_14 : decode cX12_isFree 14 = .ok (.if_icmp .eq 33, 3) := by decide +kernel
theorem dX12_isFree_17 : decode cX12_isFree 17 = .ok (.aload_n 0, 1) := by decide +kernel
theorem dX12_isFree_18 : decode cX12_isFree 18 = .ok (.getfield 27, 3) := by decide +kernel
theorem dX12_isFree_21 : decode cX12_isFree 21 = .ok (.iload_n 3, 1) := by decide +kernel
theorem dX12_isFree_22 : decode cX12_isFree 22 = .ok (.iaload, 1) := by decide +kernel
theorem dX12_isFree_23 : decode cX12_isFree 23 = .ok (.iconst (-1), 1) := by decide +kernel
theorem dX12_isFree_24 : decode cX12_isFree 24 = .ok (.if_icmp .eq 19, 3) := by decide +kernel
theorem dX12_isFree_27 : decode cX12_isFree 27 = .ok (.aload_n 0, 1) := by decide +kernel
theorem dX12_isFree_28 : decode cX12_isFree 28 = .ok (.getfield 91, 3) := by decide +kernel
theorem dX12_isFree_31 : decode cX12_isFree 31 = .ok (.aload_n 0, 1) := by decide +kernel
theorem dX12_isFree_32 : decode cX12_isFree 32 = .ok (.getfield 27, 3) := by decide +kernel
theorem dX12_isFree_35 : decode cX12_isFree 35 = .ok (.iload_n 3, 1) := by decide +kernel
theorem dX12_isFree_36 : decode cX12_isFree 36 = .ok (.iaload, 1) := by decide +kernel
theorem dX12_isFree_37 : decode cX12_isFree 37 = .ok (.iaload, 1) := by decide +kernel
theorem dX12_isFree_38 : decode cX12_isFree 38 = .ok (.bipush 100, 2) := by decide +kernel
theorem dX12_isFree_40 : decode cX12_isFree 40 = .ok (.if_icmp .ne 7, 3) := by decide +kernel
theorem dX12_isFree_43 : decode cX12_isFree 43 = .ok (.iconst 1, 1) := by decide +kernel
theorem dX12_isFree_44 : decode cX12_isFree 44 = .ok (.goto 4, 3) := by decide +kernel
theorem dX12_isFree_47 : decode cX12_isFree 47 = .ok (.iconst 0, 1) := by decide +kernel
theorem dX12_isFree_48 : decode cX12_isFree 48 = .ok (.ireturn, 1) := by decide +kernel
theorem dX12_canDo_0 : decode cX12_canDo 0 = .ok (.iload_n 1, 1) := by decide +kernel
theorem dX12_canDo_1 : decode cX12_canDo 1 = .ok (.iconst 1, 1) := by decide +kernel
theorem dX12_canDo_2 : decode cX12_canDo 2 = .ok (.if_icmp .ne 55, 3) := by decide +kernel
theorem dX12_canDo_5 : decode cX12_canDo 5 = .ok (.aload_n 0, 1) := by decide +kernel
theorem dX12_canDo_6 : decode cX12_canDo 6 = .ok (.getfield 7, 3) := by decide +kernel
theorem dX12_canDo_9 : decode cX12_canDo 9 = .ok (.aload_n 0, 1) := by decide +kernel
theorem dX12_canDo_10 : decode cX12_canDo 10 = .ok (.getfield 100, 3) := by decide +kernel
theorem dX12_canDo_13 : decode cX12_canDo 13 = .ok (.iconst 1, 1) := by decide +kernel
theorem dX12_canDo_14 : decode cX12_canDo 14 = .ok (.iaload, 1) := by decide +kernel
theorem dX12_canDo_15 : decode cX12_canDo 15 = .ok (.iaload, 1) := by decide +kernel
theorem dX12_canDo_16 : decode cX12_canDo 16 = .ok (.invokestatic 177, 3) := by decide +kernel
theorem dX12_canDo_19 : decode cX12_canDo 19 = .ok (.istore 4, 2) := by decide +kernel
theorem dX12_canDo_21 : decode cX12_canDo 21 = .ok (.aload_n 0, 1) := by decide +kernel
theorem dX12_canDo_22 : decode cX12_canDo 22 = .ok (.aload_n 0, 1) := by decide +kernel
theorem dX12_canDo_23 : decode cX12_canDo 23 = .ok (.getfield 190, 3) := by decide +kernel
theorem dX12_canDo_26 : decode cX12_canDo 26 = .ok (.iload 4, 2) := by decide +kernel
theorem dX12_canDo_28 : decode cX12_canDo 28 = .ok (.invokevirtual 256, 3) := by decide +kernel
theorem dX12_canDo_31 : decode cX12_canDo 31 = .ok (.ifCond .ne 5, 3) := by decide +kernel
theorem dX12_canDo_34 : decode cX12_canDo 34 = .ok (.iconst 0, 1) := by decide +kernel
theorem dX12_canDo_35 : decode cX12_canDo 35 = .ok (.ireturn, 1) := by decide +kernel
theorem dX12_canDo_36 : decode cX12_canDo 36 = .ok (.aload_n 0, 1) := by decide +kernel
theorem dX12_canDo_37 : decode cX12_canDo 37 = .ok (.aload_n 0, 1) := by decide +kernel
theorem dX12_canDo_38 : decode cX12_canDo 38 = .ok (.getfield 24, 3) := by decide +kernel
theorem dX12_canDo_41 : decode cX12_canDo 41 = .ok (.bipush 6, 2) := by decide +kernel
theorem dX12_canDo_43 : decode cX12_canDo 43 = .ok (.aload_n 0, 1) := by decide +kernel
theorem dX12_canDo_44 : decode cX12_canDo 44 = .ok (.getfield 190, 3) := by decide +kernel
theorem dX12_canDo_47 : decode cX12_canDo 47 = .ok (.imul, 1) := by decide +kernel
theorem dX12_canDo_48 : decode cX12_canDo 48 = .ok (.iload 4, 2) := by decide +kernel
theorem dX12_canDo_50 : decode cX12_canDo 50 = .ok (.iadd, 1) := by decide +kernel
theorem dX12_canDo_51 : decode cX12_canDo 51 = .ok (.iaload, 1) := by decide +kernel
theorem dX12_canDo_52 : decode cX12_canDo 52 = .ok (.putfield 190, 3) := by decide +kernel
theorem dX12_canDo_55 : decode cX12_canDo 55 = .ok (.iconst 1, 1) := by decide +kernel
theorem dX12_canDo_56 : decode cX12_canDo 56 = .ok (.ireturn, 1) := by decide +kernel
theorem dX12_canDo_57 : decode cX12_canDo 57 = .ok (.iload_n 1, 1) := by decide +kernel
theorem dX12_canDo_58 : decode cX12_canDo 58 = .ok (.bipush 10, 2) := by decide +kernel
theorem dX12_canDo_60 : decode cX12_canDo 60 = .ok (.if_icmp .lt 5, 3) := by decide +kernel
theorem dX12_canDo_63 : decode cX12_canDo 63 = .ok (.iconst 1, 1) := by decide +kernel
theorem dX12_canDo_64 : decode cX12_canDo 64 = .ok (.ireturn, 1) := by decide +kernel
theorem dX12_canDo_65 : decode cX12_canDo 65 = .ok (.iload_n 2, 1) := by decide +kernel
theorem dX12_canDo_66 : decode cX12_canDo 66 = .ok (.ifCond .lt 11, 3) := by decide +kernel
theorem dX12_canDo_69 : decode cX12_canDo 69 = .ok (.aload_n 0, 1) := by decide +kernel
theorem dX12_canDo_70 : decode cX12_canDo 70 = .ok (.iload_n 2, 1) := by decide +kernel
theorem dX12_canDo_71 : decode cX12_canDo 71 = .ok (.invokevirtual 259, 3) := by decide +kernel
theorem dX12_canDo_74 : decode cX12_canDo 74 = .ok (.ifCond .ne 5, 3) := by decide +kernel
theorem dX12_canDo_77 : decode cX12_canDo 77 = .ok (.iconst 0, 1) := by decide +kernel
theorem dX12_canDo_78 : decode cX12_canDo 78 = .ok (.ireturn, 1) := by decide +kernel
theorem dX12_canDo_79 : decode cX12_canDo 79 = .ok (.iload_n 1, 1) := by decide +kernel
theorem dX12_canDo_80 : decode cX12_canDo 80 = .ok (.bipush 8, 2) := by decide +kernel
theorem dX12_canDo_82 : decode cX12_canDo 82 = .ok (.if_icmp .ne 15, 3) := by decide +kernel
theorem dX12_canDo_85 : decode cX12_canDo 85 = .ok (.aload_n 0, 1) := by decide +kernel
theorem dX12_canDo_86 : decode cX12_canDo 86 = .ok (.aload_n 0, 1) := by decide +kernel
theorem dX12_canDo_87 : decode cX12_canDo 87 = .ok (.getfield 46, 3) := by decide +kernel
theorem dX12_canDo_90 : decode cX12_canDo 90 = .ok (.iload_n 2, 1) := by decide +kernel
theorem dX12_canDo_91 : decode cX12_canDo 91 = .ok (.laload, 1) := by decide +kernel
theorem dX12_canDo_92 : decode cX12_canDo 92 = .ok (.putfield 193, 3) := by decide +kernel
theorem dX12_canDo_95 : decode cX12_canDo 95 = .ok (.iconst 1, 1) := by decide +kernel
theorem dX12_canDo_96 : decode cX12_canDo 96 = .ok (.ireturn, 1) := by decide +kernel
theorem dX12_canDo_97 : decode cX12_canDo 97 = .ok (.iload_n 1, 1) := by decide +kernel
theorem dX12_canDo_98 : decode cX12_canDo 98 = .ok (.iconst 2, 1) := by decide +kernel
theorem dX12_canDo_99 : decode cX12_canDo 99 = .ok (.if_icmp .ne 36, 3) := by decide +kernel
theorem dX12_canDo_102 : decode cX12_canDo 102 = .ok (.aload_n 0, 1) := by decide +kernel
theorem dX12_canDo_103 : decode cX12_canDo 103 = .ok (.getfield 91, 3) := by decide +kernel
theorem dX12_canDo_106 : decode cX12_canDo 106 = .ok (.iload_n 2, 1) := by decide +kernel
theorem dX12_canDo_107 : decode cX12_canDo 107 = .ok (.iaload, 1) := by decide +kernel
theorem dX12_canDo_108 : decode cX12_canDo 108 = .ok (.bipush 100, 2) := by decide +kernel
theorem dX12_canDo_110 : decode cX12_canDo 110 = .ok (.if_icmp .eq 13, 3) := by decide +kernel
theorem dX12_canDo_113 : decode cX12_canDo 113 = .ok (.aload_n 0, 1) := by decide +kernel
theorem dX12_canDo_114 : decode cX12_canDo 114 = .ok (.iload_n 2, 1) := by decide +kernel
theorem dX12_canDo_115 : decode cX12_canDo 115 = .ok (.invokevirtual 262, 3) := by decide +kernel
theorem dX12_canDo_118 : decode cX12_canDo 118 = .ok (.bipush 12, 2) := by decide +kernel
theorem dX12_canDo_120 : decode cX12_canDo 120 = .ok (.if_icmp .le 5, 3) := by decide +kernel
theorem dX12_canDo_123 : decode cX12_canDo 123 = .ok (.iconst 0, 1) := by decide +kernel
theorem dX12_canDo_124 : decode cX12_canDo 124 = .ok (.ireturn, 1) := by decide +kernel
theorem dX12_canDo_125 : decode cX12_canDo 125 = .ok (.aload_n 0, 1) := by decide +kernel
theorem dX12_canDo_126 : decode cX12_canDo 126 = .ok (.getfield 91, 3) := by decide +kernel
theorem dX12_canDo_129 : decode cX12_canDo 129 = .ok (.iload_n 2, 1) := by decide +kernel
theorem dX12_canDo_130 : decode cX12_canDo 130 = .ok (.bipush 100, 2) := by decide +kernel
theorem dX12_canDo_132 : decode cX12_canDo 132 = .ok (.iastore, 1) := by decide +kernel
theorem dX12_canDo_133 : decode cX12_canDo 133 = .ok (.iconst 1, 1) := by decide +kernel
theorem dX12_canDo_134 : decode cX12_canDo 134 = .ok (.ireturn, 1) := by decide +kernel
theorem dX12_canDo_135 : decode cX12_canDo 135 = .ok (.iload_n 1, 1) := by decide +kernel
theorem dX12_canDo_136 : decode cX12_canDo 136 = .ok (.iconst 3, 1) := by decide +kernel
theorem dX12_canDo_137 : decode cX12_canDo 137 = .ok (.if_icmp .ne 28, 3) := by decide +kernel
theorem dX12_canDo_140 : decode cX12_canDo 140 = .ok (.aload_n 0, 1) := by decide +kernel
theorem dX12_canDo_141 : decode cX12_canDo 141 = .ok (.getfield 91, 3) := by decide +kernel
theorem dX12_canDo_144 : decode cX12_canDo 144 = .ok (.iload_n 2, 1) := by decide +kernel
theorem dX12_canDo_145 : decode cX12_canDo 145 = .ok (.iaload, 1) := by decide +kernel
theorem dX12_canDo_146 : decode cX12_canDo 146 = .ok (.bipush 100, 2) := by decide +kernel
theorem dX12_canDo_148 : decode cX12_canDo 148 = .ok (.if_icmp .eq 5, 3) := by decide +kernel
theorem dX12_canDo_151 : decode cX12_canDo 151 = .ok (.iconst 0, 1) := by decide +kernel
theorem dX12_canDo_152 : decode cX12_canDo 152 = .ok (.ireturn, 1) := by decide +kernel
theorem dX12_canDo_153 : decode cX12_canDo 153 = .ok (.aload_n 0, 1) := by decide +kernel
theorem dX12_canDo_154 : decode cX12_canDo 154 = .ok (.getfield 91, 3) := by decide +kernel
theorem dX12_canDo_157 : decode cX12_canDo 157 = .ok (.iload_n 2, 1) := by decide +kernel
theorem dX12_canDo_158 : decode cX12_canDo 158 = .ok (.aload_n 0, 1) := by decide +kernel
theorem dX12_canDo_159 : decode cX12_canDo 159 = .ok (.getfield 190, 3) := by decide +kernel
theorem dX12_canDo_162 : decode cX12_canDo 162 = .ok (.iastore, 1) := by decide +kernel
theorem dX12_canDo_163 : decode cX12_canDo 163 = .ok (.iconst 1, 1) := by decide +kernel
theorem dX12_canDo_164 : decode cX12_canDo 164 = .ok (.ireturn, 1) := by decide +kernel
theorem dX12_canDo_165 : decode cX12_canDo 165 = .ok (.iload_n 1, 1) := by decide +kernel
theorem dX12_canDo_166 : decode cX12_canDo 166 = .ok (.bipush 9, 2) := by decide +kernel
theorem dX12_canDo_168 : decode cX12_canDo 168 = .ok (.if_icmp .ne 81, 3) := by decide +kernel
theorem dX12_canDo_171 : decode cX12_canDo 171 = .ok (.iload_n 3, 1) := by decide +kernel
theorem dX12_canDo_172 : decode cX12_canDo 172 = .ok (.ifCond .lt 62, 3) := by decide +kernel
theorem dX12_canDo_175 : decode cX12_canDo 175 = .ok (.aload_n 0, 1) := by decide +kernel
theorem dX12_canDo_176 : decode cX12_canDo 176 = .ok (.iload_n 3, 1) := by decide +kernel
theorem dX12_canDo_177 : decode cX12_canDo 177 = .ok (.invokevirtual 259, 3) := by decide +kernel
theorem dX12_canDo_180 : decode cX12_canDo 180 = .ok (.ifCond .eq 54, 3) := by decide +kernel
theorem dX12_canDo_183 : decode cX12_canDo 183 = .ok (.aload_n 0, 1) := by decide +kernel
theorem dX12_canDo_184 : decode cX12_canDo 184 = .ok (.getfield 91, 3) := by decide +kernel
theorem dX12_canDo_187 : decode cX12_canDo 187 = .ok (.iload_n 2, 1) := by decide +kernel
theorem dX12_canDo_188 : decode cX12_canDo 188 = .ok (.iaload, 1) := by decide +kernel
theorem dX12_canDo_189 : decode cX12_canDo 189 = .ok (.bipush 100, 2) := by decide +kernel
theorem dX12_canDo_191 : decode cX12_canDo 191 = .ok (.if_icmp .ne 43, 3) := by decide +kernel
theorem dX12_canDo_194 : decode cX12_canDo 194 = .ok (.aload_n 0, 1) := by decide +kernel
theorem dX12_canDo_195 : decode cX12_canDo 195 = .ok (.getfield 39, 3) := by decide +kernel
theorem dX12_canDo_198 : decode cX12_canDo 198 = .ok (.iload_n 2, 1) := by decide +kernel
theorem dX12_canDo_199 : decode cX12_canDo 199 = .ok (.caload, 1) := by decide +kernel
theorem dX12_canDo_200 : decode cX12_canDo 200 = .ok (.bipush 98, 2) := by decide +kernel
theorem dX12_canDo_202 : decode cX12_canDo 202 = .ok (.if_icmp .eq 32, 3) := by decide +kernel
theorem dX12_canDo_205 : decode cX12_canDo 205 = .ok (.aload_n 0, 1) := by decide +kernel
theorem dX12_canDo_206 : decode cX12_canDo 206 = .ok (.getfield 39, 3) := by decide +kernel
theorem dX12_canDo_209 : decode cX12_canDo 209 = .ok (.iload_n 3, 1) := by decide +kernel
theorem dX12_canDo_210 : decode cX12_canDo 210 = .ok (.caload, 1) := by decide +kernel
theorem dX12_canDo_211 : decode cX12_canDo 211 = .ok (.bipush 98, 2) := by decide +kernel
theorem dX12_canDo_213 : decode cX12_canDo 213 = .ok (.if_icmp .ne 21, 3) := by decide +kernel
theorem dX12_canDo_216 : decode cX12_canDo 216 = .ok (.aload_n 0, 1) := by decide +kernel
theorem dX12_canDo_217 : decode cX12_canDo 217 = .ok (.getfield 94, 3) := by decide +kernel
theorem dX12_canDo_220 : decode cX12_canDo 220 = .ok (.iload_n 3, 1) := by decide +kernel
theorem dX12_canDo_221 : decode cX12_canDo 221 = .ok (.baload, 1) := by decide +kernel
theorem dX12_canDo_222 : decode cX12_canDo 222 = .ok (.ifCond .eq 12, 3) := by decide +kernel
theorem dX12_canDo_225 : decode cX12_canDo 225 = .ok (.aload_n 0, 1) := by decide +kernel
theorem dX12_canDo_226 : decode cX12_canDo 226 = .ok (.iload_n 3, 1) := by decide +kernel
theorem dX12_canDo_227 : decode cX12_canDo 227 = .ok (.invokevirtual 265, 3) := by decide +kernel
theorem dX12_canDo_230 : decode cX12_canDo 230 = .ok (.iconst 2, 1) := by decide +kernel
theorem dX12_canDo_231 : decode cX12_canDo 231 = .ok (.if_icmp .le 5, 3) := by decide +kernel
theorem dX12_canDo_234 : decode cX12_canDo 234 = .ok (.iconst 0, 1) := by decide +kernel
theorem dX12_canDo_235 : decode cX12_canDo 235 = .ok (.ireturn, 1) := by decide +kernel
theorem dX12_canDo_236 : decode cX12_canDo 236 = .ok (.aload_n 0, 1) := by decide +kernel
theorem dX12_canDo_237 : decode cX12_canDo 237 = .ok (.getfield 91, 3) := by decide +kernel
theorem dX12_canDo_240 : decode cX12_canDo 240 = .ok (.iload_n 2, 1) := by decide +kernel
theorem dX12_canDo_241 : decode cX12_canDo 241 = .ok (.sipush 200, 3) := by decide +kernel
theorem dX12_canDo_244 : decode cX12_canDo 244 = .ok (.iload_n 3, 1) := by decide +kernel
theorem dX12_canDo_245 : decode cX12_canDo 245 = .ok (.iadd, 1) := by decide +kernel
theorem dX12_canDo_246 : decode cX12_canDo 246 = .ok (.iastore, 1) := by decide +kernel
theorem dX12_canDo_247 : decode cX12_canDo 247 = .ok (.iconst 1, 1) := by decide +kernel
theorem dX12_canDo_248 : decode cX12_canDo 248 = .ok (.ireturn, 1) := by decide +kernel
theorem dX12_canDo_249 : decode cX12_canDo 249 = .ok (.iload_n 1, 1) := by decide +kernel
theorem dX12_canDo_250 : decode cX12_canDo 250 = .ok (.iconst 4, 1) := by decide +kernel
theorem dX12_canDo_251 : decode cX12_canDo 251 = .ok (.if_icmp .eq 9, 3) := by decide +kernel
theorem dX12_canDo_254 : decode cX12_canDo 254 = .ok (.iload_n 1, 1) := by decide +kernel
theorem dX12_canDo_255 : decode cX12_canDo 255 = .ok (.bipush 6, 2) := by decide +kernel
theorem dX12_canDo_257 : decode cX12_canDo 257 = .ok (.if_icmp .ne 7, 3) := by decide +kernel
theorem dX12_canDo_260 : decode cX12_canDo 260 = .ok (.iconst 1, 1) := by decide +kernel
theorem dX12_canDo_261 : decode cX12_canDo 261 = .ok (.goto 4, 3) := by decide +kernel
theorem dX12_canDo_264 : decode cX12_canDo 264 = .ok (.iconst 0, 1) := by decide +kernel
theorem dX12_canDo_265 : decode cX12_canDo 265 = .ok (.istore 4, 2) := by decide +kernel
theorem dX12_canDo_267 : decode cX12_canDo 267 = .ok (.aload_n 0, 1) := by decide +kernel
theorem dX12_canDo_268 : decode cX12_canDo 268 = .ok (.getfield 39, 3) := by decide +kernel
theorem dX12_canDo_271 : decode cX12_canDo 271 = .ok (.iload_n 2, 1) := by decide +kernel
theorem dX12_canDo_272 : decode cX12_canDo 272 = .ok (.caload, 1) := by decide +kernel
theorem dX12_canDo_273 : decode cX12_canDo 273 = .ok (.iload_n 1, 1) := by decide +kernel
theorem dX12_canDo_274 : decode cX12_canDo 274 = .ok (.bipush 6, 2) := by decide +kernel
theorem dX12_canDo_276 : decode cX12_canDo 276 = .ok (.if_icmp .ge 8, 3) := by decide +kernel
theorem dX12_canDo_279 : decode cX12_canDo 279 = .ok (.bipush 98, 2) := by decide +kernel
theorem dX12_canDo_281 : decode cX12_canDo 281 = .ok (.goto 5, 3) := by decide +kernel
theorem dX12_canDo_284 : decode cX12_canDo 284 = .ok (.bipush 108, 2) := by decide +kernel
theorem dX12_canDo_286 : decode cX12_canDo 286 = .ok (.if_icmp .ne 29, 3) := by decide +kernel
theorem dX12_canDo_289 : decode cX12_canDo 289 = .ok (.aload_n 0, 1) := by decide +kernel
theorem dX12_canDo_290 : decode cX12_canDo 290 = .ok (.getfield 94, 3) := by decide +kernel
theorem dX12_canDo_293 : decode cX12_canDo 293 = .ok (.iload_n 2, 1) := by decide +kernel
theorem dX12_canDo_294 : decode cX12_canDo 294 = .ok (.baload, 1) := by decide +kernel
theorem dX12_canDo_295 : decode cX12_canDo 295 = .ok (.iload 4, 2) := by decide +kernel
theorem dX12_canDo_297 : decode cX12_canDo 297 = .ok (.if_icmp .eq 18, 3) := by decide +kernel
theorem dX12_canDo_300 : decode cX12_canDo 300 = .ok (.iload_n 1, 1) := by decide +kernel
theorem dX12_canDo_301 : decode cX12_canDo 301 = .ok (.bipush 6, 2) := by decide +kernel
theorem dX12_canDo_303 : decode cX12_canDo 303 = .ok (.if_icmp .ne 14, 3) := by decide +kernel
theorem dX12_canDo_306 : decode cX12_canDo 306 = .ok (.aload_n 0, 1) := by decide +kernel
theorem dX12_canDo_307 : decode cX12_canDo 307 = .ok (.getfield 97, 3) := by decide +kernel
theorem dX12_canDo_310 : decode cX12_canDo 310 = .ok (.iload_n 2, 1) := by decide +kernel
theorem dX12_canDo_311 : decode cX12_canDo 311 = .ok (.iaload, 1) := by decide +kernel
theorem dX12_canDo_312 : decode cX12_canDo 312 = .ok (.ifCond .ne 5, 3) := by decide +kernel
theorem dX12_canDo_315 : decode cX12_canDo 315 = .ok (.iconst 0, 1) := by decide +kernel
theorem dX12_canDo_316 : decode cX12_canDo 316 = .ok (.ireturn, 1) := by decide +kernel
theorem dX12_canDo_317 : decode cX12_canDo 317 = .ok (.aload_n 0, 1) := by decide +kernel
theorem dX12_canDo_318 : decode cX12_canDo 318 = .ok (.getfield 94, 3) := by decide +kernel
theorem dX12_canDo_321 : decode cX12_canDo 321 = .ok (.iload_n 2, 1) := by decide +kernel
theorem dX12_canDo_322 : decode cX12_canDo 322 = .ok (.iload 4, 2) := by decide +kernel
theorem dX12_canDo_324 : decode cX12_canDo 324 = .ok (.bastore, 1) := by decide +kernel
theorem dX12_canDo_325 : decode cX12_canDo 325 = .ok (.iconst 1, 1) := by decide +kernel
theorem dX12_canDo_326 : decode cX12_canDo 326 = .ok (.ireturn, 1) := by decide +kernel
theorem dX12_say_0 : decode cX12_say 0 = .ok (.aload_n 0, 1) := by decide +kernel
theorem dX12_say_1 : decode cX12_say 1 = .ok (.aload_n 0, 1) := by decide +kernel
theorem dX12_say_2 : decode cX12_say 2 = .ok (.getfield 163, 3) := by decide +kernel
theorem dX12_say_5 : decode cX12_say 5 = .ok (.ifCond .eq 7, 3) := by decide +kernel
theorem dX12_say_8 : decode cX12_say 8 = .ok (.iconst 0, 1) := by decide +kernel
theorem dX12_say_9 : decode cX12_say 9 = .ok (.goto 4, 3) := by decide +kernel
theorem dX12_say_12 : decode cX12_say 12 = .ok (.iconst 1, 1) := by decide +kernel
theorem dX12_say_13 : decode cX12_say 13 = .ok (.invokevirtual 142, 3) := by decide +kernel
theorem dX12_say_16 : decode cX12_say 16 = .ok (.ifCond .eq 5, 3) := by decide +kernel
theorem dX12_say_19 : decode cX12_say 19 = .ok (.iconst 0, 1) := by decide +kernel
theorem dX12_say_20 : decode cX12_say 20 = .ok (.ireturn, 1) := by decide +kernel
theorem dX12_say_21 : decode cX12_say 21 = .ok (.aload_n 0, 1) := by decide +kernel
theorem dX12_say_22 : decode cX12_say 22 = .ok (.invokevirtual 268, 3) := by decide +kernel
theorem dX12_say_25 : decode cX12_say 25 = .ok (.istore_n 1, 1) := by decide +kernel
theorem dX12_say_26 : decode cX12_say 26 = .ok (.bipush 111, 2) := by decide +kernel
theorem dX12_say_28 : decode cX12_say 28 = .ok (.istore_n 2, 1) := by decide +kernel
theorem dX12_say_29 : decode cX12_say 29 = .ok (.aload_n 0, 1) := by decide +kernel
theorem dX12_say_30 : decode cX12_say 30 = .ok (.aload_n 0, 1) := by decide +kernel
theorem dX12_say_31 : decode cX12_say 31 = .ok (.getfield 210, 3) := by decide +kernel
theorem dX12_say_34 : decode cX12_say 34 = .ok (.invokevirtual 271, 3) := by decide +kernel
theorem dX12_say_37 : decode cX12_say 37 = .ok (.iload_n 1, 1) := by decide +kernel
theorem dX12_say_38 : decode cX12_say 38 = .ok (.bipush 9, 2) := by decide +kernel
theorem dX12_say_40 : decode cX12_say 40 = .ok (.if_icmp .eq 14, 3) := by decide +kernel
theorem dX12_say_43 : decode cX12_say 43 = .ok (.iload_n 1, 1) := by decide +kernel
theorem dX12_say_44 : decode cX12_say 44 = .ok (.iconst 1, 1) := by decide +kernel
theorem dX12_say_45 : decode cX12_say 45 = .ok (.if_icmp .le 17, 3) := by decide +kernel
theorem dX12_say_48 : decode cX12_say 48 = .ok (.iload_n 1, 1) := by decide +kernel
theorem dX12_say_49 : decode cX12_say 49 = .ok (.bipush 9, 2) := by decide +kernel
theorem dX12_say_51 : decode cX12_say 51 = .ok (.if_icmp .ge 11, 3) := by decide +kernel
theorem dX12_say_54 : decode cX12_say 54 = .ok (.aload_n 0, 1) := by decide +kernel
theorem dX12_say_55 : decode cX12_say 55 = .ok (.iconst 1, 1) := by decide +kernel
theorem dX12_say_56 : decode cX12_say 56 = .ok (.invokevirtual 275, 3) := by decide +kernel
theorem dX12_say_59 : decode cX12_say 59 = .ok (.goto 4, 3) := by decide +kernel
theorem dX12_say_62 : decode cX12_say 62 = .ok (.iconst 0, 1) := by decide +kernel
theorem dX12_say_63 : decode cX12_say 63 = .ok (.istore_n 3, 1) := by decide +kernel
theorem dX12_say_64 : decode cX12_say 64 = .ok (.iload_n 1, 1) := by decide +kernel
theorem dX12_say_65 : decode cX12_say 65 = .ok (.bipush 9, 2) := by decide +kernel
theorem dX12_say_67 : decode cX12_say 67 = .ok (.if_icmp .ne 11, 3) := by decide +kernel
theorem dX12_say_70 : decode cX12_say 70 = .ok (.aload_n 0, 1) := by decide +kernel
theorem dX12_say_71 : decode cX12_say 71 = .ok (.iconst 3, 1) := by decide +kernel
theorem dX12_say_72 : decode cX12_say 72 = .ok (.invokevirtual 275, 3) := by decide +kernel
theorem dX12_say_75 : decode cX12_say 75 = .ok (.goto 4, 3) := by decide +kernel
theorem dX12_say_78 : decode cX12_say 78 = .ok (.iconst 0, 1) := by decide +kernel
theorem dX12_say_79 : decode cX12_say 79 = .ok (.istore 4, 2) := by decide +kernel
theorem dX12_say_81 : decode cX12_say 81 = .ok (.iload_n 1, 1) := by decide +kernel
theorem dX12_say_82 : decode cX12_say 82 = .ok (.ifCond .ne 9, 3) := by decide +kernel
theorem dX12_say_85 : decode cX12_say 85 = .ok (.bipush 63, 2) := by decide +kernel
theorem dX12_say_87 : decode cX12_say 87 = .ok (.istore_n 2, 1) := by decide +kernel
theorem dX12_say_88 : decode cX12_say 88 = .ok (.goto 34, 3) := by decide +kernel
theorem dX12_say_91 : decode cX12_say 91 = .ok (.iload_n 3, 1) := by decide +kernel
theorem dX12_say_92 : decode cX12_say 92 = .ok (.iconst (-1), 1) := by decide +kernel
theorem dX12_say_93 : decode cX12_say 93 = .ok (.if_icmp .eq 9, 3) := by decide +kernel
theorem dX12_say_96 : decode cX12_say 96 = .ok (.iload 4, 2) := by decide +kernel
theorem dX12_say_98 : decode cX12_say 98 = .ok (.iconst (-1), 1) := by decide +kernel
theorem dX12_say_99 : decode cX12_say 99 = .ok (.if_icmp .ne 9, 3) := by decide +kernel
theorem dX12_say_102 : decode cX12_say 102 = .ok (.bipush 119, 2) := by decide +kernel
theorem dX12_say_104 : decode cX12_say 104 = .ok (.istore_n 2, 1) := by decide +kernel
theorem dX12_say_105 : decode cX12_say 105 = .ok (.goto 17, 3) := by decide +kernel
theorem dX12_say_108 : decode cX12_say 108 = .ok (.aload_n 0, 1) := by decide +kernel
theorem dX12_say_109 : decode cX12_say 109 = .ok (.iload_n 1, 1) := by decide +kernel
theorem dX12_say_110 : decode cX12_say 110 = .ok (.iload_n 3, 1) := by decide +kernel
theorem dX12_say_111 : decode cX12_say 111 = .ok (.iload 4, 2) := by decide +kernel
theorem dX12_say_113 : decode cX12_say 113 = .ok (.invokevirtual 278, 3) := by decide +kernel
theorem dX12_say_116 : decode cX12_say 116 = .ok (.ifCond .ne 6, 3) := by decide +kernel
theorem dX12_say_119 : decode cX12_say 119 = .ok (.bipush 110, 2) := by decide +kernel
theorem dX12_say_121 : decode cX12_say 121 = .ok (.istore_n 2, 1) := by decide +kernel
theorem dX12_say_122 : decode cX12_say 122 = .ok (.iload_n 2, 1) := by decide +kernel
theorem dX12_say_123 : decode cX12_say 123 = .ok (.bipush 111, 2) := by decide +kernel
theorem dX12_say_125 : decode cX12_say 125 = .ok (.if_icmp .ne 61, 3) := by decide +kernel
theorem dX12_say_128 : decode cX12_say 128 = .ok (.aload_n 0, 1) := by decide +kernel
theorem dX12_say_129 : decode cX12_say 129 = .ok (.iconst 0, 1) := by decide +kernel
theorem dX12_say_130 : decode cX12_say 130 = .ok (.iconst 0, 1) := by decide +kernel
theorem dX12_say_131 : decode cX12_say 131 = .ok (.invokevirtual 281, 3) := by decide +kernel
theorem dX12_say_134 : decode cX12_say 134 = .ok (.istore 5, 2) := by decide +kernel
theorem dX12_say_136 : decode cX12_say 136 = .ok (.aload_n 0, 1) := by decide +kernel
theorem dX12_say_137 : decode cX12_say 137 = .ok (.iload 5, 2) := by decide +kernel
theorem dX12_say_139 : decode cX12_say 139 = .ok (.iconst (-1), 1) := by decide +kernel
theorem dX12_say_140 : decode cX12_say 140 = .ok (.if_icmp .ne 16, 3) := by decide +kernel
theorem dX12_say_143 : decode cX12_say 143 = .ok (.aload_n 0, 1) := by decide +kernel
theorem dX12_say_144 : decode cX12_say 144 = .ok (.getfield 207, 3) := by decide +kernel
theorem dX12_say_147 : decode cX12_say 147 = .ok (.bipush 80, 2) := by decide +kernel
theorem dX12_say_149 : decode cX12_say 149 = .ok (.if_icmp .ne 7, 3) := by decide +kernel
theorem dX12_say_152 : decode cX12_say 152 = .ok (.iconst 1, 1) := by decide +kernel
theorem dX12_say_153 : decode cX12_say 153 = .ok (.goto 4, 3) := by decide +kernel
theorem dX12_say_156 : decode cX12_say 156 = .ok (.iconst 0, 1) := by decide +kernel
theorem dX12_say_157 : decode cX12_say 157 = .ok (.invokevirtual 142, 3) := by decide +kernel
theorem dX12_say_160 : decode cX12_say 160 = .ok (.ifCond .eq 5, 3) := by decide +kernel
theorem dX12_say_163 : decode cX12_say 163 = .ok (.iconst 0, 1) := by decide +kernel
theorem dX12_say_164 : decode cX12_say 164 = .ok (.ireturn, 1) := by decide +kernel
theorem dX12_say_165 : decode cX12_say 165 = .ok (.iload 5, 2) := by decide +kernel
theorem dX12_say_167 : decode cX12_say 167 = .ok (.iconst (-1), 1) := by decide +kernel
theorem dX12_say_168 : decode cX12_say 168 = .ok (.if_icmp .ne 12, 3) := by decide +kernel
theorem dX12_say_171 : decode cX12_say 171 = .ok (.aload_n 0, 1) := by decide +kernel
theorem dX12_say_172 : decode cX12_say 172 = .ok (.iconst 0, 1) := by decide +kernel
theorem dX12_say_173 : decode cX12_say 173 = .ok (.iconst 0, 1) := by decide +kernel
theorem dX12_say_174 : decode cX12_say 174 = .ok (.invokevirtual 223, 3) := by decide +kernel
theorem dX12_say_177 : decode cX12_say 177 = .ok (.goto 9, 3) := by decide +kernel
theorem dX12_say_180 : decode cX12_say 180 = .ok (.aload_n 0, 1) := by decide +kernel
theorem dX12_say_181 : decode cX12_say 181 = .ok (.iload 5, 2) := by decide +kernel
theorem dX12_say_183 : decode cX12_say 183 = .ok (.putfield 210, 3) := by decide +kernel
theorem dX12_say_186 : decode cX12_say 186 = .ok (.aload_n 0, 1) := by decide +kernel
theorem dX12_say_187 : decode cX12_say 187 = .ok (.iconst 0, 1) := by decide +kernel
theorem dX12_say_188 : decode cX12_say 188 = .ok (.putfield 139, 3) := by decide +kernel
theorem dX12_say_191 : decode cX12_say 191 = .ok (.iload_n 2, 1) := by decide +kernel
theorem dX12_say_192 : decode cX12_say 192 = .ok (.ireturn, 1) := by decide +kernel
theorem dX12_isNotBegun_0 : decode cX12_isNotBegun 0 = .ok (.aload_n 0, 1) := by decide +kernel
theorem dX12_isNotBegun_1 : decode cX12_isNotBegun 1 = .ok (.aload_n 0, 1) := by decide +kernel
theorem dX12_isNotBegun_2 : decode cX12_isNotBegun 2 = .ok (.getfield 163, 3) := by decide +kernel
theorem dX12_isNotBegun_5 : decode cX12_isNotBegun 5 = .ok (.ifCond .eq 7, 3) := by decide +kernel
theorem dX12_isNotBegun_8 : decode cX12_isNotBegun 8 = .ok (.iconst 0, 1) := by decide +kernel
theorem dX12_isNotBegun_9 : decode cX12_isNotBegun 9 = .ok (.goto 4, 3) := by decide +kernel
theorem dX12_isNotBegun_12 : decode cX12_isNotBegun 12 = .ok (.iconst 1, 1) := by decide +kernel
theorem dX12_isNotBegun_13 : decode cX12_isNotBegun 13 = .ok (.invokevirtual 142, 3) := by decide +kernel
theorem dX12_isNotBegun_16 : decode cX12_isNotBegun 16 = .ok (.ireturn, 1) := by decide +kernel
theorem dX12_isNoThing_0 : decode cX12_isNoThing 0 = .ok (.aload_n 0, 1) := by decide +kernel
theorem dX12_isNoThing_1 : decode cX12_isNoThing 1 = .ok (.aload_n 0, 1) := by decide +kernel
theorem dX12_isNoThing_2 : decode cX12_isNoThing 2 = .ok (.iload_n 1, 1) := by decide +kernel
theorem dX12_isNoThing_3 : decode cX12_isNoThing 3 = .ok (.invokevirtual 181, 3) := by decide +kernel
theorem dX12_isNoThing_6 : decode cX12_isNoThing 6 = .ok (.ifCond .ne 7, 3) := by decide +kernel
theorem dX12_isNoThing_9 : decode cX12_isNoThing 9 = .ok (.iconst 1, 1) := by decide +kernel
theorem dX12_isNoThing_10 : decode cX12_isNoThing 10 = .ok (.goto 23, 3) := by decide +kernel
theorem dX12_isNoThing_13 : decode cX12_isNoThing 13 = .ok (.aload_n 0, 1) := by decide +kernel
theorem dX12_isNoThing_14 : decode cX12_isNoThing 14 = .ok (.getfield 163, 3) := by decide +kernel
theorem dX12_isNoThing_17 : decode cX12_isNoThing 17 = .ok (.ifCond .ne 7, 3) := by decide +kernel
theorem dX12_isNoThing_20 : decode cX12_isNoThing 20 = .ok (.iconst 2, 1) := by decide +kernel
theorem dX12_isNoThing_21 : decode cX12_isNoThing 21 = .ok (.goto 12, 3) := by decide +kernel
theorem dX12_isNoThing_24 : decode cX12_isNoThing 24 = .ok (.iload_n 2, 1) := by decide +kernel
theorem dX12_isNoThing_25 : decode cX12_isNoThing 25 = .ok (.ifCond .ne 7, 3) := by decide +kernel
theorem dX12_isNoThing_28 : decode cX12_isNoThing 28 = .ok (.iconst 3, 1) := by decide +kernel
theorem dX12_isNoThing_29 : decode cX12_isNoThing 29 = .ok (.goto 4, 3) := by decide +kernel
theorem dX12_isNoThing_32 : decode cX12_isNoThing 32 = .ok (.iconst 0, 1) := by decide +kernel
theorem dX12_isNoThing_33 : decode cX12_isNoThing 33 = .ok (.invokevirtual 142, 3) := by decide +kernel
theorem dX12_isNoThing_36 : decode cX12_isNoThing 36 = .ok (.ireturn, 1) := by decide +kernel
theorem dX12_at_0 : decode cX12_at 0 = .ok (.aload_n 0, 1) := by decide +kernel
theorem dX12_at_1 : decode cX12_at 1 = .ok (.invokevirtual 284, 3) := by decide +kernel
theorem dX12_at_4 : decode cX12_at 4 = .ok (.ifCond .eq 7, 3) := by decide +kernel
theorem dX12_at_7 : decode cX12_at 7 = .ok (.iconst 0, 1) := by decide +kernel
theorem dX12_at_8 : decode cX12_at 8 = .ok (.goto 12, 3) := by decide +kernel
theorem dX12_at_11 : decode cX12_at 11 = .ok (.aload_n 0, 1) := by decide +kernel
theorem dX12_at_12 : decode cX12_at 12 = .ok (.getfield 55, 3) := by decide +kernel
theorem dX12_at_15 : decode cX12_at 15 = .ok (.aload_n 0, 1) := by decide +kernel
theorem dX12_at_16 : decode cX12_at 16 = .ok (.getfield 210, 3) := by decide +kernel
theorem dX12_at_19 : decode cX12_at 19 = .ok (.iaload, 1) := by decide +kernel
theorem dX12_at_20 : decode cX12_at 20 = .ok (.ireturn, 1) := by decide +kernel
theorem dX12_place_0 : decode cX12_place 0 = .ok (.aload_n 0, 1) := by decide +kernel
theorem dX12_place_1 : decode cX12_place 1 = .ok (.iload_n 1, 1) := by decide +kernel
theorem dX12_place_2 : decode cX12_place 2 = .ok (.iconst 1, 1) := by decide +kernel
theorem dX12_place_3 : decode cX12_place 3 = .ok (.invokevirtual 287, 3) := by decide +kernel
theorem dX12_place_6 : decode cX12_place 6 = .ok (.ifCond .eq 7, 3) := by decide +kernel
theorem dX12_place_9 : decode cX12_place 9 = .ok (.iconst 0, 1) := by decide +kernel
theorem dX12_place_10 : decode cX12_place 10 = .ok (.goto 17, 3) := by decide +kernel
theorem dX12_place_13 : decode cX12_place 13 = .ok (.aload_n 0, 1) := by decide +kernel
theorem dX12_place_14 : decode cX12_place 14 = .ok (.getfield 58, 3) := by decide +kernel
theorem dX12_place_17 : decode cX12_place 17 = .ok (.bipush 12, 2) := by decide +kernel
theorem dX12_place_19 : decode cX12_place 19 = .ok (.aload_n 0, 1) := by decide +kernel
theorem dX12_place_20 : decode cX12_place 20 = .ok (.getfield 210, 3) := by decide +kernel
theorem dX12_place_23 : decode cX12_place 23 = .ok (.imul, 1) := by decide +kernel
theorem dX12_place_24 : decode cX12_place 24 = .ok (.iload_n 1, 1) := by decide +kernel
theorem dX12_place_25 : decode cX12_place 25 = .ok (.iadd, 1) := by decide +kernel
theorem dX12_place_26 : decode cX12_place 26 = .ok (.iaload, 1) := by decide +kernel
theorem dX12_place_27 : decode cX12_place 27 = .ok (.ireturn, 1) := by decide +kernel
theorem dX12_isOpen_0 : decode cX12_isOpen 0 = .ok (.aload_n 0, 1) := by decide +kernel
theorem dX12_isOpen_1 : decode cX12_isOpen 1 = .ok (.iload_n 1, 1) := by decide +kernel
theorem dX12_isOpen_2 : decode cX12_isOpen 2 = .ok (.aload_n 0, 1) := by decide +kernel
theorem dX12_isOpen_3 : decode cX12_isOpen 3 = .ok (.iload_n 1, 1) := by decide +kernel
theorem dX12_isOpen_4 : decode cX12_isOpen 4 = .ok (.invokevirtual 181, 3) := by decide +kernel
theorem dX12_isOpen_7 : decode cX12_isOpen 7 = .ok (.ifCond .eq 18, 3) := by decide +kernel
theorem dX12_isOpen_10 : decode cX12_isOpen 10 = .ok (.aload_n 0, 1) := by decide +kernel
theorem dX12_isOpen_11 : decode cX12_isOpen 11 = .ok (.getfield 39, 3) := by decide +kernel
theorem dX12_isOpen_14 : decode cX12_isOpen 14 = .ok (.iload_n 1, 1) := by decide +kernel
theorem dX12_isOpen_15 : decode cX12_isOpen 15 = .ok (.caload, 1) := by decide +kernel
theorem dX12_isOpen_16 : decode cX12_isOpen 16 = .ok (.bipush 98, 2) := by decide +kernel
theorem dX12_isOpen_18 : decode cX12_isOpen 18 = .ok (.if_icmp .ne 7, 3) := by decide +kernel
theorem dX12_isOpen_21 : decode cX12_isOpen 21 = .ok (.iconst 1, 1) := by decide +kernel
theorem dX12_isOpen_22 : decode cX12_isOpen 22 = .ok (.goto 4, 3) := by decide +kernel
theorem dX12_isOpen_25 : decode cX12_isOpen 25 = .ok (.iconst 0, 1) := by decide +kernel
theorem dX12_isOpen_26 : decode cX12_isOpen 26 = .ok (.invokevirtual 287, 3) := by decide +kernel
theorem dX12_isOpen_29 : decode cX12_isOpen 29 = .ok (.ifCond .ne 24, 3) := by decide +kernel
theorem dX12_isOpen_32 : decode cX12_isOpen 32 = .ok (.aload_n 0, 1) := by decide +kernel
theorem dX12_isOpen_33 : decode cX12_isOpen 33 = .ok (.getfield 61, 3) := by decide +kernel
theorem dX12_isOpen_36 : decode cX12_isOpen 36 = .ok (.bipush 12, 2) := by decide +kernel
theorem dX12_isOpen_38 : decode cX12_isOpen 38 = .ok (.aload_n 0, 1) := by decide +kernel
theorem dX12_isOpen_39 : decode cX12_isOpen 39 = .ok (.getfield 210, 3) := by decide +kernel
theorem dX12_isOpen_42 : decode cX12_isOpen 42 = .ok (.imul, 1) := by decide +kernel
theorem dX12_isOpen_43 : decode cX12_isOpen 43 = .ok (.iload_n 1, 1) := by decide +kernel
theorem dX12_isOpen_44 : decode cX12_isOpen 44 = .ok (.iadd, 1) := by decide +kernel
theorem dX12_isOpen_45 : decode cX12_isOpen 45 = .ok (.baload, 1) := by decide +kernel
theorem dX12_isOpen_46 : decode cX12_isOpen 46 = .ok (.ifCond .eq 7, 3) := by decide +kernel
theorem dX12_isOpen_49 : decode cX12_isOpen 49 = .ok (.iconst 1, 1) := by decide +kernel
theorem dX12_isOpen_50 : decode cX12_isOpen 50 = .ok (.goto 4, 3) := by decide +kernel
theorem dX12_isOpen_53 : decode cX12_isOpen 53 = .ok (.iconst 0, 1) := by decide +kernel
theorem dX12_isOpen_54 : decode cX12_isOpen 54 = .ok (.ireturn, 1) := by decide +kernel
theorem dX12_lit_0 : decode cX12_lit 0 = .ok (.aload_n 0, 1) := by decide +kernel
theorem dX12_lit_1 : decode cX12_lit 1 = .ok (.iload_n 1, 1) := by decide +kernel
theorem dX12_lit_2 : decode cX12_lit 2 = .ok (.aload_n 0, 1) := by decide +kernel
theorem dX12_lit_3 : decode cX12_lit 3 = .ok (.iload_n 1, 1) := by decide +kernel
theorem dX12_lit_4 : decode cX12_lit 4 = .ok (.invokevirtual 181, 3) := by decide +kernel
theorem dX12_lit_7 : decode cX12_lit 7 = .ok (.ifCond .eq 18, 3) := by decide +kernel
theorem dX12_lit_10 : decode cX12_lit 10 = .ok (.aload_n 0, 1) := by decide +kernel
theorem dX12_lit_11 : decode cX12_lit 11 = .ok (.getfield 39, 3) := by decide +kernel
theorem dX12_lit_14 : decode cX12_lit 14 = .ok (.iload_n 1, 1) := by decide +kernel
theorem dX12_lit_15 : decode cX12_lit 15 = .ok (.caload, 1) := by decide +kernel
theorem dX12_lit_16 : decode cX12_lit 16 = .ok (.bipush 108, 2) := by decide +kernel
theorem dX12_lit_18 : decode cX12_lit 18 = .ok (.if_icmp .ne 7, 3) := by decide +kernel
theorem dX12_lit_21 : decode cX12_lit 21 = .ok (.iconst 1, 1) := by decide +kernel
theorem dX12_lit_22 : decode cX12_lit 22 = .ok (.goto 4, 3) := by decide +kernel
theorem dX12_lit_25 : decode cX12_lit 25 = .ok (.iconst 0, 1) := by decide +kernel
theorem dX12_lit_26 : decode cX12_lit 26 = .ok (.invokevirtual 287, 3) := by decide +kernel
theorem dX12_lit_29 : decode cX12_lit 29 = .ok (.ifCond .eq 5, 3) := by decide +kernel
theorem dX12_lit_32 : decode cX12_lit 32 = .ok (.iconst 0, 1) := by decide +kernel
theorem dX12_lit_33 : decode cX12_lit 33 = .ok (.ireturn, 1) := by decide +kernel
theorem dX12_lit_34 : decode cX12_lit 34 = .ok (.aload_n 0, 1) := by decide +kernel
theorem dX12_lit_35 : decode cX12_lit 35 = .ok (.getfield 64, 3) := by decide +kernel
theorem dX12_lit_38 : decode cX12_lit 38 = .ok (.bipush 12, 2) := by decide +kernel
theorem dX12_lit_40 : decode cX12_lit 40 = .ok (.aload_n 0, 1) := by decide +kernel
theorem dX12_lit_41 : decode cX12_lit 41 = .ok (.getfield 210, 3) := by decide +kernel
theorem dX12_lit_44 : decode cX12_lit 44 = .ok (.imul, 1) := by decide +kernel
theorem dX12_lit_45 : decode cX12_lit 45 = .ok (.iload_n 1, 1) := by decide +kernel
theorem dX12_lit_46 : decode cX12_lit 46 = .ok (.iadd, 1) := by decide +kernel
theorem dX12_lit_47 : decode cX12_lit 47 = .ok (.iaload, 1) := by decide +kernel
theorem dX12_lit_48 : decode cX12_lit 48 = .ok (.istore_n 2, 1) := by decide +kernel
theorem dX12_lit_49 : decode cX12_lit 49 = .ok (.aload_n 0, 1) := by decide +kernel
theorem dX12_lit_50 : decode cX12_lit 50 = .ok (.getfield 61, 3) := by decide +kernel
theorem dX12_lit_53 : decode cX12_lit 53 = .ok (.bipush 12, 2) := by decide +kernel
theorem dX12_lit_55 : decode cX12_lit 55 = .ok (.aload_n 0, 1) := by decide +kernel
theorem dX12_lit_56 : decode cX12_lit 56 = .ok (.getfield 210, 3) := by decide +kernel
theorem dX12_lit_59 : decode cX12_lit 59 = .ok (.imul, 1) := by decide +kernel
theorem dX12_lit_60 : decode cX12_lit 60 = .ok (.iload_n 1, 1) := by decide +kernel
theorem dX12_lit_61 : decode cX12_lit 61 = .ok (.iadd, 1) := by decide +kernel
theorem dX12_lit_62 : decode cX12_lit 62 = .ok (.baload, 1) := by decide +kernel
theorem dX12_lit_63 : decode cX12_lit 63 = .ok (.ifCond .eq 7, 3) := by decide +kernel
theorem dX12_lit_66 : decode cX12_lit 66 = .ok (.iload_n 2, 1) := by decide +kernel
theorem dX12_lit_67 : decode cX12_lit 67 = .ok (.goto 6, 3) := by decide +kernel
theorem dX12_lit_70 : decode cX12_lit 70 = .ok (.iconst (-1), 1) := by decide +kernel
theorem dX12_lit_71 : decode cX12_lit 71 = .ok (.iload_n 2, 1) := by decide +kernel
theorem dX12_lit_72 : decode cX12_lit 72 = .ok (.isub, 1) := by decide +kernel
theorem dX12_lit_73 : decode cX12_lit 73 = .ok (.ireturn, 1) := by decide +kernel
theorem dX12_isBright_0 : decode cX12_isBright 0 = .ok (.aload_n 0, 1) := by decide +kernel
theorem dX12_isBright_1 : decode cX12_isBright 1 = .ok (.invokevirtual 284, 3) := by decide +kernel
theorem dX12_isBright_4 : decode cX12_isBright 4 = .ok (.ifCond .eq 5, 3) := by decide +kernel
theorem dX12_isBright_7 : decode cX12_isBright 7 = .ok (.iconst 0, 1) := by decide +kernel
theorem dX12_isBright_8 : decode cX12_isBright 8 = .ok (.ireturn, 1) := by decide +kernel
theorem dX12_isBright_9 : decode cX12_isBright 9 = .ok (.aload_n 0, 1) := by decide +kernel
theorem dX12_isBright_10 : decode cX12_isBright 10 = .ok (.aload_n 0, 1) := by decide +kernel
theorem dX12_isBright_11 : decode cX12_isBright 11 = .ok (.getfield 210, 3) := by decide +kernel
theorem dX12_isBright_14 : decode cX12_isBright 14 = .ok (.invokevirtual 271, 3) := by decide +kernel
theorem dX12_isBright_17 : decode cX12_isBright 17 = .ok (.aload_n 0, 1) := by decide +kernel
theorem dX12_isBright_18 : decode cX12_isBright 18 = .ok (.invokevirtual 200, 3) := by decide +kernel
theorem dX12_isBright_21 : decode cX12_isBright 21 = .ok (.ireturn, 1) := by decide +kernel
theorem dX12_weight_0 : decode cX12_weight 0 = .ok (.aload_n 0, 1) := by decide +kernel
theorem dX12_weight_1 : decode cX12_weight 1 = .ok (.invokevirtual 284, 3) := by decide +kernel
theorem dX12_weight_4 : decode cX12_weight 4 = .ok (.ifCond .eq 5, 3) := by decide +kernel
theorem dX12_weight_7 : decode cX12_weight 7 = .ok (.iconst 0, 1) := by decide +kernel
theorem dX12_weight_8 : decode cX12_weight 8 = .ok (.ireturn, 1) := by decide +kernel
theorem dX12_weight_9 : decode cX12_weight 9 = .ok (.aload_n 0, 1) := by decide +kernel
theorem dX12_weight_10 : decode cX12_weight 10 = .ok (.aload_n 0, 1) := by decide +kernel
theorem dX12_weight_11 : decode cX12_weight 11 = .ok (.getfield 210, 3) := by decide +kernel
theorem dX12_weight_14 : decode cX12_weight 14 = .ok (.invokevirtual 271, 3) := by decide +kernel
theorem dX12_weight_17 : decode cX12_weight 17 = .ok (.aload_n 0, 1) := by decide +kernel
theorem dX12_weight_18 : decode cX12_weight 18 = .ok (.iconst (-1), 1) := by decide +kernel
theorem dX12_weight_19 : decode cX12_weight 19 = .ok (.invokevirtual 262, 3) := by decide +kernel
theorem dX12_weight_22 : decode cX12_weight 22 = .ok (.ireturn, 1) := by decide +kernel
theorem dX12_node_0 : decode cX12_node 0 = .ok (.aload_n 0, 1) := by decide +kernel
theorem dX12_node_1 : decode cX12_node 1 = .ok (.invokevirtual 284, 3) := by decide +kernel
theorem dX12_node_4 : decode cX12_node 4 = .ok (.ifCond .eq 7, 3) := by decide +kernel
theorem dX12_node_7 : decode cX12_node 7 = .ok (.iconst 0, 1) := by decide +kernel
theorem dX12_node_8 : decode cX12_node 8 = .ok (.goto 7, 3) := by decide +kernel
theorem dX12_node_11 : decode cX12_node 11 = .ok (.aload_n 0, 1) := by decide +kernel
theorem dX12_node_12 : decode cX12_node 12 = .ok (.getfield 210, 3) := by decide +kernel
theorem dX12_node_15 : decode cX12_node 15 = .ok (.ireturn, 1) := by decide +kernel
theorem dX12_nodes_0 : decode cX12_nodes 0 = .ok (.aload_n 0, 1) := by decide +kernel
theorem dX12_nodes_1 : decode cX12_nodes 1 = .ok (.invokevirtual 284, 3) := by decide +kernel
theorem dX12_nodes_4 : decode cX12_nodes 4 = .ok (.ifCond .eq 7, 3) := by decide +kernel
theorem dX12_nodes_7 : decode cX12_nodes 7 = .ok (.iconst 0, 1) := by decide +kernel
theorem dX12_nodes_8 : decode cX12_nodes 8 = .ok (.goto 7, 3) := by decide +kernel
theorem dX12_nodes_11 : decode cX12_nodes 11 = .ok (.aload_n 0, 1) := by decide +kernel
theorem dX12_nodes_12 : decode cX12_nodes 12 = .ok (.getfield 207, 3) := by decide +kernel
theorem dX12_nodes_15 : decode cX12_nodes 15 = .ok (.ireturn, 1) := by decide +kernel
theorem dX12_isNode_0 : decode cX12_isNode 0 = .ok (.iload_n 1, 1) := by decide +kernel
theorem dX12_isNode_1 : decode cX12_isNode 1 = .ok (.iconst 0, 1) := by decide +kernel
theorem dX12_isNode_2 : decode cX12_isNode 2 = .ok (.aload_n 0, 1) := by decide +kernel
theorem dX12_isNode_3 : decode cX12_isNode 3 = .ok (.getfield 207, 3) := by decide +kernel
theorem dX12_isNode_6 : decode cX12_isNode 6 = .ok (.iconst 1, 1) := by decide +kernel
theorem dX12_isNode_7 : decode cX12_isNode 7 = .ok (.isub, 1) := by decide +kernel
theorem dX12_isNode_8 : decode cX12_isNode 8 = .ok (.invokestatic 135, 3) := by decide +kernel
theorem dX12_isNode_11 : decode cX12_isNode 11 = .ok (.ireturn, 1) := by decide +kernel
theorem dX12_depthOf_0 : decode cX12_depthOf 0 = .ok (.iconst 0, 1) := by decide +kernel
theorem dX12_depthOf_1 : decode cX12_depthOf 1 = .ok (.istore_n 2, 1) := by decide +kernel
theorem dX12_depthOf_2 : decode cX12_depthOf 2 = .ok (.iload_n 1, 1) := by decide +kernel
theorem dX12_depthOf_3 : decode cX12_depthOf 3 = .ok (.istore_n 3, 1) := by decide +kernel
theorem dX12_depthOf_4 : decode cX12_depthOf 4 = .ok (.aload_n 0, 1) := by decide +kernel
theorem dX12_depthOf_5 : decode cX12_depthOf 5 = .ok (.getfield 67, 3) := by decide +kernel
theorem dX12_depthOf_8 : decode cX12_depthOf 8 = .ok (.iload_n 3, 1) := by decide +kernel
theorem dX12_depthOf_9 : decode cX12_depthOf 9 = .ok (.iaload, 1) := by decide +kernel
theorem dX12_depthOf_10 : decode cX12_depthOf 10 = .ok (.iconst (-1), 1) := by decide +kernel
theorem dX12_depthOf_11 : decode cX12_depthOf 11 = .ok (.if_icmp .eq 16, 3) := by decide +kernel
theorem dX12_depthOf_14 : decode cX12_depthOf 14 = .ok (.iinc 2 1, 3) := by decide +kernel
theorem dX12_depthOf_17 : decode cX12_depthOf 17 = .ok (.aload_n 0, 1) := by decide +kernel
theorem dX12_depthOf_18 : decode cX12_depthOf 18 = .ok (.getfield 67, 3) := by decide +kernel
theorem dX12_depthOf_21 : decode cX12_depthOf 21 = .ok (.iload_n 3, 1) := by decide +kernel
theorem dX12_depthOf_22 : decode cX12_depthOf 22 = .ok (.iaload, 1) := by decide +kernel
theorem dX12_depthOf_23 : decode cX12_depthOf 23 = .ok (.istore_n 3, 1) := by decide +kernel
theorem dX12_depthOf_24 : decode cX12_depthOf 24 = .ok (.goto (-20), 3) := by decide +kernel
theorem dX12_depthOf_27 : decode cX12_depthOf 27 = .ok (.iload_n 2, 1) := by decide +kernel
theorem dX12_depthOf_28 : decode cX12_depthOf 28 = .ok (.ireturn, 1) := by decide +kernel
theorem dX12_parent_0 : decode cX12_parent 0 = .ok (.aload_n 0, 1) := by decide +kernel
theorem dX12_parent_1 : decode cX12_parent 1 = .ok (.aload_n 0, 1) := by decide +kernel
theorem dX12_parent_2 : decode cX12_parent 2 = .ok (.iload_n 1, 1) := by decide +kernel
theorem dX12_parent_3 : decode cX12_parent 3 = .ok (.invokevirtual 291, 3) := by decide +kernel
theorem dX12_parent_6 : decode cX12_parent 6 = .ok (.ifCond .ne 7, 3) := by decide +kernel
theorem dX12_parent_9 : decode cX12_parent 9 = .ok (.iconst 1, 1) := by decide +kernel
theorem dX12_parent_10 : decode cX12_parent 10 = .ok (.goto 12, 3) := by decide +kernel
theorem dX12_parent_13 : decode cX12_parent 13 = .ok (.iload_n 1, 1) := by decide +kernel
theorem dX12_parent_14 : decode cX12_parent 14 = .ok (.ifCond .ne 7, 3) := by decide +kernel
theorem dX12_parent_17 : decode cX12_parent 17 = .ok (.iconst 2, 1) := by decide +kernel
theorem dX12_parent_18 : decode cX12_parent 18 = .ok (.goto 4, 3) := by decide +kernel
theorem dX12_parent_21 : decode cX12_parent 21 = .ok (.iconst 0, 1) := by decide +kernel
theorem dX12_parent_22 : decode cX12_parent 22 = .ok (.invokevirtual 142, 3) := by decide +kernel
theorem dX12_parent_25 : decode cX12_parent 25 = .ok (.ifCond .eq 7, 3) := by decide +kernel
theorem dX12_parent_28 : decode cX12_parent 28 = .ok (.iconst 0, 1) := by decide +kernel
theorem dX12_parent_29 : decode cX12_parent 29 = .ok (.goto 9, 3) := by decide +kernel
theorem dX12_parent_32 : decode cX12_parent 32 = .ok (.aload_n 0, 1) := by decide +kernel
theorem dX12_parent_33 : decode cX12_parent 33 = .ok (.getfield 67, 3) := by decide +kernel
theorem dX12_parent_36 : decode cX12_parent 36 = .ok (.iload_n 1, 1) := by decide +kernel
theorem dX12_parent_37 : decode cX12_parent 37 = .ok (.iaload, 1) := by decide +kernel
theorem dX12_parent_38 : decode cX12_parent 38 = .ok (.ireturn, 1) := by decide +kernel
theorem dX12_depth_0 : decode cX12_depth 0 = .ok (.aload_n 0, 1) := by decide +kernel
theorem dX12_depth_1 : decode cX12_depth 1 = .ok (.aload_n 0, 1) := by decide +kernel
theorem dX12_depth_2 : decode cX12_depth 2 = .ok (.iload_n 1, 1) := by decide +kernel
theorem dX12_depth_3 : decode cX12_depth 3 = .ok (.invokevirtual 291, 3) := by decide +kernel
theorem dX12_depth_6 : decode cX12_depth 6 = .ok (.ifCond .eq 7, 3) := by decide +kernel
theorem dX12_depth_9 : decode cX12_depth 9 = .ok (.iconst 0, 1) := by decide +kernel
theorem dX12_depth_10 : decode cX12_depth 10 = .ok (.goto 4, 3) := by decide +kernel
theorem dX12_depth_13 : decode cX12_depth 13 = .ok (.iconst 1, 1) := by decide +kernel
theorem dX12_depth_14 : decode cX12_depth 14 = .ok (.invokevirtual 142, 3) := by decide +kernel
theorem dX12_depth_17 : decode cX12_depth 17 = .ok (.ifCond .eq 7, 3) := by decide +kernel
theorem dX12_depth_20 : decode cX12_depth 20 = .ok (.iconst 0, 1) := by decide +kernel
theorem dX12_depth_21 : decode cX12_depth 21 = .ok (.goto 8, 3) := by decide +kernel
theorem dX12_depth_24 : decode cX12_depth 24 = .ok (.aload_n 0, 1) := by decide +kernel
theorem dX12_depth_25 : decode cX12_depth 25 = .ok (.iload_n 1, 1) := by decide +kernel
theorem dX12_depth_26 : decode cX12_depth 26 = .ok (.invokevirtual 294, 3) := by decide +kernel
theorem dX12_depth_29 : decode cX12_depth 29 = .ok (.ireturn, 1) := by decide +kernel
theorem dX12_child_0 : decode cX12_child 0 = .ok (.iload_n 2, 1) := by decide +kernel
theorem dX12_child_1 : decode cX12_child 1 = .ok (.istore_n 3, 1) := by decide +kernel
theorem dX12_child_2 : decode cX12_child 2 = .ok (.iconst 1, 1) := by decide +kernel
theorem dX12_child_3 : decode cX12_child 3 = .ok (.istore 4, 2) := by decide +kernel
theorem dX12_child_5 : decode cX12_child 5 = .ok (.iload 4, 2) := by decide +kernel
theorem dX12_child_7 : decode cX12_child 7 = .ok (.aload_n 0, 1) := by decide +kernel
theorem dX12_child_8 : decode cX12_child 8 = .ok (.getfield 207, 3) := by decide +kernel
theorem dX12_child_11 : decode cX12_child 11 = .ok (.if_icmp .ge 33, 3) := by decide +kernel
theorem dX12_child_14 : decode cX12_child 14 = .ok (.aload_n 0, 1) := by decide +kernel
theorem dX12_child_15 : decode cX12_child 15 = .ok (.getfield 67, 3) := by decide +kernel
theorem dX12_child_18 : decode cX12_child 18 = .ok (.iload 4, 2) := by decide +kernel
theorem dX12_child_20 : decode cX12_child 20 = .ok (.iaload, 1) := by decide +kernel
theorem dX12_child_21 : decode cX12_child 21 = .ok (.iload_n 1, 1) := by decide +kernel
theorem dX12_child_22 : decode cX12_child 22 = .ok (.if_icmp .eq 6, 3) := by decide +kernel
theorem dX12_child_25 : decode cX12_child 25 = .ok (.goto 13, 3) := by decide +kernel
theorem dX12_child_28 : decode cX12_child 28 = .ok (.iload_n 3, 1) := by decide +kernel
theorem dX12_child_29 : decode cX12_child 29 = .ok (.ifCond .ne 6, 3) := by decide +kernel
theorem dX12_child_32 : decode cX12_child 32 = .ok (.iload 4, 2) := by decide +kernel
theorem dX12_child_34 : decode cX12_child 34 = .ok (.ireturn, 1) := by decide +kernel
theorem dX12_child_35 : decode cX12_child 35 = .ok (.iinc 3 (-1), 3) := by decide +kernel
theorem dX12_child_38 : decode cX12_child 38 = .ok (.iinc 4 1, 3) := by decide +kernel
theorem dX12_child_41 : decode cX12_child 41 = .ok (.goto (-36), 3) := by decide +kernel
theorem dX12_child_44 : decode cX12_child 44 = .ok (.iconst (-1), 1) := by decide +kernel
theorem dX12_child_45 : decode cX12_child 45 = .ok (.ireturn, 1) := by decide +kernel
theorem dX12_children_0 : decode cX12_children 0 = .ok (.aload_n 0, 1) := by decide +kernel
theorem dX12_children_1 : decode cX12_children 1 = .ok (.aload_n 0, 1) := by decide +kernel
theorem dX12_children_2 : decode cX12_children 2 = .ok (.iload_n 1, 1) := by decide +kernel
theorem dX12_children_3 : decode cX12_children 3 = .ok (.invokevirtual 291, 3) := by decide +kernel
theorem dX12_children_6 : decode cX12_children 6 = .ok (.ifCond .eq 7, 3) := by decide +kernel
theorem dX12_children_9 : decode cX12_children 9 = .ok (.iconst 0, 1) := by decide +kernel
theorem dX12_children_10 : decode cX12_children 10 = .ok (.goto 4, 3) := by decide +kernel
theorem dX12_children_13 : decode cX12_children 13 = .ok (.iconst 1, 1) := by decide +kernel
theorem dX12_children_14 : decode cX12_children 14 = .ok (.invokevirtual 142, 3) := by decide +kernel
theorem dX12_children_17 : decode cX12_children 17 = .ok (.ifCond .eq 5, 3) := by decide +kernel
theorem dX12_children_20 : decode cX12_children 20 = .ok (.iconst 0, 1) := by decide +kernel
theorem dX12_children_21 : decode cX12_children 21 = .ok (.ireturn, 1) := by decide +kernel
theorem dX12_children_22 : decode cX12_children 22 = .ok (.iconst 0, 1) := by decide +kernel
theorem dX12_children_23 : decode cX12_children 23 = .ok (.istore_n 2, 1) := by decide +kernel
theorem dX12_children_24 : decode cX12_children 24 = .ok (.aload_n 0, 1) := by decide +kernel
theorem dX12_children_25 : decode cX12_children 25 = .ok (.iload_n 1, 1) := by decide +kernel
theorem dX12_children_26 : decode cX12_children 26 = .ok (.iload_n 2, 1) := by decide +kernel
theorem dX12_children_27 : decode cX12_children 27 = .ok (.invokevirtual 297, 3) := by decide +kernel
theorem dX12_children_30 : decode cX12_children 30 = .ok (.iconst (-1), 1) := by decide +kernel
theorem dX12_children_31 : decode cX12_children 31 = .ok (.if_icmp .eq 9, 3) := by decide +kernel
theorem dX12_children_34 : decode cX12_children 34 = .ok (.iinc 2 1, 3) := by decide +kernel
theorem dX12_children_37 : decode cX12_children 37 = .ok (.goto (-13), 3) := by decide +kernel
theorem dX12_children_40 : decode cX12_children 40 = .ok (.iload_n 2, 1) := by decide +kernel
theorem dX12_children_41 : decode cX12_children 41 = .ok (.ireturn, 1) := by decide +kernel
theorem dX12_common_0 : decode cX12_common 0 = .ok (.aload_n 0, 1) := by decide +kernel
theorem dX12_common_1 : decode cX12_common 1 = .ok (.aload_n 0, 1) := by decide +kernel
theorem dX12_common_2 : decode cX12_common 2 = .ok (.iload_n 1, 1) := by decide +kernel
theorem dX12_common_3 : decode cX12_common 3 = .ok (.invokevirtual 291, 3) := by decide +kernel
theorem dX12_common_6 : decode cX12_common 6 = .ok (.ifCond .eq 15, 3) := by decide +kernel
theorem dX12_common_9 : decode cX12_common 9 = .ok (.aload_n 0, 1) := by decide +kernel
theorem dX12_common_10 : decode cX12_common 10 = .ok (.iload_n 2, 1) := by decide +kernel
theorem dX12_common_11 : decode cX12_common 11 = .ok (.invokevirtual 291, 3) := by decide +kernel
theorem dX12_common_14 : decode cX12_common 14 = .ok (.ifCond .eq 7, 3) := by decide +kernel
theorem dX12_common_17 : decode cX12_common 17 = .ok (.iconst 0, 1) := by decide +kernel
theorem dX12_common_18 : decode cX12_common 18 = .ok (.goto 4, 3) := by decide +kernel
theorem dX12_common_21 : decode cX12_common 21 = .ok (.iconst 1, 1) := by decide +kernel
theorem dX12_common_22 : decode cX12_common 22 = .ok (.invokevirtual 142, 3) := by decide +kernel
theorem dX12_common_25 : decode cX12_common 25 = .ok (.ifCond .eq 5, 3) := by decide +kernel
theorem dX12_common_28 : decode cX12_common 28 = .ok (.iconst 0, 1) := by decide +kernel
theorem dX12_common_29 : decode cX12_common 29 = .ok (.ireturn, 1) := by decide +kernel
theorem dX12_common_30 : decode cX12_common 30 = .ok (.iload_n 1, 1) := by decide +kernel
theorem dX12_common_31 : decode cX12_common 31 = .ok (.istore_n 3, 1) := by decide +kernel
theorem dX12_common_32 : decode cX12_common 32 = .ok (.iload_n 2, 1) := by decide +kernel
theorem dX12_common_33 : decode cX12_common 33 = .ok (.istore 4, 2) := by decide +kernel
theorem dX12_common_35 : decode cX12_common 35 = .ok (.iload_n 3, 1) := by decide +kernel
theorem dX12_common_36 : decode cX12_common 36 = .ok (.iload 4, 2) := by decide +kernel
theorem dX12_common_38 : decode cX12_common 38 = .ok (.if_icmp .eq 39, 3) := by decide +kernel
theorem dX12_common_41 : decode cX12_common 41 = .ok (.aload_n 0, 1) := by decide +kernel
theorem dX12_common_42 : decode cX12_common 42 = .ok (.iload_n 3, 1) := by decide +kernel
theorem dX12_common_43 : decode cX12_common 43 = .ok (.invokevirtual 294, 3) := by decide +kernel
theorem dX12_common_46 : decode cX12_common 46 = .ok (.aload_n 0, 1) := by decide +kernel
theorem dX12_common_47 : decode cX12_common 47 = .ok (.iload 4, 2) := by decide +kernel
theorem dX12_common_49 : decode cX12_common 49 = .ok (.invokevirtual 294, 3) := by decide +kernel
theorem dX12_common_52 : decode cX12_common 52 = .ok (.if_icmp .lt 13, 3) := by decide +kernel
theorem dX12_common_55 : decode cX12_common 55 = .ok (.aload_n 0, 1) := by decide +kernel
theorem dX12_common_56 : decode cX12_common 56 = .ok (.getfield 67, 3) := by decide +kernel
theorem dX12_common_59 : decode cX12_common 59 = .ok (.iload_n 3, 1) := by decide +kernel
theorem dX12_common_60 : decode cX12_common 60 = .ok (.iaload, 1) := by decide +kernel
theorem dX12_common_61 : decode cX12_common 61 = .ok (.istore_n 3, 1) := by decide +kernel
theorem dX12_common_62 : decode cX12_common 62 = .ok (.goto (-27), 3) := by decide +kernel
theorem dX12_common_65 : decode cX12_common 65 = .ok (.aload_n 0, 1) := by decide +kernel
theorem dX12_common_66 : decode cX12_common 66 = .ok (.getfield 67, 3) := by decide +kernel
theorem dX12_common_69 : decode cX12_common 69 = .ok (.iload 4, 2) := by decide +kernel
theorem dX12_common_71 : decode cX12_common 71 = .ok (.iaload, 1) := by decide +kernel
theorem dX12_common_72 : decode cX12_common 72 = .ok (.istore 4, 2) := by decide +kernel
theorem dX12_common_74 : decode cX12_common 74 = .ok (.goto (-39), 3) := by decide +kernel
theorem dX12_common_77 : decode cX12_common 77 = .ok (.iload_n 3, 1) := by decide +kernel
theorem dX12_common_78 : decode cX12_common 78 = .ok (.ireturn, 1) := by decide +kernel
theorem dX12_undo_0 : decode cX12_undo 0 = .ok (.aload_n 0, 1) := by decide +kernel
theorem dX12_undo_1 : decode cX12_undo 1 = .ok (.aload_n 0, 1) := by decide +kernel
theorem dX12_undo_2 : decode cX12_undo 2 = .ok (.getfield 163, 3) := by decide +kernel
theorem dX12_undo_5 : decode cX12_undo 5 = .ok (.ifCond .ne 7, 3) := by decide +kernel
theorem dX12_undo_8 : decode cX12_undo 8 = .ok (.iconst 1, 1) := by decide +kernel
theorem dX12_undo_9 : decode cX12_undo 9 = .ok (.goto 15, 3) := by decide +kernel
theorem dX12_undo_12 : decode cX12_undo 12 = .ok (.aload_n 0, 1) := by decide +kernel
theorem dX12_undo_13 : decode cX12_undo 13 = .ok (.getfield 210, 3) := by decide +kernel
theorem dX12_undo_16 : decode cX12_undo 16 = .ok (.ifCond .ne 7, 3) := by decide +kernel
theorem dX12_undo_19 : decode cX12_undo 19 = .ok (.iconst 2, 1) := by decide +kernel
theorem dX12_undo_20 : decode cX12_undo 20 = .ok (.goto 4, 3) := by decide +kernel
theorem dX12_undo_23 : decode cX12_undo 23 = .ok (.iconst 0, 1) := by decide +kernel
theorem dX12_undo_24 : decode cX12_undo 24 = .ok (.invokevirtual 142, 3) := by decide +kernel
theorem dX12_undo_27 : decode cX12_undo 27 = .ok (.ifCond .eq 5, 3) := by decide +kernel
theorem dX12_undo_30 : decode cX12_undo 30 = .ok (.iconst 0, 1) := by decide +kernel
theorem dX12_undo_31 : decode cX12_undo 31 = .ok (.ireturn, 1) := by decide +kernel
theorem dX12_undo_32 : decode cX12_undo 32 = .ok (.aload_n 0, 1) := by decide +kernel
theorem dX12_undo_33 : decode cX12_undo 33 = .ok (.aload_n 0, 1) := by decide +kernel
theorem dX12_undo_34 : decode cX12_undo 34 = .ok (.getfield 67, 3) := by decide +kernel
theorem dX12_undo_37 : decode cX12_undo 37 = .ok (.aload_n 0, 1) := by decide +kernel
theorem dX12_undo_38 : decode cX12_undo 38 = .ok (.getfield 210, 3) := by decide +kernel
theorem dX12_undo_41 : decode cX12_undo 41 = .ok (.iaload, 1) := by decide +kernel
theorem dX12_undo_42 : decode cX12_undo 42 = .ok (.putfield 210, 3) := by decide +kernel
theorem dX12_undo_45 : decode cX12_undo 45 = .ok (.aload_n 0, 1) := by decide +kernel
theorem dX12_undo_46 : decode cX12_undo 46 = .ok (.getfield 210, 3) := by decide +kernel
theorem dX12_undo_49 : decode cX12_undo 49 = .ok (.ireturn, 1) := by decide +kernel
theorem dX12_redo_0 : decode cX12_redo 0 = .ok (.aload_n 0, 1) := by decide +kernel
theorem dX12_redo_1 : decode cX12_redo 1 = .ok (.invokevirtual 284, 3) := by decide +kernel
theorem dX12_redo_4 : decode cX12_redo 4 = .ok (.ifCond .eq 5, 3) := by decide +kernel
theorem dX12_redo_7 : decode cX12_redo 7 = .ok (.iconst 0, 1) := by decide +kernel
theorem dX12_redo_8 : decode cX12_redo 8 = .ok (.ireturn, 1) := by decide +kernel
theorem dX12_redo_9 : decode cX12_redo 9 = .ok (.iload_n 1, 1) := by decide +kernel
theorem dX12_redo_10 : decode cX12_redo 10 = .ok (.ifCond .ge 7, 3) := by decide +kernel
theorem dX12_redo_13 : decode cX12_redo 13 = .ok (.iconst (-1), 1) := by decide +kernel
theorem dX12_redo_14 : decode cX12_redo 14 = .ok (.goto 12, 3) := by decide +kernel
theorem dX12_redo_17 : decode cX12_redo 17 = .ok (.aload_n 0, 1) := by decide +kernel
theorem dX12_redo_18 : decode cX12_redo 18 = .ok (.aload_n 0, 1) := by decide +kernel
theorem dX12_redo_19 : decode cX12_redo 19 = .ok (.getfield 210, 3) := by decide +kernel
theorem dX12_redo_22 : decode cX12_redo 22 = .ok (.iload_n 1, 1) := by decide +kernel
theorem dX12_redo_23 : decode cX12_redo 23 = .ok (.invokevirtual 297, 3) := by decide +kernel
theorem dX12_redo_26 : decode cX12_redo 26 = .ok (.istore_n 2, 1) := by decide +kernel
theorem dX12_redo_27 : decode cX12_redo 27 = .ok (.aload_n 0, 1) := by decide +kernel
theorem dX12_redo_28 : decode cX12_redo 28 = .ok (.iload_n 2, 1) := by decide +kernel
theorem dX12_redo_29 : decode cX12_redo 29 = .ok (.iconst (-1), 1) := by decide +kernel
theorem dX12_redo_30 : decode cX12_redo 30 = .ok (.if_icmp .ne 7, 3) := by decide +kernel
theorem dX12_redo_33 : decode cX12_redo 33 = .ok (.iconst 2, 1) := by decide +kernel
theorem dX12_redo_34 : decode cX12_redo 34 = .ok (.goto 4, 3) := by decide +kernel
theorem dX12_redo_37 : decode cX12_redo 37 = .ok (.iconst 0, 1) := by decide +kernel
theorem dX12_redo_38 : decode cX12_redo 38 = .ok (.invokevirtual 142, 3) := by decide +kernel
theorem dX12_redo_41 : decode cX12_redo 41 = .ok (.ifCond .eq 5, 3) := by decide +kernel
theorem dX12_redo_44 : decode cX12_redo 44 = .ok (.iconst 0, 1) := by decide +kernel
theorem dX12_redo_45 : decode cX12_redo 45 = .ok (.ireturn, 1) := by decide +kernel
theorem dX12_redo_46 : decode cX12_redo 46 = .ok (.aload_n 0, 1) := by decide +kernel
theorem dX12_redo_47 : decode cX12_redo 47 = .ok (.iload_n 2, 1) := by decide +kernel
theorem dX12_redo_48 : decode cX12_redo 48 = .ok (.putfield 210, 3) := by decide +kernel
theorem dX12_redo_51 : decode cX12_redo 51 = .ok (.aload_n 0, 1) := by decide +kernel
theorem dX12_redo_52 : decode cX12_redo 52 = .ok (.getfield 210, 3) := by decide +kernel
theorem dX12_redo_55 : decode cX12_redo 55 = .ok (.ireturn, 1) := by decide +kernel
theorem dX12_named_0 : decode cX12_named 0 = .ok (.iconst (-1), 1) := by decide +kernel
theorem dX12_named_1 : decode cX12_named 1 = .ok (.istore_n 1, 1) := by decide +kernel
theorem dX12_named_2 : decode cX12_named 2 = .ok (.iconst 0, 1) := by decide +kernel
theorem dX12_named_3 : decode cX12_named 3 = .ok (.istore_n 2, 1) := by decide +kernel
theorem dX12_named_4 : decode cX12_named 4 = .ok (.iload_n 2, 1) := by decide +kernel
theorem dX12_named_5 : decode cX12_named 5 = .ok (.aload_n 0, 1) := by decide +kernel
theorem dX12_named_6 : decode cX12_named 6 = .ok (.getfield 207, 3) := by decide +kernel
theorem dX12_named_9 : decode cX12_named 9 = .ok (.if_icmp .ge 114, 3) := by decide +kernel
theorem dX12_named_12 : decode cX12_named 12 = .ok (.aload_n 0, 1) := by decide +kernel
theorem dX12_named_13 : decode cX12_named 13 = .ok (.getfield 139, 3) := by decide +kernel
theorem dX12_named_16 : decode cX12_named 16 = .ok (.ifCond .le 28, 3) := by decide +kernel
theorem dX12_named_19 : decode cX12_named 19 = .ok (.aload_n 0, 1) := by decide +kernel
theorem dX12_named_20 : decode cX12_named 20 = .ok (.getfield 139, 3) := by decide +kernel
theorem dX12_named_23 : decode cX12_named 23 = .ok (.bipush 8, 2) := by decide +kernel
theorem dX12_named_25 : decode cX12_named 25 = .ok (.if_icmp .gt 19, 3) := by decide +kernel
theorem dX12_named_28 : decode cX12_named 28 = .ok (.aload_n 0, 1) := by decide +kernel
theorem dX12_named_29 : decode cX12_named 29 = .ok (.getfield 85, 3) := by decide +kernel
theorem dX12_named_32 : decode cX12_named 32 = .ok (.bipush 8, 2) := by decide +kernel
theorem dX12_named_34 : decode cX12_named 34 = .ok (.iload_n 2, 1) := by decide +kernel
theorem dX12_named_35 : decode cX12_named 35 = .ok (.imul, 1) := by decide +kernel
theorem dX12_named_36 : decode cX12_named 36 = .ok (.iaload, 1) := by decide +kernel
theorem dX12_named_37 : decode cX12_named 37 = .ok (.ifCond .eq 7, 3) := by decide +kernel
theorem dX12_named_40 : decode cX12_named 40 = .ok (.iconst 1, 1) := by decide +kernel
theorem dX12_named_41 : decode cX12_named 41 = .ok (.goto 4, 3) := by decide +kernel
theorem dX12_named_44 : decode cX12_named 44 = .ok (.iconst 0, 1) := by decide +kernel
theorem dX12_named_45 : decode cX12_named 45 = .ok (.istore_n 3, 1) := by decide +kernel
theorem dX12_named_46 : decode cX12_named 46 = .ok (.iconst 0, 1) := by decide +kernel
theorem dX12_named_47 : decode cX12_named 47 = .ok (.istore 4, 2) := by decide +kernel
theorem dX12_named_49 : decode cX12_named 49 = .ok (.iload 4, 2) := by decide +kernel
theorem dX12_named_51 : decode cX12_named 51 = .ok (.bipush 8, 2) := by decide +kernel
theorem dX12_named_53 : decode cX12_named 53 = .ok (.if_icmp .ge 54, 3) := by decide +kernel
theorem dX12_named_56 : decode cX12_named 56 = .ok (.iload_n 3, 1) := by decide +kernel
theorem dX12_named_57 : decode cX12_named 57 = .ok (.ifCond .eq 50, 3) := by decide +kernel
theorem dX12_named_60 : decode cX12_named 60 = .ok (.aload_n 0, 1) := by decide +kernel
theorem dX12_named_61 : decode cX12_named 61 = .ok (.getfield 85, 3) := by decide +kernel
theorem dX12_named_64 : decode cX12_named 64 = .ok (.bipush 8, 2) := by decide +kernel
theorem dX12_named_66 : decode cX12_named 66 = .ok (.iload_n 2, 1) := by decide +kernel
theorem dX12_named_67 : decode cX12_named 67 = .ok (.imul, 1) := by decide +kernel
theorem dX12_named_68 : decode cX12_named 68 = .ok (.iload 4, 2) := by decide +kernel
theorem dX12_named_70 : decode cX12_named 70 = .ok (.iadd, 1) := by decide +kernel
theorem dX12_named_71 : decode cX12_named 71 = .ok (.iaload, 1) := by decide +kernel
theorem dX12_named_72 : decode cX12_named 72 = .ok (.iload 4, 2) := by decide +kernel
theorem dX12_named_74 : decode cX12_named 74 = .ok (.aload_n 0, 1) := by decide +kernel
theorem dX12_named_75 : decode cX12_named 75 = .ok (.getfield 139, 3) := by decide +kernel
theorem dX12_named_78 : decode cX12_named 78 = .ok (.if_icmp .ge 13, 3) := by decide +kernel
theorem dX12_named_81 : decode cX12_named 81 = .ok (.aload_n 0, 1) := by decide +kernel
theorem dX12_named_82 : decode cX12_named 82 = .ok (.getfield 7, 3) := by decide +kernel
theorem dX12_named_85 : decode cX12_named 85 = .ok (.iload 4, 2) := by decide +kernel
theorem dX12_named_87 : decode cX12_named 87 = .ok (.iaload, 1) := by decide +kernel
theorem dX12_named_88 : decode cX12_named 88 = .ok (.goto 4, 3) := by decide +kernel
theorem dX12_named_91 : decode cX12_named 91 = .ok (.iconst 0, 1) := by decide +kernel
theorem dX12_named_92 : decode cX12_named 92 = .ok (.if_icmp .ne 7, 3) := by decide +kernel
theorem dX12_named_95 : decode cX12_named 95 = .ok (.iconst 1, 1) := by decide +kernel
theorem dX12_named_96 : decode cX12_named 96 = .ok (.goto 4, 3) := by decide +kernel
theorem dX12_named_99 : decode cX12_named 99 = .ok (.iconst 0, 1) := by decide +kernel
theorem dX12_named_100 : decode cX12_named 100 = .ok (.istore_n 3, 1) := by decide +kernel
theorem dX12_named_101 : decode cX12_named 101 = .ok (.iinc 4 1, 3) := by decide +kernel
theorem dX12_named_104 : decode cX12_named 104 = .ok (.goto (-55), 3) := by decide +kernel
theorem dX12_named_107 : decode cX12_named 107 = .ok (.iload_n 3, 1) := by decide +kernel
theorem dX12_named_108 : decode cX12_named 108 = .ok (.ifCond .eq 7, 3) := by decide +kernel
theorem dX12_named_111 : decode cX12_named 111 = .ok (.iload_n 2, 1) := by decide +kernel
theorem dX12_named_112 : decode cX12_named 112 = .ok (.goto 4, 3) := by decide +kernel
theorem dX12_named_115 : decode cX12_named 115 = .ok (.iload_n 1, 1) := by decide +kernel
theorem dX12_named_116 : decode cX12_named 116 = .ok (.istore_n 1, 1) := by decide +kernel
theorem dX12_named_117 : decode cX12_named 117 = .ok (.iinc 2 1, 3) := by decide +kernel
theorem dX12_named_120 : decode cX12_named 120 = .ok (.goto (-116), 3) := by decide +kernel
theorem dX12_named_123 : decode cX12_named 123 = .ok (.iload_n 1, 1) := by decide +kernel
theorem dX12_named_124 : decode cX12_named 124 = .ok (.ireturn, 1) := by decide +kernel
theorem dX12_name_0 : decode cX12_name 0 = .ok (.aload_n 0, 1) := by decide +kernel
theorem dX12_name_1 : decode cX12_name 1 = .ok (.aload_n 0, 1) := by decide +kernel
theorem dX12_name_2 : decode cX12_name 2 = .ok (.getfield 163, 3) := by decide +kernel
theorem dX12_name_5 : decode cX12_name 5 = .ok (.ifCond .ne 7, 3) := by decide +kernel
theorem dX12_name_8 : decode cX12_name 8 = .ok (.iconst 1, 1) := by decide +kernel
theorem dX12_name_9 : decode cX12_name 9 = .ok (.goto 20, 3) := by decide +kernel
theorem dX12_name_12 : decode cX12_name 12 = .ok (.aload_n 0, 1) := by decide +kernel
theorem dX12_name_13 : decode cX12_name 13 = .ok (.iconst 0, 1) := by decide +kernel
theorem dX12_name_14 : decode cX12_name 14 = .ok (.aload_n 0, 1) := by decide +kernel
theorem dX12_name_15 : decode cX12_name 15 = .ok (.getfield 139, 3) := by decide +kernel
theorem dX12_name_18 : decode cX12_name 18 = .ok (.invokevirtual 149, 3) := by decide +kernel
theorem dX12_name_21 : decode cX12_name 21 = .ok (.ifCond .ne 7, 3) := by decide +kernel
theorem dX12_name_24 : decode cX12_name 24 = .ok (.iconst 2, 1) := by decide +kernel
theorem dX12_name_25 : decode cX12_name 25 = .ok (.goto 4, 3) := by decide +kernel
theorem dX12_name_28 : decode cX12_name 28 = .ok (.iconst 0, 1) := by decide +kernel
theorem dX12_name_29 : decode cX12_name 29 = .ok (.invokevirtual 142, 3) := by decide +kernel
theorem dX12_name_32 : decode cX12_name 32 = .ok (.ifCond .eq 5, 3) := by decide +kernel
theorem dX12_name_35 : decode cX12_name 35 = .ok (.iconst 0, 1) := by decide +kernel
theorem dX12_name_36 : decode cX12_name 36 = .ok (.ireturn, 1) := by decide +kernel
theorem dX12_name_37 : decode cX12_name 37 = .ok (.aload_n 0, 1) := by decide +kernel
theorem dX12_name_38 : decode cX12_name 38 = .ok (.invokevirtual 300, 3) := by decide +kernel
theorem dX12_name_41 : decode cX12_name 41 = .ok (.istore_n 1, 1) := by decide +kernel
theorem dX12_name_42 : decode cX12_name 42 = .ok (.aload_n 0, 1) := by decide +kernel
theorem dX12_name_43 : decode cX12_name 43 = .ok (.iload_n 1, 1) := by decide +kernel
theorem dX12_name_44 : decode cX12_name 44 = .ok (.iconst (-1), 1) := by decide +kernel
theorem dX12_name_45 : decode cX12_name 45 = .ok (.if_icmp .eq 15, 3) := by decide +kernel
theorem dX12_name_48 : decode cX12_name 48 = .ok (.iload_n 1, 1) := by decide +kernel
theorem dX12_name_49 : decode cX12_name 49 = .ok (.aload_n 0, 1) := by decide +kernel
theorem dX12_name_50 : decode cX12_name 50 = .ok (.getfield 210, 3) := by decide +kernel
theorem dX12_name_53 : decode cX12_name 53 = .ok (.if_icmp .eq 7, 3) := by decide +kernel
theorem dX12_name_56 : decode cX12_name 56 = .ok (.iconst 3, 1) := by decide +kernel
theorem dX12_name_57 : decode cX12_name 57 = .ok (.goto 4, 3) := by decide +kernel
theorem dX12_name_60 : decode cX12_name 60 = .ok (.iconst 0, 1) := by decide +kernel
theorem dX12_name_61 : decode cX12_name 61 = .ok (.invokevirtual 142, 3) := by decide +kernel
theorem dX12_name_64 : decode cX12_name 64 = .ok (.ifCond .eq 5, 3) := by decide +kernel
theorem dX12_name_67 : decode cX12_name 67 = .ok (.iconst 0, 1) := by decide +kernel
theorem dX12_name_68 : decode cX12_name 68 = .ok (.ireturn, 1) := by decide +kernel
theorem dX12_name_69 : decode cX12_name 69 = .ok (.iconst 0, 1) := by decide +kernel
theorem dX12_name_70 : decode cX12_name 70 = .ok (.istore_n 2, 1) := by decide +kernel
theorem dX12_name_71 : decode cX12_name 71 = .ok (.iload_n 2, 1) := by decide +kernel
theorem dX12_name_72 : decode cX12_name 72 = .ok (.bipush 8, 2) := by decide +kernel
theorem dX12_name_74 : decode cX12_name 74 = .ok (.if_icmp .ge 41, 3) := by decide +kernel
theorem dX12_name_77 : decode cX12_name 77 = .ok (.aload_n 0, 1) := by decide +kernel
theorem dX12_name_78 : decode cX12_name 78 = .ok (.getfield 85, 3) := by decide +kernel
theorem dX12_name_81 : decode cX12_name 81 = .ok (.bipush 8, 2) := by decide +kernel
theorem dX12_name_83 : decode cX12_name 83 = .ok (.aload_n 0, 1) := by decide +kernel
theorem dX12_name_84 : decode cX12_name 84 = .ok (.getfield 210, 3) := by decide +kernel
theorem dX12_name_87 : decode cX12_name 87 = .ok (.imul, 1) := by decide +kernel
theorem dX12_name_88 : decode cX12_name 88 = .ok (.iload_n 2, 1) := by decide +kernel
theorem dX12_name_89 : decode cX12_name 89 = .ok (.iadd, 1) := by decide +kernel
theorem dX12_name_90 : decode cX12_name 90 = .ok (.iload_n 2, 1) := by decide +kernel
theorem dX12_name_91 : decode cX12_name 91 = .ok (.aload_n 0, 1) := by decide +kernel
theorem dX12_name_92 : decode cX12_name 92 = .ok (.getfield 139, 3) := by decide +kernel
theorem dX12_name_95 : decode cX12_name 95 = .ok (.if_icmp .ge 12, 3) := by decide +kernel
theorem dX12_name_98 : decode cX12_name 98 = .ok (.aload_n 0, 1) := by decide +kernel
theorem dX12_name_99 : decode cX12_name 99 = .ok (.getfield 7, 3) := by decide +kernel
theorem dX12_name_102 : decode cX12_name 102 = .ok (.iload_n 2, 1) := by decide +kernel
theorem dX12_name_103 : decode cX12_name 103 = .ok (.iaload, 1) := by decide +kernel
theorem dX12_name_104 : decode cX12_name 104 = .ok (.goto 4, 3) := by decide +kernel
theorem dX12_name_107 : decode cX12_name 107 = .ok (.iconst 0, 1) := by decide +kernel
theorem dX12_name_108 : decode cX12_name 108 = .ok (.iastore, 1) := by decide +kernel
theorem dX12_name_109 : decode cX12_name 109 = .ok (.iinc 2 1, 3) := by decide +kernel
theorem dX12_name_112 : decode cX12_name 112 = .ok (.goto (-41), 3) := by decide +kernel
theorem dX12_name_115 : decode cX12_name 115 = .ok (.aload_n 0, 1) := by decide +kernel
theorem dX12_name_116 : decode cX12_name 116 = .ok (.iconst 0, 1) := by decide +kernel
theorem dX12_name_117 : decode cX12_name 117 = .ok (.putfield 139, 3) := by decide +kernel
theorem dX12_name_120 : decode cX12_name 120 = .ok (.iconst 0, 1) := by decide +kernel
theorem dX12_name_121 : decode cX12_name 121 = .ok (.istore_n 2, 1) := by decide +kernel
theorem dX12_name_122 : decode cX12_name 122 = .ok (.iconst 0, 1) := by decide +kernel
theorem dX12_name_123 : decode cX12_name 123 = .ok (.istore_n 3, 1) := by decide +kernel
theorem dX12_name_124 : decode cX12_name 124 = .ok (.iload_n 3, 1) := by decide +kernel
theorem dX12_name_125 : decode cX12_name 125 = .ok (.aload_n 0, 1) := by decide +kernel
theorem dX12_name_126 : decode cX12_name 126 = .ok (.getfield 207, 3) := by decide +kernel
theorem dX12_name_129 : decode cX12_name 129 = .ok (.if_icmp .ge 29, 3) := by decide +kernel
theorem dX12_name_132 : decode cX12_name 132 = .ok (.iload_n 2, 1) := by decide +kernel
theorem dX12_name_133 : decode cX12_name 133 = .ok (.aload_n 0, 1) := by decide +kernel
theorem dX12_name_134 : decode cX12_name 134 = .ok (.getfield 85, 3) := by decide +kernel
theorem dX12_name_137 : decode cX12_name 137 = .ok (.bipush 8, 2) := by decide +kernel
theorem dX12_name_139 : decode cX12_name 139 = .ok (.iload_n 3, 1) := by decide +kernel
theorem dX12_name_140 : decode cX12_name 140 = .ok (.imul, 1) := by decide +kernel
theorem dX12_name_141 : decode cX12_name 141 = .ok (.iaload, 1) := by decide +kernel
theorem dX12_name_142 : decode cX12_name 142 = .ok (.ifCond .eq 7, 3) := by decide +kernel
theorem dX12_name_145 : decode cX12_name 145 = .ok (.iconst 1, 1) := by decide +kernel
theorem dX12_name_146 : decode cX12_name 146 = .ok (.goto 4, 3) := by decide +kernel
theorem dX12_name_149 : decode cX12_name 149 = .ok (.iconst 0, 1) := by decide +kernel
theorem dX12_name_150 : decode cX12_name 150 = .ok (.iadd, 1) := by decide +kernel
theorem dX12_name_151 : decode cX12_name 151 = .ok (.istore_n 2, 1) := by decide +kernel
theorem dX12_name_152 : decode cX12_name 152 = .ok (.iinc 3 1, 3) := by decide +kernel
theorem dX12_name_155 : decode cX12_name 155 = .ok (.goto (-31), 3) := by decide +kernel
theorem dX12_name_158 : decode cX12_name 158 = .ok (.iload_n 2, 1) := by decide +kernel
theorem dX12_name_159 : decode cX12_name 159 = .ok (.ireturn, 1) := by decide +kernel
theorem dX12_jump_0 : decode cX12_jump 0 = .ok (.aload_n 0, 1) := by decide +kernel
theorem dX12_jump_1 : decode cX12_jump 1 = .ok (.aload_n 0, 1) := by decide +kernel
theorem dX12_jump_2 : decode cX12_jump 2 = .ok (.getfield 163, 3) := by decide +kernel
theorem dX12_jump_5 : decode cX12_jump 5 = .ok (.ifCond .ne 7, 3) := by decide +kernel
theorem dX12_jump_8 : decode cX12_jump 8 = .ok (.iconst 1, 1) := by decide +kernel
theorem dX12_jump_9 : decode cX12_jump 9 = .ok (.goto 16, 3) := by decide +kernel
theorem dX12_jump_12 : decode cX12_jump 12 = .ok (.aload_n 0, 1) := by decide +kernel
theorem dX12_jump_13 : decode cX12_jump 13 = .ok (.invokevirtual 300, 3) := by decide +kernel
theorem dX12_jump_16 : decode cX12_jump 16 = .ok (.iconst (-1), 1) := by decide +kernel
theorem dX12_jump_17 : decode cX12_jump 17 = .ok (.if_icmp .ne 7, 3) := by decide +kernel
theorem dX12_jump_20 : decode cX12_jump 20 = .ok (.iconst 2, 1) := by decide +kernel
theorem dX12_jump_21 : decode cX12_jump 21 = .ok (.goto 4, 3) := by decide +kernel
theorem dX12_jump_24 : decode cX12_jump 24 = .ok (.iconst 0, 1) := by decide +kernel
theorem dX12_jump_25 : decode cX12_jump 25 = .ok (.invokevirtual 142, 3) := by decide +kernel
theorem dX12_jump_28 : decode cX12_jump 28 = .ok (.ifCond .eq 5, 3) := by decide +kernel
theorem dX12_jump_31 : decode cX12_jump 31 = .ok (.iconst 0, 1) := by decide +kernel
theorem dX12_jump_32 : decode cX12_jump 32 = .ok (.ireturn, 1) := by decide +kernel
theorem dX12_jump_33 : decode cX12_jump 33 = .ok (.aload_n 0, 1) := by decide +kernel
theorem dX12_jump_34 : decode cX12_jump 34 = .ok (.aload_n 0, 1) := by decide +kernel
theorem dX12_jump_35 : decode cX12_jump 35 = .ok (.invokevirtual 300, 3) := by decide +kernel
theorem dX12_jump_38 : decode cX12_jump 38 = .ok (.putfield 210, 3) := by decide +kernel
theorem dX12_jump_41 : decode cX12_jump 41 = .ok (.aload_n 0, 1) := by decide +kernel
theorem dX12_jump_42 : decode cX12_jump 42 = .ok (.iconst 0, 1) := by decide +kernel
theorem dX12_jump_43 : decode cX12_jump 43 = .ok (.putfield 139, 3) := by decide +kernel
theorem dX12_jump_46 : decode cX12_jump 46 = .ok (.aload_n 0, 1) := by decide +kernel
theorem dX12_jump_47 : decode cX12_jump 47 = .ok (.getfield 210, 3) := by decide +kernel
theorem dX12_jump_50 : decode cX12_jump 50 = .ok (.ireturn, 1) := by decide +kernel
theorem dX12_isNoWord_0 : decode cX12_isNoWord 0 = .ok (.aload_n 0, 1) := by decide +kernel
theorem dX12_isNoWord_1 : decode cX12_isNoWord 1 = .ok (.aload_n 0, 1) := by decide +kernel
theorem dX12_isNoWord_2 : decode cX12_isNoWord 2 = .ok (.iload_n 1, 1) := by decide +kernel
theorem dX12_isNoWord_3 : decode cX12_isNoWord 3 = .ok (.invokevirtual 170, 3) := by decide +kernel
theorem dX12_isNoWord_6 : decode cX12_isNoWord 6 = .ok (.ifCond .ne 7, 3) := by decide +kernel
theorem dX12_isNoWord_9 : decode cX12_isNoWord 9 = .ok (.iconst 1, 1) := by decide +kernel
theorem dX12_isNoWord_10 : decode cX12_isNoWord 10 = .ok (.goto 15, 3) := by decide +kernel
theorem dX12_isNoWord_13 : decode cX12_isNoWord 13 = .ok (.aload_n 0, 1) := by decide +kernel
theorem dX12_isNoWord_14 : decode cX12_isNoWord 14 = .ok (.getfield 163, 3) := by decide +kernel
theorem dX12_isNoWord_17 : decode cX12_isNoWord 17 = .ok (.ifCond .ne 7, 3) := by decide +kernel
theorem dX12_isNoWord_20 : decode cX12_isNoWord 20 = .ok (.iconst 2, 1) := by decide +kernel
theorem dX12_isNoWord_21 : decode cX12_isNoWord 21 = .ok (.goto 4, 3) := by decide +kernel
theorem dX12_isNoWord_24 : decode cX12_isNoWord 24 = .ok (.iconst 0, 1) := by decide +kernel
theorem dX12_isNoWord_25 : decode cX12_isNoWord 25 = .ok (.invokevirtual 142, 3) := by decide +kernel
theorem dX12_isNoWord_28 : decode cX12_isNoWord 28 = .ok (.ireturn, 1) := by decide +kernel
theorem dX12_postingsOf_0 : decode cX12_postingsOf 0 = .ok (.iconst 0, 1) := by decide +kernel
theorem dX12_postingsOf_1 : decode cX12_postingsOf 1 = .ok (.istore_n 2, 1) := by decide +kernel
theorem dX12_postingsOf_2 : decode cX12_postingsOf 2 = .ok (.iconst 0, 1) := by decide +kernel
theorem dX12_postingsOf_3 : decode cX12_postingsOf 3 = .ok (.istore_n 3, 1) := by decide +kernel
theorem dX12_postingsOf_4 : decode cX12_postingsOf 4 = .ok (.iload_n 3, 1) := by decide +kernel
theorem dX12_postingsOf_5 : decode cX12_postingsOf 5 = .ok (.aload_n 0, 1) := by decide +kernel
theorem dX12_postingsOf_6 : decode cX12_postingsOf 6 = .ok (.getfield 207, 3) := by decide +kernel
theorem dX12_postingsOf_9 : decode cX12_postingsOf 9 = .ok (.if_icmp .ge 30, 3) := by decide +kernel
theorem dX12_postingsOf_12 : decode cX12_postingsOf 12 = .ok (.iload_n 2, 1) := by decide +kernel
theorem dX12_postingsOf_13 : decode cX12_postingsOf 13 = .ok (.aload_n 0, 1) := by decide +kernel
theorem dX12_postingsOf_14 : decode cX12_postingsOf 14 = .ok (.getfield 82, 3) := by decide +kernel
theorem dX12_postingsOf_17 : decode cX12_postingsOf 17 = .ok (.iload_n 3, 1) := by decide +kernel
theorem dX12_postingsOf_18 : decode cX12_postingsOf 18 = .ok (.laload, 1) := by decide +kernel
theorem dX12_postingsOf_19 : decode cX12_postingsOf 19 = .ok (.iload_n 1, 1) := by decide +kernel
theorem dX12_postingsOf_20 : decode cX12_postingsOf 20 = .ok (.invokestatic 131, 3) := by decide +kernel
theorem dX12_postingsOf_23 : decode cX12_postingsOf 23 = .ok (.ifCond .eq 7, 3) := by decide +kernel
theorem dX12_postingsOf_26 : decode cX12_postingsOf 26 = .ok (.iconst 1, 1) := by decide +kernel
theorem dX12_postingsOf_27 : decode cX12_postingsOf 27 = .ok (.goto 4, 3) := by decide +kernel
theorem dX12_postingsOf_30 : decode cX12_postingsOf 30 = .ok (.iconst 0, 1) := by decide +kernel
theorem dX12_postingsOf_31 : decode cX12_postingsOf 31 = .ok (.iadd, 1) := by decide +kernel
theorem dX12_postingsOf_32 : decode cX12_postingsOf 32 = .ok (.istore_n 2, 1) := by decide +kernel
theorem dX12_postingsOf_33 : decode cX12_postingsOf 33 = .ok (.iinc 3 1, 3) := by decide +kernel
theorem dX12_postingsOf_36 : decode cX12_postingsOf 36 = .ok (.goto (-32), 3) := by decide +kernel
theorem dX12_postingsOf_39 : decode cX12_postingsOf 39 = .ok (.iload_n 2, 1) := by decide +kernel
theorem dX12_postingsOf_40 : decode cX12_postingsOf 40 = .ok (.ireturn, 1) := by decide +kernel
theorem dX12_isKnown_0 : decode cX12_isKnown 0 = .ok (.aload_n 0, 1) := by decide +kernel
theorem dX12_isKnown_1 : decode cX12_isKnown 1 = .ok (.iload_n 1, 1) := by decide +kernel
theorem dX12_isKnown_2 : decode cX12_isKnown 2 = .ok (.invokevirtual 303, 3) := by decide +kernel
theorem dX12_isKnown_5 : decode cX12_isKnown 5 = .ok (.ifCond .ne 22, 3) := by decide +kernel
theorem dX12_isKnown_8 : decode cX12_isKnown 8 = .ok (.aload_n 0, 1) := by decide +kernel
theorem dX12_isKnown_9 : decode cX12_isKnown 9 = .ok (.aload_n 0, 1) := by decide +kernel
theorem dX12_isKnown_10 : decode cX12_isKnown 10 = .ok (.getfield 210, 3) := by decide +kernel
theorem dX12_isKnown_13 : decode cX12_isKnown 13 = .ok (.invokevirtual 231, 3) := by decide +kernel
theorem dX12_isKnown_16 : decode cX12_isKnown 16 = .ok (.iload_n 1, 1) := by decide +kernel
theorem dX12_isKnown_17 : decode cX12_isKnown 17 = .ok (.invokestatic 131, 3) := by decide +kernel
theorem dX12_isKnown_20 : decode cX12_isKnown 20 = .ok (.ifCond .eq 7, 3) := by decide +kernel
theorem dX12_isKnown_23 : decode cX12_isKnown 23 = .ok (.iconst 1, 1) := by decide +kernel
theorem dX12_isKnown_24 : decode cX12_isKnown 24 = .ok (.goto 4, 3) := by decide +kernel
theorem dX12_isKnown_27 : decode cX12_isKnown 27 = .ok (.iconst 0, 1) := by decide +kernel
theorem dX12_isKnown_28 : decode cX12_isKnown 28 = .ok (.ireturn, 1) := by decide +kernel
theorem dX12_known_0 : decode cX12_known 0 = .ok (.aload_n 0, 1) := by decide +kernel
theorem dX12_known_1 : decode cX12_known 1 = .ok (.invokevirtual 284, 3) := by decide +kernel
theorem dX12_known_4 : decode cX12_known 4 = .ok (.ifCond .eq 7, 3) := by decide +kernel
theorem dX12_known_7 : decode cX12_known 7 = .ok (.iconst 0, 1) := by decide +kernel
theorem dX12_known_8 : decode cX12_known 8 = .ok (.goto 7, 3) := by decide +kernel
theorem dX12_known_11 : decode cX12_known 11 = .ok (.aload_n 0, 1) := by decide +kernel
theorem dX12_known_12 : decode cX12_known 12 = .ok (.invokevirtual 227, 3) := by decide +kernel
theorem dX12_known_15 : decode cX12_known 15 = .ok (.ireturn, 1) := by decide +kernel
theorem dX12_learnt_0 : decode cX12_learnt 0 = .ok (.aload_n 0, 1) := by decide +kernel
theorem dX12_learnt_1 : decode cX12_learnt 1 = .ok (.iload_n 1, 1) := by decide +kernel
theorem dX12_learnt_2 : decode cX12_learnt 2 = .ok (.invokevirtual 303, 3) := by decide +kernel
theorem dX12_learnt_5 : decode cX12_learnt 5 = .ok (.ifCond .ne 30, 3) := by decide +kernel
theorem dX12_learnt_8 : decode cX12_learnt 8 = .ok (.aload_n 0, 1) := by decide +kernel
theorem dX12_learnt_9 : decode cX12_learnt 9 = .ok (.aload_n 0, 1) := by decide +kernel
theorem dX12_learnt_10 : decode cX12_learnt 10 = .ok (.aload_n 0, 1) := by decide +kernel
theorem dX12_learnt_11 : decode cX12_learnt 11 = .ok (.getfield 210, 3) := by decide +kernel
theorem dX12_learnt_14 : decode cX12_learnt 14 = .ok (.invokevirtual 231, 3) := by decide +kernel
theorem dX12_learnt_17 : decode cX12_learnt 17 = .ok (.iload_n 1, 1) := by decide +kernel
theorem dX12_learnt_18 : decode cX12_learnt 18 = .ok (.invokestatic 131, 3) := by decide +kernel
theorem dX12_learnt_21 : decode cX12_learnt 21 = .ok (.ifCond .ne 7, 3) := by decide +kernel
theorem dX12_learnt_24 : decode cX12_learnt 24 = .ok (.iconst 3, 1) := by decide +kernel
theorem dX12_learnt_25 : decode cX12_learnt 25 = .ok (.goto 4, 3) := by decide +kernel
theorem dX12_learnt_28 : decode cX12_learnt 28 = .ok (.iconst 0, 1) := by decide +kernel
theorem dX12_learnt_29 : decode cX12_learnt 29 = .ok (.invokevirtual 142, 3) := by decide +kernel
theorem dX12_learnt_32 : decode cX12_learnt 32 = .ok (.ifCond .eq 5, 3) := by decide +kernel
theorem dX12_learnt_35 : decode cX12_learnt 35 = .ok (.iconst 0, 1) := by decide +kernel
theorem dX12_learnt_36 : decode cX12_learnt 36 = .ok (.ireturn, 1) := by decide +kernel
theorem dX12_learnt_37 : decode cX12_learnt 37 = .ok (.aload_n 0, 1) := by decide +kernel
theorem dX12_learnt_38 : decode cX12_learnt 38 = .ok (.getfield 210, 3) := by decide +kernel
theorem dX12_learnt_41 : decode cX12_learnt 41 = .ok (.istore_n 2, 1) := by decide +kernel
theorem dX12_learnt_42 : decode cX12_learnt 42 = .ok (.aload_n 0, 1) := by decide +kernel
theorem dX12_learnt_43 : decode cX12_learnt 43 = .ok (.getfield 210, 3) := by decide +kernel
theorem dX12_learnt_46 : decode cX12_learnt 46 = .ok (.istore_n 3, 1) := by decide +kernel
theorem dX12_learnt_47 : decode cX12_learnt 47 = .ok (.iload_n 3, 1) := by decide +kernel
theorem dX12_learnt_48 : decode cX12_learnt 48 = .ok (.iconst (-1), 1) := by decide +kernel
theorem dX12_learnt_49 : decode cX12_learnt 49 = .ok (.if_icmp .eq 32, 3) := by decide +kernel
theorem dX12_learnt_52 : decode cX12_learnt 52 = .ok (.aload_n 0, 1) := by decide +kernel
theorem dX12_learnt_53 : decode cX12_learnt 53 = .ok (.getfield 82, 3) := by decide +kernel
theorem dX12_learnt_56 : decode cX12_learnt 56 = .ok (.iload_n 3, 1) := by decide +kernel
theorem dX12_learnt_57 : decode cX12_learnt 57 = .ok (.laload, 1) := by decide +kernel
theorem dX12_learnt_58 : decode cX12_learnt 58 = .ok (.iload_n 1, 1) := by decide +kernel
theorem dX12_learnt_59 : decode cX12_learnt 59 = .ok (.invokestatic 131, 3) := by decide +kernel
theorem dX12_learnt_62 : decode cX12_learnt 62 = .ok (.ifCond .eq 7, 3) := by decide +kernel
theorem dX12_learnt_65 : decode cX12_learnt 65 = .ok (.iload_n 3, 1) := by decide +kernel
theorem dX12_learnt_66 : decode cX12_learnt 66 = .ok (.goto 4, 3) := by decide +kernel
theorem dX12_learnt_69 : decode cX12_learnt 69 = .ok (.iload_n 2, 1) := by decide +kernel
theorem dX12_learnt_70 : decode cX12_learnt 70 = .ok (.istore_n 2, 1) := by decide +kernel
theorem dX12_learnt_71 : decode cX12_learnt 71 = .ok (.aload_n 0, 1) := by decide +kernel
theorem dX12_learnt_72 : decode cX12_learnt 72 = .ok (.getfield 67, 3) := by decide +kernel
theorem dX12_learnt_75 : decode cX12_learnt 75 = .ok (.iload_n 3, 1) := by decide +kernel
theorem dX12_learnt_76 : decode cX12_learnt 76 = .ok (.iaload, 1) := by decide +kernel
theorem dX12_learnt_77 : decode cX12_learnt 77 = .ok (.istore_n 3, 1) := by decide +kernel
theorem dX12_learnt_78 : decode cX12_learnt 78 = .ok (.goto (-31), 3) := by decide +kernel
theorem dX12_learnt_81 : decode cX12_learnt 81 = .ok (.iload_n 2, 1) := by decide +kernel
theorem dX12_learnt_82 : decode cX12_learnt 82 = .ok (.ireturn, 1) := by decide +kernel
theorem dX12_postings_0 : decode cX12_postings 0 = .ok (.aload_n 0, 1) := by decide +kernel
theorem dX12_postings_1 : decode cX12_postings 1 = .ok (.aload_n 0, 1) := by decide +kernel
theorem dX12_postings_2 : decode cX12_postings 2 = .ok (.iload_n 1, 1) := by decide +kernel
theorem dX12_postings_3 : decode cX12_postings 3 = .ok (.invokevirtual 170, 3) := by decide +kernel
theorem dX12_postings_6 : decode cX12_postings 6 = .ok (.ifCond .eq 7, 3) := by decide +kernel
theorem dX12_postings_9 : decode cX12_postings 9 = .ok (.iconst 0, 1) := by decide +kernel
theorem dX12_postings_10 : decode cX12_postings 10 = .ok (.goto 4, 3) := by decide +kernel
theorem dX12_postings_13 : decode cX12_postings 13 = .ok (.iconst 1, 1) := by decide +kernel
theorem dX12_postings_14 : decode cX12_postings 14 = .ok (.invokevirtual 142, 3) := by decide +kernel
theorem dX12_postings_17 : decode cX12_postings 17 = .ok (.ifCond .eq 7, 3) := by decide +kernel
theorem dX12_postings_20 : decode cX12_postings 20 = .ok (.iconst 0, 1) := by decide +kernel
theorem dX12_postings_21 : decode cX12_postings 21 = .ok (.goto 8, 3) := by decide +kernel
theorem dX12_postings_24 : decode cX12_postings 24 = .ok (.aload_n 0, 1) := by decide +kernel
theorem dX12_postings_25 : decode cX12_postings 25 = .ok (.iload_n 1, 1) := by decide +kernel
theorem dX12_postings_26 : decode cX12_postings 26 = .ok (.invokevirtual 306, 3) := by decide +kernel
theorem dX12_postings_29 : decode cX12_postings 29 = .ok (.ireturn, 1) := by decide +kernel
theorem dX12_posting_0 : decode cX12_posting 0 = .ok (.aload_n 0, 1) := by decide +kernel
theorem dX12_posting_1 : decode cX12_posting 1 = .ok (.aload_n 0, 1) := by decide +kernel
theorem dX12_posting_2 : decode cX12_posting 2 = .ok (.iload_n 1, 1) := by decide +kernel
theorem dX12_posting_3 : decode cX12_posting 3 = .ok (.invokevirtual 170, 3) := by decide +kernel
theorem dX12_posting_6 : decode cX12_posting 6 = .ok (.ifCond .eq 7, 3) := by decide +kernel
theorem dX12_posting_9 : decode cX12_posting 9 = .ok (.iconst 0, 1) := by decide +kernel
theorem dX12_posting_10 : decode cX12_posting 10 = .ok (.goto 4, 3) := by decide +kernel
theorem dX12_posting_13 : decode cX12_posting 13 = .ok (.iconst 1, 1) := by decide +kernel
theorem dX12_posting_14 : decode cX12_posting 14 = .ok (.invokevirtual 142, 3) := by decide +kernel
theorem dX12_posting_17 : decode cX12_posting 17 = .ok (.ifCond .eq 5, 3) := by decide +kernel
theorem dX12_posting_20 : decode cX12_posting 20 = .ok (.iconst 0, 1) := by decide +kernel
theorem dX12_posting_21 : decode cX12_posting 21 = .ok (.ireturn, 1) := by decide +kernel
theorem dX12_posting_22 : decode cX12_posting 22 = .ok (.iload_n 2, 1) := by decide +kernel
theorem dX12_posting_23 : decode cX12_posting 23 = .ok (.istore_n 3, 1) := by decide +kernel
theorem dX12_posting_24 : decode cX12_posting 24 = .ok (.iconst 0, 1) := by decide +kernel
theorem dX12_posting_25 : decode cX12_posting 25 = .ok (.istore 4, 2) := by decide +kernel
theorem dX12_posting_27 : decode cX12_posting 27 = .ok (.iload 4, 2) := by decide +kernel
theorem dX12_posting_29 : decode cX12_posting 29 = .ok (.aload_n 0, 1) := by decide +kernel
theorem dX12_posting_30 : decode cX12_posting 30 = .ok (.getfield 207, 3) := by decide +kernel
theorem dX12_posting_33 : decode cX12_posting 33 = .ok (.if_icmp .ge 40, 3) := by decide +kernel
theorem dX12_posting_36 : decode cX12_posting 36 = .ok (.iload_n 2, 1) := by decide +kernel
theorem dX12_posting_37 : decode cX12_posting 37 = .ok (.ifCond .lt 36, 3) := by decide +kernel
theorem dX12_posting_40 : decode cX12_posting 40 = .ok (.aload_n 0, 1) := by decide +kernel
theorem dX12_posting_41 : decode cX12_posting 41 = .ok (.getfield 82, 3) := by decide +kernel
theorem dX12_posting_44 : decode cX12_posting 44 = .ok (.iload 4, 2) := by decide +kernel
theorem dX12_posting_46 : decode cX12_posting 46 = .ok (.laload, 1) := by decide +kernel
theorem dX12_posting_47 : decode cX12_posting 47 = .ok (.iload_n 1, 1) := by decide +kernel
theorem dX12_posting_48 : decode cX12_posting 48 = .ok (.invokestatic 131, 3) := by decide +kernel
theorem dX12_posting_51 : decode cX12_posting 51 = .ok (.ifCond .ne 6, 3) := by decide +kernel
theorem dX12_posting_54 : decode cX12_posting 54 = .ok (.goto 13, 3) := by decide +kernel
theorem dX12_posting_57 : decode cX12_posting 57 = .ok (.iload_n 3, 1) := by decide +kernel
theorem dX12_posting_58 : decode cX12_posting 58 = .ok (.ifCond .ne 6, 3) := by decide +kernel
theorem dX12_posting_61 : decode cX12_posting 61 = .ok (.iload 4, 2) := by decide +kernel
theorem dX12_posting_63 : decode cX12_posting 63 = .ok (.ireturn, 1) := by decide +kernel
theorem dX12_posting_64 : decode cX12_posting 64 = .ok (.iinc 3 (-1), 3) := by decide +kernel
theorem dX12_posting_67 : decode cX12_posting 67 = .ok (.iinc 4 1, 3) := by decide +kernel
theorem dX12_posting_70 : decode cX12_posting 70 = .ok (.goto (-43), 3) := by decide +kernel
theorem dX12_posting_73 : decode cX12_posting 73 = .ok (.aload_n 0, 1) := by decide +kernel
theorem dX12_posting_74 : decode cX12_posting 74 = .ok (.iconst 2, 1) := by decide +kernel
theorem dX12_posting_75 : decode cX12_posting 75 = .ok (.putfield 128, 3) := by decide +kernel
theorem dX12_posting_78 : decode cX12_posting 78 = .ok (.iconst 0, 1) := by decide +kernel
theorem dX12_posting_79 : decode cX12_posting 79 = .ok (.ireturn, 1) := by decide +kernel
theorem dX12_rare_0 : decode cX12_rare 0 = .ok (.aload_n 0, 1) := by decide +kernel
theorem dX12_rare_1 : decode cX12_rare 1 = .ok (.invokevirtual 284, 3) := by decide +kernel
theorem dX12_rare_4 : decode cX12_rare 4 = .ok (.ifCond .eq 5, 3) := by decide +kernel
theorem dX12_rare_7 : decode cX12_rare 7 = .ok (.iconst 0, 1) := by decide +kernel
theorem dX12_rare_8 : decode cX12_rare 8 = .ok (.ireturn, 1) := by decide +kernel
theorem dX12_rare_9 : decode cX12_rare 9 = .ok (.aload_n 0, 1) := by decide +kernel
theorem dX12_rare_10 : decode cX12_rare 10 = .ok (.aload_n 0, 1) := by decide +kernel
theorem dX12_rare_11 : decode cX12_rare 11 = .ok (.getfield 210, 3) := by decide +kernel
theorem dX12_rare_14 : decode cX12_rare 14 = .ok (.invokevirtual 231, 3) := by decide +kernel
theorem dX12_rare_17 : decode cX12_rare 17 = .ok (.lstore_n 2, 1) := by decide +kernel
theorem dX12_rare_18 : decode cX12_rare 18 = .ok (.iconst 0, 1) := by decide +kernel
theorem dX12_rare_19 : decode cX12_rare 19 = .ok (.istore 4, 2) := by decide +kernel
theorem dX12_rare_21 : decode cX12_rare 21 = .ok (.iload 4, 2) := by decide +kernel
theorem dX12_rare_23 : decode cX12_rare 23 = .ok (.aload_n 0, 1) := by decide +kernel
theorem dX12_rare_24 : decode cX12_rare 24 = .ok (.getfield 146, 3) := by decide +kernel
theorem dX12_rare_27 : decode cX12_rare 27 = .ok (.if_icmp .ge 111, 3) := by decide +kernel
theorem dX12_rare_30 : decode cX12_rare 30 = .ok (.iload_n 1, 1) := by decide +kernel
theorem dX12_rare_31 : decode cX12_rare 31 = .ok (.ifCond .lt 107, 3) := by decide +kernel
theorem dX12_rare_34 : decode cX12_rare 34 = .ok (.lload_n 2, 1) := by decide +kernel
theorem dX12_rare_35 : decode cX12_rare 35 = .ok (.iload 4, 2) := by decide +kernel
theorem dX12_rare_37 : decode cX12_rare 37 = .ok (.invokestatic 131, 3) := by decide +kernel
theorem dX12_rare_40 : decode cX12_rare 40 = .ok (.ifCond .ne 6, 3) := by decide +kernel
theorem dX12_rare_43 : decode cX12_rare 43 = .ok (.goto 89, 3) := by decide +kernel
theorem dX12_rare_46 : decode cX12_rare 46 = .ok (.iconst 0, 1) := by decide +kernel
theorem dX12_rare_47 : decode cX12_rare 47 = .ok (.istore 5, 2) := by decide +kernel
theorem dX12_rare_49 : decode cX12_rare 49 = .ok (.iconst 0, 1) := by decide +kernel
theorem dX12_rare_50 : decode cX12_rare 50 = .ok (.istore 6, 2) := by decide +kernel
theorem dX12_rare_52 : decode cX12_rare 52 = .ok (.iload 6, 2) := by decide +kernel
theorem dX12_rare_54 : decode cX12_rare 54 = .ok (.aload_n 0, 1) := by decide +kernel
theorem dX12_rare_55 : decode cX12_rare 55 = .ok (.getfield 146, 3) := by decide +kernel
theorem dX12_rare_58 : decode cX12_rare 58 = .ok (.if_icmp .ge 65, 3) := by decide +kernel
theorem dX12_rare_61 : decode cX12_rare 61 = .ok (.iload 5, 2) := by decide +kernel
theorem dX12_rare_63 : decode cX12_rare 63 = .ok (.lload_n 2, 1) := by decide +kernel
theorem dX12_rare_64 : decode cX12_rare 64 = .ok (.iload 6, 2) := by decide +kernel
theorem dX12_rare_66 : decode cX12_rare 66 = .ok (.invokestatic 131, 3) := by decide +kernel
theorem dX12_rare_69 : decode cX12_rare 69 = .ok (.ifCond .eq 44, 3) := by decide +kernel
theorem dX12_rare_72 : decode cX12_rare 72 = .ok (.aload_n 0, 1) := by decide +kernel
theorem dX12_rare_73 : decode cX12_rare 73 = .ok (.iload 6, 2) := by decide +kernel
theorem dX12_rare_75 : decode cX12_rare 75 = .ok (.invokevirtual 306, 3) := by decide +kernel
theorem dX12_rare_78 : decode cX12_rare 78 = .ok (.aload_n 0, 1) := by decide +kernel
theorem dX12_rare_79 : decode cX12_rare 79 = .ok (.iload 4, 2) := by decide +kernel
theorem dX12_rare_81 : decode cX12_rare 81 = .ok (.invokevirtual 306, 3) := by decide +kernel
theorem dX12_rare_84 : decode cX12_rare 84 = .ok (.if_icmp .lt 25, 3) := by decide +kernel
theorem dX12_rare_87 : decode cX12_rare 87 = .ok (.aload_n 0, 1) := by decide +kernel
theorem dX12_rare_88 : decode cX12_rare 88 = .ok (.iload 6, 2) := by decide +kernel
theorem dX12_rare_90 : decode cX12_rare 90 = .ok (.invokevirtual 306, 3) := by decide +kernel
theorem dX12_rare_93 : decode cX12_rare 93 = .ok (.aload_n 0, 1) := by decide +kernel
theorem dX12_rare_94 : decode cX12_rare 94 = .ok (.iload 4, 2) := by decide +kernel
theorem dX12_rare_96 : decode cX12_rare 96 = .ok (.invokevirtual 306, 3) := by decide +kernel
theorem dX12_rare_99 : decode cX12_rare 99 = .ok (.if_icmp .ne 14, 3) := by decide +kernel
theorem dX12_rare_102 : decode cX12_rare 102 = .ok (.iload 6, 2) := by decide +kernel
theorem dX12_rare_104 : decode cX12_rare 104 = .ok (.iload 4, 2) := by decide +kernel
theorem dX12_rare_106 : decode cX12_rare 106 = .ok (.if_icmp .ge 7, 3) := by decide +kernel
theorem dX12_rare_109 : decode cX12_rare 109 = .ok (.iconst 1, 1) := by decide +kernel
theorem dX12_rare_110 : decode cX12_rare 110 = .ok (.goto 4, 3) := by decide +kernel
theorem dX12_rare_113 : decode cX12_rare 113 = .ok (.iconst 0, 1) := by decide +kernel
theorem dX12_rare_114 : decode cX12_rare 114 = .ok (.iadd, 1) := by decide +kernel
theorem dX12_rare_115 : decode cX12_rare 115 = .ok (.istore 5, 2) := by decide +kernel
theorem dX12_rare_117 : decode cX12_rare 117 = .ok (.iinc 6 1, 3) := by decide +kernel
theorem dX12_rare_120 : decode cX12_rare 120 = .ok (.goto (-68), 3) := by decide +kernel
theorem dX12_rare_123 : decode cX12_rare 123 = .ok (.iload 5, 2) := by decide +kernel
theorem dX12_rare_125 : decode cX12_rare 125 = .ok (.iload_n 1, 1) := by decide +kernel
theorem dX12_rare_126 : decode cX12_rare 126 = .ok (.if_icmp .ne 6, 3) := by decide +kernel
theorem dX12_rare_129 : decode cX12_rare 129 = .ok (.iload 4, 2) := by decide +kernel
theorem dX12_rare_131 : decode cX12_rare 131 = .ok (.ireturn, 1) := by decide +kernel
theorem dX12_rare_132 : decode cX12_rare 132 = .ok (.iinc 4 1, 3) := by decide +kernel
theorem dX12_rare_135 : decode cX12_rare 135 = .ok (.goto (-114), 3) := by decide +kernel
theorem dX12_rare_138 : decode cX12_rare 138 = .ok (.aload_n 0, 1) := by decide +kernel
theorem dX12_rare_139 : decode cX12_rare 139 = .ok (.iconst 2, 1) := by decide +kernel
theorem dX12_rare_140 : decode cX12_rare 140 = .ok (.putfield 128, 3) := by decide +kernel
theorem dX12_rare_143 : decode cX12_rare 143 = .ok (.iconst 0, 1) := by decide +kernel
theorem dX12_rare_144 : decode cX12_rare 144 = .ok (.ireturn, 1) := by decide +kernel
theorem dX12_isHint_0 : decode cX12_isHint 0 = .ok (.iload_n 1, 1) := by decide +kernel
theorem dX12_isHint_1 : decode cX12_isHint 1 = .ok (.iconst 0, 1) := by decide +kernel
theorem dX12_isHint_2 : decode cX12_isHint 2 = .ok (.aload_n 0, 1) := by decide +kernel
theorem dX12_isHint_3 : decode cX12_isHint 3 = .ok (.getfield 309, 3) := by decide +kernel
theorem dX12_isHint_6 : decode cX12_isHint 6 = .ok (.iconst 1, 1) := by decide +kernel
theorem dX12_isHint_7 : decode cX12_isHint 7 = .ok (.isub, 1) := by decide +kernel
theorem dX12_isHint_8 : decode cX12_isHint 8 = .ok (.invokestatic 135, 3) := by decide +kernel
theorem dX12_isHint_11 : decode cX12_isHint 11 = .ok (.ireturn, 1) := by decide +kernel
theorem dX12_hint_0 : decode cX12_hint 0 = .ok (.aload_n 0, 1) := by decide +kernel
theorem dX12_hint_1 : decode cX12_hint 1 = .ok (.iload_n 1, 1) := by decide +kernel
theorem dX12_hint_2 : decode cX12_hint 2 = .ok (.iconst 1, 1) := by decide +kernel
theorem dX12_hint_3 : decode cX12_hint 3 = .ok (.bipush 50, 2) := by decide +kernel
theorem dX12_hint_5 : decode cX12_hint 5 = .ok (.invokestatic 135, 3) := by decide +kernel
theorem dX12_hint_8 : decode cX12_hint 8 = .ok (.ifCond .ne 7, 3) := by decide +kernel
theorem dX12_hint_11 : decode cX12_hint 11 = .ok (.iconst 1, 1) := by decide +kernel
theorem dX12_hint_12 : decode cX12_hint 12 = .ok (.goto 17, 3) := by decide +kernel
theorem dX12_hint_15 : decode cX12_hint 15 = .ok (.aload_n 0, 1) := by decide +kernel
theorem dX12_hint_16 : decode cX12_hint 16 = .ok (.getfield 309, 3) := by decide +kernel
theorem dX12_hint_19 : decode cX12_hint 19 = .ok (.bipush 12, 2) := by decide +kernel
theorem dX12_hint_21 : decode cX12_hint 21 = .ok (.if_icmp .ne 7, 3) := by decide +kernel
theorem dX12_hint_24 : decode cX12_hint 24 = .ok (.iconst 2, 1) := by decide +kernel
theorem dX12_hint_25 : decode cX12_hint 25 = .ok (.goto 4, 3) := by decide +kernel
theorem dX12_hint_28 : decode cX12_hint 28 = .ok (.iconst 0, 1) := by decide +kernel
theorem dX12_hint_29 : decode cX12_hint 29 = .ok (.invokevirtual 142, 3) := by decide +kernel
theorem dX12_hint_32 : decode cX12_hint 32 = .ok (.ifCond .eq 5, 3) := by decide +kernel
theorem dX12_hint_35 : decode cX12_hint 35 = .ok (.iconst 0, 1) := by decide +kernel
theorem dX12_hint_36 : decode cX12_hint 36 = .ok (.ireturn, 1) := by decide +kernel
theorem dX12_hint_37 : decode cX12_hint 37 = .ok (.aload_n 0, 1) := by decide +kernel
theorem dX12_hint_38 : decode cX12_hint 38 = .ok (.getfield 106, 3) := by decide +kernel
theorem dX12_hint_41 : decode cX12_hint 41 = .ok (.aload_n 0, 1) := by decide +kernel
theorem dX12_hint_42 : decode cX12_hint 42 = .ok (.getfield 309, 3) := by decide +kernel
theorem dX12_hint_45 : decode cX12_hint 45 = .ok (.iload_n 1, 1) := by decide +kernel
theorem dX12_hint_46 : decode cX12_hint 46 = .ok (.iastore, 1) := by decide +kernel
theorem dX12_hint_47 : decode cX12_hint 47 = .ok (.aload_n 0, 1) := by decide +kernel
theorem dX12_hint_48 : decode cX12_hint 48 = .ok (.dup, 1) := by decide +kernel
theorem dX12_hint_49 : decode cX12_hint 49 = .ok (.getfield 309, 3) := by decide +kernel
theorem dX12_hint_52 : decode cX12_hint 52 = .ok (.iconst 1, 1) := by decide +kernel
theorem dX12_hint_53 : decode cX12_hint 53 = .ok (.iadd, 1) := by decide +kernel
theorem dX12_hint_54 : decode cX12_hint 54 = .ok (.putfield 309, 3) := by decide +kernel
theorem dX12_hint_57 : decode cX12_hint 57 = .ok (.aload_n 0, 1) := by decide +kernel
theorem dX12_hint_58 : decode cX12_hint 58 = .ok (.getfield 309, 3) := by decide +kernel
theorem dX12_hint_61 : decode cX12_hint 61 = .ok (.iconst 1, 1) := by decide +kernel
theorem dX12_hint_62 : decode cX12_hint 62 = .ok (.isub, 1) := by decide +kernel
theorem dX12_hint_63 : decode cX12_hint 63 = .ok (.ireturn, 1) := by decide +kernel
theorem dX12_wasSold_0 : decode cX12_wasSold 0 = .ok (.iconst 0, 1) := by decide +kernel
theorem dX12_wasSold_1 : decode cX12_wasSold 1 = .ok (.istore_n 2, 1) := by decide +kernel
theorem dX12_wasSold_2 : decode cX12_wasSold 2 = .ok (.iconst 0, 1) := by decide +kernel
theorem dX12_wasSold_3 : decode cX12_wasSold 3 = .ok (.istore_n 3, 1) := by decide +kernel
theorem dX12_wasSold_4 : decode cX12_wasSold 4 = .ok (.iload_n 3, 1) := by decide +kernel
theorem dX12_wasSold_5 : decode cX12_wasSold 5 = .ok (.aload_n 0, 1) := by decide +kernel
theorem dX12_wasSold_6 : decode cX12_wasSold 6 = .ok (.getfield 312, 3) := by decide +kernel
theorem dX12_wasSold_9 : decode cX12_wasSold 9 = .ok (.if_icmp .ge 32, 3) := by decide +kernel
theorem dX12_wasSold_12 : decode cX12_wasSold 12 = .ok (.iload_n 2, 1) := by decide +kernel
theorem dX12_wasSold_13 : decode cX12_wasSold 13 = .ok (.aload_n 0, 1) := by decide +kernel
theorem dX12_wasSold_14 : decode cX12_wasSold 14 = .ok (.getfield 88, 3) := by decide +kernel
theorem dX12_wasSold_17 : decode cX12_wasSold 17 = .ok (.aload_n 0, 1) := by decide +kernel
theorem dX12_wasSold_18 : decode cX12_wasSold 18 = .ok (.getfield 116, 3) := by decide +kernel
theorem dX12_wasSold_21 : decode cX12_wasSold 21 = .ok (.iload_n 3, 1) := by decide +kernel
theorem dX12_wasSold_22 : decode cX12_wasSold 22 = .ok (.iaload, 1) := by decide +kernel
theorem dX12_wasSold_23 : decode cX12_wasSold 23 = .ok (.iaload, 1) := by decide +kernel
theorem dX12_wasSold_24 : decode cX12_wasSold 24 = .ok (.iload_n 1, 1) := by decide +kernel
theorem dX12_wasSold_25 : decode cX12_wasSold 25 = .ok (.if_icmp .ne 7, 3) := by decide +kernel
theorem dX12_wasSold_28 : decode cX12_wasSold 28 = .ok (.iconst 1, 1) := by decide +kernel
theorem dX12_wasSold_29 : decode cX12_wasSold 29 = .ok (.goto 4, 3) := by decide +kernel
theorem dX12_wasSold_32 : decode cX12_wasSold 32 = .ok (.iconst 0, 1) := by decide +kernel
theorem dX12_wasSold_33 : decode cX12_wasSold 33 = .ok (.ior, 1) := by decide +kernel
theorem dX12_wasSold_34 : decode cX12_wasSold 34 = .ok (.istore_n 2, 1) := by decide +kernel
theorem dX12_wasSold_35 : decode cX12_wasSold 35 = .ok (.iinc 3 1, 3) := by decide +kernel
theorem dX12_wasSold_38 : decode cX12_wasSold 38 = .ok (.goto (-34), 3) := by decide +kernel
theorem dX12_wasSold_41 : decode cX12_wasSold 41 = .ok (.iload_n 2, 1) := by decide +kernel
theorem dX12_wasSold_42 : decode cX12_wasSold 42 = .ok (.ireturn, 1) := by decide +kernel
theorem dX12_teach_0 : decode cX12_teach 0 = .ok (.aload_n 0, 1) := by decide +kernel
theorem dX12_teach_1 : decode cX12_teach 1 = .ok (.aload_n 0, 1) := by decide +kernel
theorem dX12_teach_2 : decode cX12_teach 2 = .ok (.iload_n 1, 1) := by decide +kernel
theorem dX12_teach_3 : decode cX12_teach 3 = .ok (.invokevirtual 315, 3) := by decide +kernel
theorem dX12_teach_6 : decode cX12_teach 6 = .ok (.ifCond .eq 11, 3) := by decide +kernel
theorem dX12_teach_9 : decode cX12_teach 9 = .ok (.aload_n 0, 1) := by decide +kernel
theorem dX12_teach_10 : decode cX12_teach 10 = .ok (.iload_n 2, 1) := by decide +kernel
theorem dX12_teach_11 : decode cX12_teach 11 = .ok (.invokevirtual 170, 3) := by decide +kernel
theorem dX12_teach_14 : decode cX12_teach 14 = .ok (.ifCond .ne 7, 3) := by decide +kernel
theorem dX12_teach_17 : decode cX12_teach 17 = .ok (.iconst 1, 1) := by decide +kernel
theorem dX12_teach_18 : decode cX12_teach 18 = .ok (.goto 47, 3) := by decide +kernel
theorem dX12_teach_21 : decode cX12_teach 21 = .ok (.aload_n 0, 1) := by decide +kernel
theorem dX12_teach_22 : decode cX12_teach 22 = .ok (.getfield 109, 3) := by decide +kernel
theorem dX12_teach_25 : decode cX12_teach 25 = .ok (.iload_n 1, 1) := by decide +kernel
theorem dX12_teach_26 : decode cX12_teach 26 = .ok (.laload, 1) := by decide +kernel
theorem dX12_teach_27 : decode cX12_teach 27 = .ok (.iload_n 2, 1) := by decide +kernel
theorem dX12_teach_28 : decode cX12_teach 28 = .ok (.invokestatic 131, 3) := by decide +kernel
theorem dX12_teach_31 : decode cX12_teach 31 = .ok (.ifCond .ne 11, 3) := by decide +kernel
theorem dX12_teach_34 : decode cX12_teach 34 = .ok (.aload_n 0, 1) := by decide +kernel
theorem dX12_teach_35 : decode cX12_teach 35 = .ok (.iload_n 1, 1) := by decide +kernel
theorem dX12_teach_36 : decode cX12_teach 36 = .ok (.invokevirtual 318, 3) := by decide +kernel
theorem dX12_teach_39 : decode cX12_teach 39 = .ok (.ifCond .eq 7, 3) := by decide +kernel
theorem dX12_teach_42 : decode cX12_teach 42 = .ok (.iconst 2, 1) := by decide +kernel
theorem dX12_teach_43 : decode cX12_teach 43 = .ok (.goto 22, 3) := by decide +kernel
theorem dX12_teach_46 : decode cX12_teach 46 = .ok (.aload_n 0, 1) := by decide +kernel
theorem dX12_teach_47 : decode cX12_teach 47 = .ok (.getfield 109, 3) := by decide +kernel
theorem dX12_teach_50 : decode cX12_teach 50 = .ok (.iload_n 1, 1) := by decide +kernel
theorem dX12_teach_51 : decode cX12_teach 51 = .ok (.laload, 1) := by decide +kernel
theorem dX12_teach_52 : decode cX12_teach 52 = .ok (.invokestatic 173, 3) := by decide +kernel
theorem dX12_teach_55 : decode cX12_teach 55 = .ok (.bipush 6, 2) := by decide +kernel
theorem dX12_teach_57 : decode cX12_teach 57 = .ok (.if_icmp .ne 7, 3) := by decide +kernel
theorem dX12_teach_60 : decode cX12_teach 60 = .ok (.iconst 3, 1) := by decide +kernel
theorem dX12_teach_61 : decode cX12_teach 61 = .ok (.goto 4, 3) := by decide +kernel
theorem dX12_teach_64 : decode cX12_teach 64 = .ok (.iconst 0, 1) := by decide +kernel
theorem dX12_teach_65 : decode cX12_teach 65 = .ok (.invokevirtual 142, 3) := by decide +kernel
theorem dX12_teach_68 : decode cX12_teach 68 = .ok (.ifCond .eq 5, 3) := by decide +kernel
theorem dX12_teach_71 : decode cX12_teach 71 = .ok (.iconst 0, 1) := by decide +kernel
theorem dX12_teach_72 : decode cX12_teach 72 = .ok (.ireturn, 1) := by decide +kernel
theorem dX12_teach_73 : decode cX12_teach 73 = .ok (.aload_n 0, 1) := by decide +kernel
theorem dX12_teach_74 : decode cX12_teach 74 = .ok (.getfield 109, 3) := by decide +kernel
theorem dX12_teach_77 : decode cX12_teach 77 = .ok (.iload_n 1, 1) := by decide +kernel
theorem dX12_teach_78 : decode cX12_teach 78 = .ok (.dup2, 1) := by decide +kernel
theorem dX12_teach_79 : decode cX12_teach 79 = .ok (.laload, 1) := by decide +kernel
theorem dX12_teach_80 : decode cX12_teach 80 = .ok (.lconst 1, 1) := by decide +kernel
theorem dX12_teach_81 : decode cX12_teach 81 = .ok (.iload_n 2, 1) := by decide +kernel
theorem dX12_teach_82 : decode cX12_teach 82 = .ok (.lshl, 1) := by decide +kernel
theorem dX12_teach_83 : decode cX12_teach 83 = .ok (.lor, 1) := by decide +kernel
theorem dX12_teach_84 : decode cX12_teach 84 = .ok (.lastore, 1) := by decide +kernel
theorem dX12_teach_85 : decode cX12_teach 85 = .ok (.aload_n 0, 1) := by decide +kernel
theorem dX12_teach_86 : decode cX12_teach 86 = .ok (.getfield 109, 3) := by decide +kernel
theorem dX12_teach_89 : decode cX12_teach 89 = .ok (.iload_n 1, 1) := by decide +kernel
theorem dX12_teach_90 : decode cX12_teach 90 = .ok (.laload, 1) := by decide +kernel
theorem dX12_teach_91 : decode cX12_teach 91 = .ok (.invokestatic 173, 3) := by decide +kernel
theorem dX12_teach_94 : decode cX12_teach 94 = .ok (.ireturn, 1) := by decide +kernel
theorem dX12_isOnPath_0 : decode cX12_isOnPath 0 = .ok (.iconst 0, 1) := by decide +kernel
theorem dX12_isOnPath_1 : decode cX12_isOnPath 1 = .ok (.istore_n 3, 1) := by decide +kernel
theorem dX12_isOnPath_2 : decode cX12_isOnPath 2 = .ok (.iload_n 2, 1) := by decide +kernel
theorem dX12_isOnPath_3 : decode cX12_isOnPath 3 = .ok (.istore 4, 2) := by decide +kernel
theorem dX12_isOnPath_5 : decode cX12_isOnPath 5 = .ok (.iload 4, 2) := by decide +kernel
theorem dX12_isOnPath_7 : decode cX12_isOnPath 7 = .ok (.iconst (-1), 1) := by decide +kernel
theorem dX12_isOnPath_8 : decode cX12_isOnPath 8 = .ok (.if_icmp .eq 29, 3) := by decide +kernel
theorem dX12_isOnPath_11 : decode cX12_isOnPath 11 = .ok (.iload_n 3, 1) := by decide +kernel
theorem dX12_isOnPath_12 : decode cX12_isOnPath 12 = .ok (.iload 4, 2) := by decide +kernel
theorem dX12_isOnPath_14 : decode cX12_isOnPath 14 = .ok (.iload_n 1, 1) := by decide +kernel
theorem dX12_isOnPath_15 : decode cX12_isOnPath 15 = .ok (.if_icmp .ne 7, 3) := by decide +kernel
theorem dX12_isOnPath_18 : decode cX12_isOnPath 18 = .ok (.iconst 1, 1) := by decide +kernel
theorem dX12_isOnPath_19 : decode cX12_isOnPath 19 = .ok (.goto 4, 3) := by decide +kernel
theorem dX12_isOnPath_22 : decode cX12_isOnPath 22 = .ok (.iconst 0, 1) := by decide +kernel
theorem dX12_isOnPath_23 : decode cX12_isOnPath 23 = .ok (.ior, 1) := by decide +kernel
theorem dX12_isOnPath_24 : decode cX12_isOnPath 24 = .ok (.istore_n 3, 1) := by decide +kernel
theorem dX12_isOnPath_25 : decode cX12_isOnPath 25 = .ok (.aload_n 0, 1) := by decide +kernel
theorem dX12_isOnPath_26 : decode cX12_isOnPath 26 = .ok (.getfield 67, 3) := by decide +kernel
theorem dX12_isOnPath_29 : decode cX12_isOnPath 29 = .ok (.iload 4, 2) := by decide +kernel
theorem dX12_isOnPath_31 : decode cX12_isOnPath 31 = .ok (.iaload, 1) := by decide +kernel
theorem dX12_isOnPath_32 : decode cX12_isOnPath 32 = .ok (.istore 4, 2) := by decide +kernel
theorem dX12_isOnPath_34 : decode cX12_isOnPath 34 = .ok (.goto (-29), 3) := by decide +kernel
theorem dX12_isOnPath_37 : decode cX12_isOnPath 37 = .ok (.iload_n 3, 1) := by decide +kernel
theorem dX12_isOnPath_38 : decode cX12_isOnPath 38 = .ok (.ireturn, 1) := by decide +kernel
theorem dX12_isOwnedNow_0 : decode cX12_isOwnedNow 0 = .ok (.iconst 0, 1) := by decide +kernel
theorem dX12_isOwnedNow_1 : decode cX12_isOwnedNow 1 = .ok (.istore_n 2, 1) := by decide +kernel
theorem dX12_isOwnedNow_2 : decode cX12_isOwnedNow 2 = .ok (.iconst 0, 1) := by decide +kernel
theorem dX12_isOwnedNow_3 : decode cX12_isOwnedNow 3 = .ok (.istore_n 3, 1) := by decide +kernel
theorem dX12_isOwnedNow_4 : decode cX12_isOwnedNow 4 = .ok (.iload_n 3, 1) := by decide +kernel
theorem dX12_isOwnedNow_5 : decode cX12_isOwnedNow 5 = .ok (.aload_n 0, 1) := by decide +kernel
theorem dX12_isOwnedNow_6 : decode cX12_isOwnedNow 6 = .ok (.getfield 312, 3) := by decide +kernel
theorem dX12_isOwnedNow_9 : decode cX12_isOwnedNow 9 = .ok (.if_icmp .ge 66, 3) := by decide +kernel
theorem dX12_isOwnedNow_12 : decode cX12_isOwnedNow 12 = .ok (.iload_n 2, 1) := by decide +kernel
theorem dX12_isOwnedNow_13 : decode cX12_isOwnedNow 13 = .ok (.aload_n 0, 1) := by decide +kernel
theorem dX12_isOwnedNow_14 : decode cX12_isOwnedNow 14 = .ok (.getfield 88, 3) := by decide +kernel
theorem dX12_isOwnedNow_17 : decode cX12_isOwnedNow 17 = .ok (.aload_n 0, 1) := by decide +kernel
theorem dX12_isOwnedNow_18 : decode cX12_isOwnedNow 18 = .ok (.getfield 116, 3) := by decide +kernel
theorem dX12_isOwnedNow_21 : decode cX12_isOwnedNow 21 = .ok (.iload_n 3, 1) := by decide +kernel
theorem dX12_isOwnedNow_22 : decode cX12_isOwnedNow 22 = .ok (.iaload, 1) := by decide +kernel
theorem dX12_isOwnedNow_23 : decode cX12_isOwnedNow 23 = .ok (.iaload, 1) := by decide +kernel
theorem dX12_isOwnedNow_24 : decode cX12_isOwnedNow 24 = .ok (.iload_n 1, 1) := by decide +kernel
theorem dX12_isOwnedNow_25 : decode cX12_isOwnedNow 25 = .ok (.if_icmp .ne 41, 3) := by decide +kernel
theorem dX12_isOwnedNow_28 : decode cX12_isOwnedNow 28 = .ok (.aload_n 0, 1) := by decide +kernel
theorem dX12_isOwnedNow_29 : decode cX12_isOwnedNow 29 = .ok (.aload_n 0, 1) := by decide +kernel
theorem dX12_isOwnedNow_30 : decode cX12_isOwnedNow 30 = .ok (.getfield 116, 3) := by decide +kernel
theorem dX12_isOwnedNow_33 : decode cX12_isOwnedNow 33 = .ok (.iload_n 3, 1) := by decide +kernel
theorem dX12_isOwnedNow_34 : decode cX12_isOwnedNow 34 = .ok (.iaload, 1) := by decide +kernel
theorem dX12_isOwnedNow_35 : decode cX12_isOwnedNow 35 = .ok (.aload_n 0, 1) := by decide +kernel
theorem dX12_isOwnedNow_36 : decode cX12_isOwnedNow 36 = .ok (.getfield 210, 3) := by decide +kernel
theorem dX12_isOwnedNow_39 : decode cX12_isOwnedNow 39 = .ok (.invokevirtual 321, 3) := by decide +kernel
theorem dX12_isOwnedNow_42 : decode cX12_isOwnedNow 42 = .ok (.ifCond .ne 20, 3) := by decide +kernel
theorem dX12_isOwnedNow_45 : decode cX12_isOwnedNow 45 = .ok (.aload_n 0, 1) := by decide +kernel
theorem dX12_isOwnedNow_46 : decode cX12_isOwnedNow 46 = .ok (.aload_n 0, 1) := by decide +kernel
theorem dX12_isOwnedNow_47 : decode cX12_isOwnedNow 47 = .ok (.getfield 210, 3) := by decide +kernel
theorem dX12_isOwnedNow_50 : decode cX12_isOwnedNow 50 = .ok (.aload_n 0, 1) := by decide +kernel
theorem dX12_isOwnedNow_51 : decode cX12_isOwnedNow 51 = .ok (.getfield 116, 3) := by decide +kernel
theorem dX12_isOwnedNow_54 : decode cX12_isOwnedNow 54 = .ok (.iload_n 3, 1) := by decide +kernel
theorem dX12_isOwnedNow_55 : decode cX12_isOwnedNow 55 = .ok (.iaload, 1) := by decide +kernel
theorem dX12_isOwnedNow_56 : decode cX12_isOwnedNow 56 = .ok (.invokevirtual 321, 3) := by decide +kernel
theorem dX12_isOwnedNow_59 : decode cX12_isOwnedNow 59 = .ok (.ifCond .eq 7, 3) := by decide +kernel
theorem dX12_isOwnedNow_62 : decode cX12_isOwnedNow 62 = .ok (.iconst 1, 1) := by decide +kernel
theorem dX12_isOwnedNow_63 : decode cX12_isOwnedNow 63 = .ok (.goto 4, 3) := by decide +kernel
theorem dX12_isOwnedNow_66 : decode cX12_isOwnedNow 66 = .ok (.iconst 0, 1) := by decide +kernel
theorem dX12_isOwnedNow_67 : decode cX12_isOwnedNow 67 = .ok (.ior, 1) := by decide +kernel
theorem dX12_isOwnedNow_68 : decode cX12_isOwnedNow 68 = .ok (.istore_n 2, 1) := by decide +kernel
theorem dX12_isOwnedNow_69 : decode cX12_isOwnedNow 69 = .ok (.iinc 3 1, 3) := by decide +kernel
theorem dX12_isOwnedNow_72 : decode cX12_isOwnedNow 72 = .ok (.goto (-68), 3) := by decide +kernel
theorem dX12_isOwnedNow_75 : decode cX12_isOwnedNow 75 = .ok (.iload_n 2, 1) := by decide +kernel
theorem dX12_isOwnedNow_76 : decode cX12_isOwnedNow 76 = .ok (.ireturn, 1) := by decide +kernel
theorem dX12_priceNow_0 : decode cX12_priceNow 0 = .ok (.aload_n 0, 1) := by decide +kernel
theorem dX12_priceNow_1 : decode cX12_priceNow 1 = .ok (.getfield 109, 3) := by decide +kernel
theorem dX12_priceNow_4 : decode cX12_priceNow 4 = .ok (.iload_n 1, 1) := by decide +kernel
theorem dX12_priceNow_5 : decode cX12_priceNow 5 = .ok (.laload, 1) := by decide +kernel
theorem dX12_priceNow_6 : decode cX12_priceNow 6 = .ok (.aload_n 0, 1) := by decide +kernel
theorem dX12_priceNow_7 : decode cX12_priceNow 7 = .ok (.aload_n 0, 1) := by decide +kernel
theorem dX12_priceNow_8 : decode cX12_priceNow 8 = .ok (.getfield 210, 3) := by decide +kernel
theorem dX12_priceNow_11 : decode cX12_priceNow 11 = .ok (.invokevirtual 231, 3) := by decide +kernel
theorem dX12_priceNow_14 : decode cX12_priceNow 14 = .ok (.ldc2_w 240, 3) := by decide +kernel
theorem dX12_priceNow_17 : decode cX12_priceNow 17 = .ok (.lxor, 1) := by decide +kernel
theorem dX12_priceNow_18 : decode cX12_priceNow 18 = .ok (.land, 1) := by decide +kernel
theorem dX12_priceNow_19 : decode cX12_priceNow 19 = .ok (.invokestatic 173, 3) := by decide +kernel
theorem dX12_priceNow_22 : decode cX12_priceNow 22 = .ok (.istore_n 2, 1) := by decide +kernel
theorem dX12_priceNow_23 : decode cX12_priceNow 23 = .ok (.iconst 0, 1) := by decide +kernel
theorem dX12_priceNow_24 : decode cX12_priceNow 24 = .ok (.istore_n 3, 1) := by decide +kernel
theorem dX12_priceNow_25 : decode cX12_priceNow 25 = .ok (.iconst 0, 1) := by decide +kernel
theorem dX12_priceNow_26 : decode cX12_priceNow 26 = .ok (.istore 4, 2) := by decide +kernel
theorem dX12_priceNow_28 : decode cX12_priceNow 28 = .ok (.iload 4, 2) := by decide +kernel
theorem dX12_priceNow_30 : decode cX12_priceNow 30 = .ok (.aload_n 0, 1) := by decide +kernel
theorem dX12_priceNow_31 : decode cX12_priceNow 31 = .ok (.getfield 207, 3) := by decide +kernel
theorem dX12_priceNow_34 : decode cX12_priceNow 34 = .ok (.if_icmp .ge 36, 3) := by decide +kernel
theorem dX12_priceNow_37 : decode cX12_priceNow 37 = .ok (.iload_n 3, 1) := by decide +kernel
theorem dX12_priceNow_38 : decode cX12_priceNow 38 = .ok (.aload_n 0, 1) := by decide +kernel
theorem dX12_priceNow_39 : decode cX12_priceNow 39 = .ok (.getfield 82, 3) := by decide +kernel
theorem dX12_priceNow_42 : decode cX12_priceNow 42 = .ok (.iload 4, 2) := by decide +kernel
theorem dX12_priceNow_44 : decode cX12_priceNow 44 = .ok (.laload, 1) := by decide +kernel
theorem dX12_priceNow_45 : decode cX12_priceNow 45 = .ok (.aload_n 0, 1) := by decide +kernel
theorem dX12_priceNow_46 : decode cX12_priceNow 46 = .ok (.getfield 109, 3) := by decide +kernel
theorem dX12_priceNow_49 : decode cX12_priceNow 49 = .ok (.iload_n 1, 1) := by decide +kernel
theorem dX12_priceNow_50 : decode cX12_priceNow 50 = .ok (.laload, 1) := by decide +kernel
theorem dX12_priceNow_51 : decode cX12_priceNow 51 = .ok (.land, 1) := by decide +kernel
theorem dX12_priceNow_52 : decode cX12_priceNow 52 = .ok (.lconst 0, 1) := by decide +kernel
theorem dX12_priceNow_53 : decode cX12_priceNow 53 = .ok (.lcmp, 1) := by decide +kernel
theorem dX12_priceNow_54 : decode cX12_priceNow 54 = .ok (.ifCond .eq 7, 3) := by decide +kernel
theorem dX12_priceNow_57 : decode cX12_priceNow 57 = .ok (.iconst 1, 1) := by decide +kernel
theorem dX12_priceNow_58 : decode cX12_priceNow 58 = .ok (.goto 4, 3) := by decide +kernel
theorem dX12_priceNow_61 : decode cX12_priceNow 61 = .ok (.iconst 0, 1) := by decide +kernel
theorem dX12_priceNow_62 : decode cX12_priceNow 62 = .ok (.iadd, 1) := by decide +kernel
theorem dX12_priceNow_63 : decode cX12_priceNow 63 = .ok (.istore_n 3, 1) := by decide +kernel
theorem dX12_priceNow_64 : decode cX12_priceNow 64 = .ok (.iinc 4 1, 3) := by decide +kernel
theorem dX12_priceNow_67 : decode cX12_priceNow 67 = .ok (.goto (-39), 3) := by decide +kernel
theorem dX12_priceNow_70 : decode cX12_priceNow 70 = .ok (.iload_n 3, 1) := by decide +kernel
theorem dX12_priceNow_71 : decode cX12_priceNow 71 = .ok (.i2f, 1) := by decide +kernel
theorem dX12_priceNow_72 : decode cX12_priceNow 72 = .ok (.aload_n 0, 1) := by decide +kernel
theorem dX12_priceNow_73 : decode cX12_priceNow 73 = .ok (.getfield 207, 3) := by decide +kernel
theorem dX12_priceNow_76 : decode cX12_priceNow 76 = .ok (.i2f, 1) := by decide +kernel
theorem dX12_priceNow_77 : decode cX12_priceNow 77 = .ok (.fdiv, 1) := by decide +kernel
theorem dX12_priceNow_78 : decode cX12_priceNow 78 = .ok (.fstore 4, 2) := by decide +kernel
theorem dX12_priceNow_80 : decode cX12_priceNow 80 = .ok (.aload_n 0, 1) := by decide +kernel
theorem dX12_priceNow_81 : decode cX12_priceNow 81 = .ok (.getfield 106, 3) := by decide +kernel
theorem dX12_priceNow_84 : decode cX12_priceNow 84 = .ok (.iload_n 1, 1) := by decide +kernel
theorem dX12_priceNow_85 : decode cX12_priceNow 85 = .ok (.iaload, 1) := by decide +kernel
theorem dX12_priceNow_86 : decode cX12_priceNow 86 = .ok (.iload_n 2, 1) := by decide +kernel
theorem dX12_priceNow_87 : decode cX12_priceNow 87 = .ok (.imul, 1) := by decide +kernel
theorem dX12_priceNow_88 : decode cX12_priceNow 88 = .ok (.i2f, 1) := by decide +kernel
theorem dX12_priceNow_89 : decode cX12_priceNow 89 = .ok (.fconst 2, 1) := by decide +kernel
theorem dX12_priceNow_90 : decode cX12_priceNow 90 = .ok (.fload 4, 2) := by decide +kernel
theorem dX12_priceNow_92 : decode cX12_priceNow 92 = .ok (.fsub, 1) := by decide +kernel
theorem dX12_priceNow_93 : decode cX12_priceNow 93 = .ok (.fmul, 1) := by decide +kernel
theorem dX12_priceNow_94 : decode cX12_priceNow 94 = .ok (.f2i, 1) := by decide +kernel
theorem dX12_priceNow_95 : decode cX12_priceNow 95 = .ok (.ireturn, 1) := by decide +kernel
theorem dX12_price_0 : decode cX12_price 0 = .ok (.aload_n 0, 1) := by decide +kernel
theorem dX12_price_1 : decode cX12_price 1 = .ok (.aload_n 0, 1) := by decide +kernel
theorem dX12_price_2 : decode cX12_price 2 = .ok (.iload_n 1, 1) := by decide +kernel
theorem dX12_price_3 : decode cX12_price 3 = .ok (.invokevirtual 315, 3) := by decide +kernel
theorem dX12_price_6 : decode cX12_price 6 = .ok (.ifCond .ne 7, 3) := by decide +kernel
theorem dX12_price_9 : decode cX12_price 9 = .ok (.iconst 1, 1) := by decide +kernel
theorem dX12_price_10 : decode cX12_price 10 = .ok (.goto 27, 3) := by decide +kernel
theorem dX12_price_13 : decode cX12_price 13 = .ok (.aload_n 0, 1) := by decide +kernel
theorem dX12_price_14 : decode cX12_price 14 = .ok (.getfield 163, 3) := by decide +kernel
theorem dX12_price_17 : decode cX12_price 17 = .ok (.ifCond .ne 7, 3) := by decide +kernel
theorem dX12_price_20 : decode cX12_price 20 = .ok (.iconst 2, 1) := by decide +kernel
theorem dX12_price_21 : decode cX12_price 21 = .ok (.goto 16, 3) := by decide +kernel
theorem dX12_price_24 : decode cX12_price 24 = .ok (.aload_n 0, 1) := by decide +kernel
theorem dX12_price_25 : decode cX12_price 25 = .ok (.iload_n 1, 1) := by decide +kernel
theorem dX12_price_26 : decode cX12_price 26 = .ok (.invokevirtual 324, 3) := by decide +kernel
theorem dX12_price_29 : decode cX12_price 29 = .ok (.ifCond .eq 7, 3) := by decide +kernel
theorem dX12_price_32 : decode cX12_price 32 = .ok (.iconst 3, 1) := by decide +kernel
theorem dX12_price_33 : decode cX12_price 33 = .ok (.goto 4, 3) := by decide +kernel
theorem dX12_price_36 : decode cX12_price 36 = .ok (.iconst 0, 1) := by decide +kernel
theorem dX12_price_37 : decode cX12_price 37 = .ok (.invokevirtual 142, 3) := by decide +kernel
theorem dX12_price_40 : decode cX12_price 40 = .ok (.ifCond .eq 7, 3) := by decide +kernel
theorem dX12_price_43 : decode cX12_price 43 = .ok (.iconst 0, 1) := by decide +kernel
theorem dX12_price_44 : decode cX12_price 44 = .ok (.goto 8, 3) := by decide +kernel
theorem dX12_price_47 : decode cX12_price 47 = .ok (.aload_n 0, 1) := by decide +kernel
theorem dX12_price_48 : decode cX12_price 48 = .ok (.iload_n 1, 1) := by decide +kernel
theorem dX12_price_49 : decode cX12_price 49 = .ok (.invokevirtual 327, 3) := by decide +kernel
theorem dX12_price_52 : decode cX12_price 52 = .ok (.ireturn, 1) := by decide +kernel
theorem dX12_buy_0 : decode cX12_buy 0 = .ok (.aload_n 0, 1) := by decide +kernel
theorem dX12_buy_1 : decode cX12_buy 1 = .ok (.aload_n 0, 1) := by decide +kernel
theorem dX12_buy_2 : decode cX12_buy 2 = .ok (.iload_n 1, 1) := by decide +kernel
theorem dX12_buy_3 : decode cX12_buy 3 = .ok (.invokevirtual 315, 3) := by decide +kernel
theorem dX12_buy_6 : decode cX12_buy 6 = .ok (.ifCond .ne 7, 3) := by decide +kernel
theorem dX12_buy_9 : decode cX12_buy 9 = .ok (.iconst 1, 1) := by decide +kernel
theorem dX12_buy_10 : decode cX12_buy 10 = .ok (.goto 24, 3) := by decide +kernel
theorem dX12_buy_13 : decode cX12_buy 13 = .ok (.aload_n 0, 1) := by decide +kernel
theorem dX12_buy_14 : decode cX12_buy 14 = .ok (.getfield 163, 3) := by decide +kernel
theorem dX12_buy_17 : decode cX12_buy 17 = .ok (.ifCond .eq 12, 3) := by decide +kernel
theorem dX12_buy_20 : decode cX12_buy 20 = .ok (.aload_n 0, 1) := by decide +kernel
theorem dX12_buy_21 : decode cX12_buy 21 = .ok (.getfield 207, 3) := by decide +kernel
theorem dX12_buy_24 : decode cX12_buy 24 = .ok (.bipush 80, 2) := by decide +kernel
theorem dX12_buy_26 : decode cX12_buy 26 = .ok (.if_icmp .ne 7, 3) := by decide +kernel
theorem dX12_buy_29 : decode cX12_buy 29 = .ok (.iconst 2, 1) := by decide +kernel
theorem dX12_buy_30 : decode cX12_buy 30 = .ok (.goto 4, 3) := by decide +kernel
theorem dX12_buy_33 : decode cX12_buy 33 = .ok (.iconst 0, 1) := by decide +kernel
theorem dX12_buy_34 : decode cX12_buy 34 = .ok (.invokevirtual 142, 3) := by decide +kernel
theorem dX12_buy_37 : decode cX12_buy 37 = .ok (.ifCond .eq 5, 3) := by decide +kernel
theorem dX12_buy_40 : decode cX12_buy 40 = .ok (.iconst 0, 1) := by decide +kernel
theorem dX12_buy_41 : decode cX12_buy 41 = .ok (.ireturn, 1) := by decide +kernel
theorem dX12_buy_42 : decode cX12_buy 42 = .ok (.aload_n 0, 1) := by decide +kernel
theorem dX12_buy_43 : decode cX12_buy 43 = .ok (.aload_n 0, 1) := by decide +kernel
theorem dX12_buy_44 : decode cX12_buy 44 = .ok (.iload_n 1, 1) := by decide +kernel
theorem dX12_buy_45 : decode cX12_buy 45 = .ok (.invokevirtual 324, 3) := by decide +kernel
theorem dX12_buy_48 : decode cX12_buy 48 = .ok (.ifCond .ne 27, 3) := by decide +kernel
theorem dX12_buy_51 : decode cX12_buy 51 = .ok (.aload_n 0, 1) := by decide +kernel
theorem dX12_buy_52 : decode cX12_buy 52 = .ok (.getfield 109, 3) := by decide +kernel
theorem dX12_buy_55 : decode cX12_buy 55 = .ok (.iload_n 1, 1) := by decide +kernel
theorem dX12_buy_56 : decode cX12_buy 56 = .ok (.laload, 1) := by decide +kernel
theorem dX12_buy_57 : decode cX12_buy 57 = .ok (.aload_n 0, 1) := by decide +kernel
theorem dX12_buy_58 : decode cX12_buy 58 = .ok (.aload_n 0, 1) := by decide +kernel
theorem dX12_buy_59 : decode cX12_buy 59 = .ok (.getfield 210, 3) := by decide +kernel
theorem dX12_buy_62 : decode cX12_buy 62 = .ok (.invokevirtual 231, 3) := by decide +kernel
theorem dX12_buy_65 : decode cX12_buy 65 = .ok (.ldc2_w 240, 3) := by decide +kernel
theorem dX12_buy_68 : decode cX12_buy 68 = .ok (.lxor, 1) := by decide +kernel
theorem dX12_buy_69 : decode cX12_buy 69 = .ok (.land, 1) := by decide +kernel
theorem dX12_buy_70 : decode cX12_buy 70 = .ok (.lconst 0, 1) := by decide +kernel
theorem dX12_buy_71 : decode cX12_buy 71 = .ok (.lcmp, 1) := by decide +kernel
theorem dX12_buy_72 : decode cX12_buy 72 = .ok (.ifCond .ne 7, 3) := by decide +kernel
theorem dX12_buy_75 : decode cX12_buy 75 = .ok (.iconst 3, 1) := by decide +kernel
theorem dX12_buy_76 : decode cX12_buy 76 = .ok (.goto 20, 3) := by decide +kernel
theorem dX12_buy_79 : decode cX12_buy 79 = .ok (.aload_n 0, 1) := by decide +kernel
theorem dX12_buy_80 : decode cX12_buy 80 = .ok (.iload_n 1, 1) := by decide +kernel
theorem dX12_buy_81 : decode cX12_buy 81 = .ok (.invokevirtual 327, 3) := by decide +kernel
theorem dX12_buy_84 : decode cX12_buy 84 = .ok (.aload_n 0, 1) := by decide +kernel
theorem dX12_buy_85 : decode cX12_buy 85 = .ok (.getfield 112, 3) := by decide +kernel
theorem dX12_buy_88 : decode cX12_buy 88 = .ok (.if_icmp .le 7, 3) := by decide +kernel
theorem dX12_buy_91 : decode cX12_buy 91 = .ok (.iconst 4, 1) := by decide +kernel
theorem dX12_buy_92 : decode cX12_buy 92 = .ok (.goto 4, 3) := by decide +kernel
theorem dX12_buy_95 : decode cX12_buy 95 = .ok (.iconst 0, 1) := by decide +kernel
theorem dX12_buy_96 : decode cX12_buy 96 = .ok (.invokevirtual 142, 3) := by decide +kernel
theorem dX12_buy_99 : decode cX12_buy 99 = .ok (.ifCond .eq 5, 3) := by decide +kernel
theorem dX12_buy_102 : decode cX12_buy 102 = .ok (.iconst 0, 1) := by decide +kernel
theorem dX12_buy_103 : decode cX12_buy 103 = .ok (.ireturn, 1) := by decide +kernel
theorem dX12_buy_104 : decode cX12_buy 104 = .ok (.aload_n 0, 1) := by decide +kernel
theorem dX12_buy_105 : decode cX12_buy 105 = .ok (.iload_n 1, 1) := by decide +kernel
theorem dX12_buy_106 : decode cX12_buy 106 = .ok (.invokevirtual 327, 3) := by decide +kernel
theorem dX12_buy_109 : decode cX12_buy 109 = .ok (.istore_n 2, 1) := by decide +kernel
theorem dX12_buy_110 : decode cX12_buy 110 = .ok (.aload_n 0, 1) := by decide +kernel
theorem dX12_buy_111 : decode cX12_buy 111 = .ok (.dup, 1) := by decide +kernel
theorem dX12_buy_112 : decode cX12_buy 112 = .ok (.getfield 112, 3) := by decide +kernel
theorem dX12_buy_115 : decode cX12_buy 115 = .ok (.iload_n 2, 1) := by decide +kernel
theorem dX12_buy_116 : decode cX12_buy 116 = .ok (.isub, 1) := by decide +kernel
theorem dX12_buy_117 : decode cX12_buy 117 = .ok (.putfield 112, 3) := by decide +kernel
theorem dX12_buy_120 : decode cX12_buy 120 = .ok (.aload_n 0, 1) := by decide +kernel
theorem dX12_buy_121 : decode cX12_buy 121 = .ok (.aload_n 0, 1) := by decide +kernel
theorem dX12_buy_122 : decode cX12_buy 122 = .ok (.getfield 210, 3) := by decide +kernel
theorem dX12_buy_125 : decode cX12_buy 125 = .ok (.invokevirtual 271, 3) := by decide +kernel
theorem dX12_buy_128 : decode cX12_buy 128 = .ok (.aload_n 0, 1) := by decide +kernel
theorem dX12_buy_129 : decode cX12_buy 129 = .ok (.aload_n 0, 1) := by decide +kernel
theorem dX12_buy_130 : decode cX12_buy 130 = .ok (.getfield 109, 3) := by decide +kernel
theorem dX12_buy_133 : decode cX12_buy 133 = .ok (.iload_n 1, 1) := by decide +kernel
theorem dX12_buy_134 : decode cX12_buy 134 = .ok (.laload, 1) := by decide +kernel
theorem dX12_buy_135 : decode cX12_buy 135 = .ok (.putfield 193, 3) := by decide +kernel
theorem dX12_buy_138 : decode cX12_buy 138 = .ok (.aload_n 0, 1) := by decide +kernel
theorem dX12_buy_139 : decode cX12_buy 139 = .ok (.iconst 1, 1) := by decide +kernel
theorem dX12_buy_140 : decode cX12_buy 140 = .ok (.iload_n 1, 1) := by decide +kernel
theorem dX12_buy_141 : decode cX12_buy 141 = .ok (.invokevirtual 223, 3) := by decide +kernel
theorem dX12_buy_144 : decode cX12_buy 144 = .ok (.aload_n 0, 1) := by decide +kernel
theorem dX12_buy_145 : decode cX12_buy 145 = .ok (.getfield 88, 3) := by decide +kernel
theorem dX12_buy_148 : decode cX12_buy 148 = .ok (.aload_n 0, 1) := by decide +kernel
theorem dX12_buy_149 : decode cX12_buy 149 = .ok (.getfield 210, 3) := by decide +kernel
theorem dX12_buy_152 : decode cX12_buy 152 = .ok (.iload_n 1, 1) := by decide +kernel
theorem dX12_buy_153 : decode cX12_buy 153 = .ok (.iastore, 1) := by decide +kernel
theorem dX12_buy_154 : decode cX12_buy 154 = .ok (.aload_n 0, 1) := by decide +kernel
theorem dX12_buy_155 : decode cX12_buy 155 = .ok (.getfield 116, 3) := by decide +kernel
theorem dX12_buy_158 : decode cX12_buy 158 = .ok (.aload_n 0, 1) := by decide +kernel
theorem dX12_buy_159 : decode cX12_buy 159 = .ok (.getfield 312, 3) := by decide +kernel
theorem dX12_buy_162 : decode cX12_buy 162 = .ok (.aload_n 0, 1) := by decide +kernel
theorem dX12_buy_163 : decode cX12_buy 163 = .ok (.getfield 210, 3) := by decide +kernel
theorem dX12_buy_166 : decode cX12_buy 166 = .ok (.iastore, 1) := by decide +kernel
theorem dX12_buy_167 : decode cX12_buy 167 = .ok (.aload_n 0, 1) := by decide +kernel
theorem dX12_buy_168 : decode cX12_buy 168 = .ok (.getfield 119, 3) := by decide +kernel
theorem dX12_buy_171 : decode cX12_buy 171 = .ok (.aload_n 0, 1) := by decide +kernel
theorem dX12_buy_172 : decode cX12_buy 172 = .ok (.getfield 312, 3) := by decide +kernel
theorem dX12_buy_175 : decode cX12_buy 175 = .ok (.iload_n 2, 1) := by decide +kernel
theorem dX12_buy_176 : decode cX12_buy 176 = .ok (.iastore, 1) := by decide +kernel
theorem dX12_buy_177 : decode cX12_buy 177 = .ok (.aload_n 0, 1) := by decide +kernel
theorem dX12_buy_178 : decode cX12_buy 178 = .ok (.dup, 1) := by decide +kernel
theorem dX12_buy_179 : decode cX12_buy 179 = .ok (.getfield 312, 3) := by decide +kernel
theorem dX12_buy_182 : decode cX12_buy 182 = .ok (.iconst 1, 1) := by decide +kernel
theorem dX12_buy_183 : decode cX12_buy 183 = .ok (.iadd, 1) := by decide +kernel
theorem dX12_buy_184 : decode cX12_buy 184 = .ok (.putfield 312, 3) := by decide +kernel
theorem dX12_buy_187 : decode cX12_buy 187 = .ok (.aload_n 0, 1) := by decide +kernel
theorem dX12_buy_188 : decode cX12_buy 188 = .ok (.getfield 210, 3) := by decide +kernel
theorem dX12_buy_191 : decode cX12_buy 191 = .ok (.ireturn, 1) := by decide +kernel
theorem dX12_isOwned_0 : decode cX12_isOwned 0 = .ok (.aload_n 0, 1) := by decide +kernel
theorem dX12_isOwned_1 : decode cX12_isOwned 1 = .ok (.aload_n 0, 1) := by decide +kernel
theorem dX12_isOwned_2 : decode cX12_isOwned 2 = .ok (.iload_n 1, 1) := by decide +kernel
theorem dX12_isOwned_3 : decode cX12_isOwned 3 = .ok (.invokevirtual 315, 3) := by decide +kernel
theorem dX12_isOwned_6 : decode cX12_isOwned 6 = .ok (.ifCond .ne 7, 3) := by decide +kernel
theorem dX12_isOwned_9 : decode cX12_isOwned 9 = .ok (.iconst 1, 1) := by decide +kernel
theorem dX12_isOwned_10 : decode cX12_isOwned 10 = .ok (.goto 15, 3) := by decide +kernel
theorem dX12_isOwned_13 : decode cX12_isOwned 13 = .ok (.aload_n 0, 1) := by decide +kernel
theorem dX12_isOwned_14 : decode cX12_isOwned 14 = .ok (.getfield 163, 3) := by decide +kernel
theorem dX12_isOwned_17 : decode cX12_isOwned 17 = .ok (.ifCond .ne 7, 3) := by decide +kernel
theorem dX12_isOwned_20 : decode cX12_isOwned 20 = .ok (.iconst 2, 1) := by decide +kernel
theorem dX12_isOwned_21 : decode cX12_isOwned 21 = .ok (.goto 4, 3) := by decide +kernel
theorem dX12_isOwned_24 : decode cX12_isOwned 24 = .ok (.iconst 0, 1) := by decide +kernel
theorem dX12_isOwned_25 : decode cX12_isOwned 25 = .ok (.invokevirtual 142, 3) := by decide +kernel
theorem dX12_isOwned_28 : decode cX12_isOwned 28 = .ok (.ifCond .ne 15, 3) := by decide +kernel
theorem dX12_isOwned_31 : decode cX12_isOwned 31 = .ok (.aload_n 0, 1) := by decide +kernel
theorem dX12_isOwned_32 : decode cX12_isOwned 32 = .ok (.iload_n 1, 1) := by decide +kernel
theorem dX12_isOwned_33 : decode cX12_isOwned 33 = .ok (.invokevirtual 324, 3) := by decide +kernel
theorem dX12_isOwned_36 : decode cX12_isOwned 36 = .ok (.ifCond .eq 7, 3) := by decide +kernel
theorem dX12_isOwned_39 : decode cX12_isOwned 39 = .ok (.iconst 1, 1) := by decide +kernel
theorem dX12_isOwned_40 : decode cX12_isOwned 40 = .ok (.goto 4, 3) := by decide +kernel
theorem dX12_isOwned_43 : decode cX12_isOwned 43 = .ok (.iconst 0, 1) := by decide +kernel
theorem dX12_isOwned_44 : decode cX12_isOwned 44 = .ok (.ireturn, 1) := by decide +kernel
theorem dX12_read_0 : decode cX12_read 0 = .ok (.aload_n 0, 1) := by decide +kernel
theorem dX12_read_1 : decode cX12_read 1 = .ok (.aload_n 0, 1) := by decide +kernel
theorem dX12_read_2 : decode cX12_read 2 = .ok (.iload_n 1, 1) := by decide +kernel
theorem dX12_read_3 : decode cX12_read 3 = .ok (.invokevirtual 315, 3) := by decide +kernel
theorem dX12_read_6 : decode cX12_read 6 = .ok (.ifCond .ne 7, 3) := by decide +kernel
theorem dX12_read_9 : decode cX12_read 9 = .ok (.iconst 1, 1) := by decide +kernel
theorem dX12_read_10 : decode cX12_read 10 = .ok (.goto 15, 3) := by decide +kernel
theorem dX12_read_13 : decode cX12_read 13 = .ok (.aload_n 0, 1) := by decide +kernel
theorem dX12_read_14 : decode cX12_read 14 = .ok (.getfield 163, 3) := by decide +kernel
theorem dX12_read_17 : decode cX12_read 17 = .ok (.ifCond .ne 7, 3) := by decide +kernel
theorem dX12_read_20 : decode cX12_read 20 = .ok (.iconst 2, 1) := by decide +kernel
theorem dX12_read_21 : decode cX12_read 21 = .ok (.goto 4, 3) := by decide +kernel
theorem dX12_read_24 : decode cX12_read 24 = .ok (.iconst 0, 1) := by decide +kernel
theorem dX12_read_25 : decode cX12_read 25 = .ok (.invokevirtual 142, 3) := by decide +kernel
theorem dX12_read_28 : decode cX12_read 28 = .ok (.ifCond .eq 5, 3) := by decide +kernel
theorem dX12_read_31 : decode cX12_read 31 = .ok (.iconst 0, 1) := by decide +kernel
theorem dX12_read_32 : decode cX12_read 32 = .ok (.ireturn, 1) := by decide +kernel
theorem dX12_read_33 : decode cX12_read 33 = .ok (.aload_n 0, 1) := by decide +kernel
theorem dX12_read_34 : decode cX12_read 34 = .ok (.iconst 2, 1) := by decide +kernel
theorem dX12_read_35 : decode cX12_read 35 = .ok (.iload_n 1, 1) := by decide +kernel
theorem dX12_read_36 : decode cX12_read 36 = .ok (.invokevirtual 281, 3) := by decide +kernel
theorem dX12_read_39 : decode cX12_read 39 = .ok (.istore_n 2, 1) := by decide +kernel
theorem dX12_read_40 : decode cX12_read 40 = .ok (.aload_n 0, 1) := by decide +kernel
theorem dX12_read_41 : decode cX12_read 41 = .ok (.iload_n 2, 1) := by decide +kernel
theorem dX12_read_42 : decode cX12_read 42 = .ok (.iconst (-1), 1) := by decide +kernel
theorem dX12_read_43 : decode cX12_read 43 = .ok (.if_icmp .ne 16, 3) := by decide +kernel
theorem dX12_read_46 : decode cX12_read 46 = .ok (.aload_n 0, 1) := by decide +kernel
theorem dX12_read_47 : decode cX12_read 47 = .ok (.getfield 207, 3) := by decide +kernel
theorem dX12_read_50 : decode cX12_read 50 = .ok (.bipush 80, 2) := by decide +kernel
theorem dX12_read_52 : decode cX12_read 52 = .ok (.if_icmp .ne 7, 3) := by decide +kernel
theorem dX12_read_55 : decode cX12_read 55 = .ok (.iconst 2, 1) := by decide +kernel
theorem dX12_read_56 : decode cX12_read 56 = .ok (.goto 16, 3) := by decide +kernel
theorem dX12_read_59 : decode cX12_read 59 = .ok (.aload_n 0, 1) := by decide +kernel
theorem dX12_read_60 : decode cX12_read 60 = .ok (.iload_n 1, 1) := by decide +kernel
theorem dX12_read_61 : decode cX12_read 61 = .ok (.invokevirtual 324, 3) := by decide +kernel
theorem dX12_read_64 : decode cX12_read 64 = .ok (.ifCond .ne 7, 3) := by decide +kernel
theorem dX12_read_67 : decode cX12_read 67 = .ok (.iconst 3, 1) := by decide +kernel
theorem dX12_read_68 : decode cX12_read 68 = .ok (.goto 4, 3) := by decide +kernel
theorem dX12_read_71 : decode cX12_read 71 = .ok (.iconst 0, 1) := by decide +kernel
theorem dX12_read_72 : decode cX12_read 72 = .ok (.invokevirtual 142, 3) := by decide +kernel
theorem dX12_read_75 : decode cX12_read 75 = .ok (.ifCond .eq 5, 3) := by decide +kernel
theorem dX12_read_78 : decode cX12_read 78 = .ok (.iconst 0, 1) := by decide +kernel
theorem dX12_read_79 : decode cX12_read 79 = .ok (.ireturn, 1) := by decide +kernel
theorem dX12_read_80 : decode cX12_read 80 = .ok (.iload_n 2, 1) := by decide +kernel
theorem dX12_read_81 : decode cX12_read 81 = .ok (.iconst (-1), 1) := by decide +kernel
theorem dX12_read_82 : decode cX12_read 82 = .ok (.if_icmp .eq 13, 3) := by decide +kernel
theorem dX12_read_85 : decode cX12_read 85 = .ok (.aload_n 0, 1) := by decide +kernel
theorem dX12_read_86 : decode cX12_read 86 = .ok (.iload_n 2, 1) := by decide +kernel
theorem dX12_read_87 : decode cX12_read 87 = .ok (.putfield 210, 3) := by decide +kernel
theorem dX12_read_90 : decode cX12_read 90 = .ok (.aload_n 0, 1) := by decide +kernel
theorem dX12_read_91 : decode cX12_read 91 = .ok (.getfield 210, 3) := by decide +kernel
theorem dX12_read_94 : decode cX12_read 94 = .ok (.ireturn, 1) := by decide +kernel
theorem dX12_read_95 : decode cX12_read 95 = .ok (.aload_n 0, 1) := by decide +kernel
theorem dX12_read_96 : decode cX12_read 96 = .ok (.aload_n 0, 1) := by decide +kernel
theorem dX12_read_97 : decode cX12_read 97 = .ok (.getfield 210, 3) := by decide +kernel
theorem dX12_read_100 : decode cX12_read 100 = .ok (.invokevirtual 271, 3) := by decide +kernel
theorem dX12_read_103 : decode cX12_read 103 = .ok (.aload_n 0, 1) := by decide +kernel
theorem dX12_read_104 : decode cX12_read 104 = .ok (.aload_n 0, 1) := by decide +kernel
theorem dX12_read_105 : decode cX12_read 105 = .ok (.getfield 109, 3) := by decide +kernel
theorem dX12_read_108 : decode cX12_read 108 = .ok (.iload_n 1, 1) := by decide +kernel
theorem dX12_read_109 : decode cX12_read 109 = .ok (.laload, 1) := by decide +kernel
theorem dX12_read_110 : decode cX12_read 110 = .ok (.putfield 193, 3) := by decide +kernel
theorem dX12_read_113 : decode cX12_read 113 = .ok (.aload_n 0, 1) := by decide +kernel
theorem dX12_read_114 : decode cX12_read 114 = .ok (.iconst 2, 1) := by decide +kernel
theorem dX12_read_115 : decode cX12_read 115 = .ok (.iload_n 1, 1) := by decide +kernel
theorem dX12_read_116 : decode cX12_read 116 = .ok (.invokevirtual 223, 3) := by decide +kernel
theorem dX12_read_119 : decode cX12_read 119 = .ok (.aload_n 0, 1) := by decide +kernel
theorem dX12_read_120 : decode cX12_read 120 = .ok (.getfield 210, 3) := by decide +kernel
theorem dX12_read_123 : decode cX12_read 123 = .ok (.ireturn, 1) := by decide +kernel
theorem dX12_coins_0 : decode cX12_coins 0 = .ok (.aload_n 0, 1) := by decide +kernel
theorem dX12_coins_1 : decode cX12_coins 1 = .ok (.iconst 0, 1) := by decide +kernel
theorem dX12_coins_2 : decode cX12_coins 2 = .ok (.putfield 128, 3) := by decide +kernel
theorem dX12_coins_5 : decode cX12_coins 5 = .ok (.aload_n 0, 1) := by decide +kernel
theorem dX12_coins_6 : decode cX12_coins 6 = .ok (.getfield 112, 3) := by decide +kernel
theorem dX12_coins_9 : decode cX12_coins 9 = .ok (.ireturn, 1) := by decide +kernel
theorem dX12_earn_0 : decode cX12_earn 0 = .ok (.aload_n 0, 1) := by decide +kernel
theorem dX12_earn_1 : decode cX12_earn 1 = .ok (.iload_n 1, 1) := by decide +kernel
theorem dX12_earn_2 : decode cX12_earn 2 = .ok (.iconst 1, 1) := by decide +kernel
theorem dX12_earn_3 : decode cX12_earn 3 = .ok (.bipush 99, 2) := by decide +kernel
theorem dX12_earn_5 : decode cX12_earn 5 = .ok (.invokestatic 135, 3) := by decide +kernel
theorem dX12_earn_8 : decode cX12_earn 8 = .ok (.ifCond .eq 7, 3) := by decide +kernel
theorem dX12_earn_11 : decode cX12_earn 11 = .ok (.iconst 0, 1) := by decide +kernel
theorem dX12_earn_12 : decode cX12_earn 12 = .ok (.goto 4, 3) := by decide +kernel
theorem dX12_earn_15 : decode cX12_earn 15 = .ok (.iconst 1, 1) := by decide +kernel
theorem dX12_earn_16 : decode cX12_earn 16 = .ok (.invokevirtual 142, 3) := by decide +kernel
theorem dX12_earn_19 : decode cX12_earn 19 = .ok (.ifCond .eq 5, 3) := by decide +kernel
theorem dX12_earn_22 : decode cX12_earn 22 = .ok (.iconst 0, 1) := by decide +kernel
theorem dX12_earn_23 : decode cX12_earn 23 = .ok (.ireturn, 1) := by decide +kernel
theorem dX12_earn_24 : decode cX12_earn 24 = .ok (.aload_n 0, 1) := by decide +kernel
theorem dX12_earn_25 : decode cX12_earn 25 = .ok (.dup, 1) := by decide +kernel
theorem dX12_earn_26 : decode cX12_earn 26 = .ok (.getfield 112, 3) := by decide +kernel
theorem dX12_earn_29 : decode cX12_earn 29 = .ok (.iload_n 1, 1) := by decide +kernel
theorem dX12_earn_30 : decode cX12_earn 30 = .ok (.iadd, 1) := by decide +kernel
theorem dX12_earn_31 : decode cX12_earn 31 = .ok (.putfield 112, 3) := by decide +kernel
theorem dX12_earn_34 : decode cX12_earn 34 = .ok (.aload_n 0, 1) := by decide +kernel
theorem dX12_earn_35 : decode cX12_earn 35 = .ok (.getfield 112, 3) := by decide +kernel
theorem dX12_earn_38 : decode cX12_earn 38 = .ok (.ireturn, 1) := by decide +kernel
theorem dX12_sales_0 : decode cX12_sales 0 = .ok (.aload_n 0, 1) := by decide +kernel
theorem dX12_sales_1 : decode cX12_sales 1 = .ok (.iconst 0, 1) := by decide +kernel
theorem dX12_sales_2 : decode cX12_sales 2 = .ok (.putfield 128, 3) := by decide +kernel
theorem dX12_sales_5 : decode cX12_sales 5 = .ok (.aload_n 0, 1) := by decide +kernel
theorem dX12_sales_6 : decode cX12_sales 6 = .ok (.getfield 312, 3) := by decide +kernel
theorem dX12_sales_9 : decode cX12_sales 9 = .ok (.ireturn, 1) := by decide +kernel
theorem dX12_sale_0 : decode cX12_sale 0 = .ok (.aload_n 0, 1) := by decide +kernel
theorem dX12_sale_1 : decode cX12_sale 1 = .ok (.iload_n 1, 1) := by decide +kernel
theorem dX12_sale_2 : decode cX12_sale 2 = .ok (.iconst 0, 1) := by decide +kernel
theorem dX12_sale_3 : decode cX12_sale 3 = .ok (.aload_n 0, 1) := by decide +kernel
theorem dX12_sale_4 : decode cX12_sale 4 = .ok (.getfield 312, 3) := by decide +kernel
theorem dX12_sale_7 : decode cX12_sale 7 = .ok (.iconst 1, 1) := by decide +kernel
theorem dX12_sale_8 : decode cX12_sale 8 = .ok (.isub, 1) := by decide +kernel
theorem dX12_sale_9 : decode cX12_sale 9 = .ok (.invokestatic 135, 3) := by decide +kernel
theorem dX12_sale_12 : decode cX12_sale 12 = .ok (.ifCond .ne 7, 3) := by decide +kernel
theorem dX12_sale_15 : decode cX12_sale 15 = .ok (.iconst 1, 1) := by decide +kernel
theorem dX12_sale_16 : decode cX12_sale 16 = .ok (.goto 26, 3) := by decide +kernel
theorem dX12_sale_19 : decode cX12_sale 19 = .ok (.iload_n 2, 1) := by decide +kernel
theorem dX12_sale_20 : decode cX12_sale 20 = .ok (.bipush 104, 2) := by decide +kernel
theorem dX12_sale_22 : decode cX12_sale 22 = .ok (.if_icmp .eq 19, 3) := by decide +kernel
theorem dX12_sale_25 : decode cX12_sale 25 = .ok (.iload_n 2, 1) := by decide +kernel
theorem dX12_sale_26 : decode cX12_sale 26 = .ok (.bipush 110, 2) := by decide +kernel
theorem dX12_sale_28 : decode cX12_sale 28 = .ok (.if_icmp .eq 13, 3) := by decide +kernel
theorem dX12_sale_31 : decode cX12_sale 31 = .ok (.iload_n 2, 1) := by decide +kernel
theorem dX12_sale_32 : decode cX12_sale 32 = .ok (.bipush 99, 2) := by decide +kernel
theorem dX12_sale_34 : decode cX12_sale 34 = .ok (.if_icmp .eq 7, 3) := by decide +kernel
theorem dX12_sale_37 : decode cX12_sale 37 = .ok (.iconst 2, 1) := by decide +kernel
theorem dX12_sale_38 : decode cX12_sale 38 = .ok (.goto 4, 3) := by decide +kernel
theorem dX12_sale_41 : decode cX12_sale 41 = .ok (.iconst 0, 1) := by decide +kernel
theorem dX12_sale_42 : decode cX12_sale 42 = .ok (.invokevirtual 142, 3) := by decide +kernel
theorem dX12_sale_45 : decode cX12_sale 45 = .ok (.ifCond .eq 5, 3) := by decide +kernel
theorem dX12_sale_48 : decode cX12_sale 48 = .ok (.iconst 0, 1) := by decide +kernel
theorem dX12_sale_49 : decode cX12_sale 49 = .ok (.ireturn, 1) := by decide +kernel
theorem dX12_sale_50 : decode cX12_sale 50 = .ok (.iload_n 2, 1) := by decide +kernel
theorem dX12_sale_51 : decode cX12_sale 51 = .ok (.bipush 104, 2) := by decide +kernel
theorem dX12_sale_53 : decode cX12_sale 53 = .ok (.if_icmp .ne 17, 3) := by decide +kernel
theorem dX12_sale_56 : decode cX12_sale 56 = .ok (.aload_n 0, 1) := by decide +kernel
theorem dX12_sale_57 : decode cX12_sale 57 = .ok (.getfield 88, 3) := by decide +kernel
theorem dX12_sale_60 : decode cX12_sale 60 = .ok (.aload_n 0, 1) := by decide +kernel
theorem dX12_sale_61 : decode cX12_sale 61 = .ok (.getfield 116, 3) := by decide +kernel
theorem dX12_sale_64 : decode cX12_sale 64 = .ok (.iload_n 1, 1) := by decide +kernel
theorem dX12_sale_65 : decode cX12_sale 65 = .ok (.iaload, 1) := by decide +kernel
theorem dX12_sale_66 : decode cX12_sale 66 = .ok (.iaload, 1) := by decide +kernel
theorem dX12_sale_67 : decode cX12_sale 67 = .ok (.goto 24, 3) := by decide +kernel
theorem dX12_sale_70 : decode cX12_sale 70 = .ok (.iload_n 2, 1) := by decide +kernel
theorem dX12_sale_71 : decode cX12_sale 71 = .ok (.bipush 110, 2) := by decide +kernel
theorem dX12_sale_73 : decode cX12_sale 73 = .ok (.if_icmp .ne 12, 3) := by decide +kernel
theorem dX12_sale_76 : decode cX12_sale 76 = .ok (.aload_n 0, 1) := by decide +kernel
theorem dX12_sale_77 : decode cX12_sale 77 = .ok (.getfield 116, 3) := by decide +kernel
theorem dX12_sale_80 : decode cX12_sale 80 = .ok (.iload_n 1, 1) := by decide +kernel
theorem dX12_sale_81 : decode cX12_sale 81 = .ok (.iaload, 1) := by decide +kernel
theorem dX12_sale_82 : decode cX12_sale 82 = .ok (.goto 9, 3) := by decide +kernel
theorem dX12_sale_85 : decode cX12_sale 85 = .ok (.aload_n 0, 1) := by decide +kernel
theorem dX12_sale_86 : decode cX12_sale 86 = .ok (.getfield 119, 3) := by decide +kernel
theorem dX12_sale_89 : decode cX12_sale 89 = .ok (.iload_n 1, 1) := by decide +kernel
theorem dX12_sale_90 : decode cX12_sale 90 = .ok (.iaload, 1) := by decide +kernel
theorem dX12_sale_91 : decode cX12_sale 91 = .ok (.ireturn, 1) := by decide +kernel
theorem dX12_merge_0 : decode cX12_merge 0 = .ok (.aload_n 0, 1) := by decide +kernel
theorem dX12_merge_1 : decode cX12_merge 1 = .ok (.aload_n 0, 1) := by decide +kernel
theorem dX12_merge_2 : decode cX12_merge 2 = .ok (.iload_n 1, 1) := by decide +kernel
theorem dX12_merge_3 : decode cX12_merge 3 = .ok (.invokevirtual 291, 3) := by decide +kernel
theorem dX12_merge_6 : decode cX12_merge 6 = .ok (.ifCond .ne 7, 3) := by decide +kernel
theorem dX12_merge_9 : decode cX12_merge 9 = .ok (.iconst 1, 1) := by decide +kernel
theorem dX12_merge_10 : decode cX12_merge 10 = .ok (.goto 15, 3) := by decide +kernel
theorem dX12_merge_13 : decode cX12_merge 13 = .ok (.aload_n 0, 1) := by decide +kernel
theorem dX12_merge_14 : decode cX12_merge 14 = .ok (.getfield 163, 3) := by decide +kernel
theorem dX12_merge_17 : decode cX12_merge 17 = .ok (.ifCond .ne 7, 3) := by decide +kernel
theorem dX12_merge_20 : decode cX12_merge 20 = .ok (.iconst 2, 1) := by decide +kernel
theorem dX12_merge_21 : decode cX12_merge 21 = .ok (.goto 4, 3) := by decide +kernel
theorem dX12_merge_24 : decode cX12_merge 24 = .ok (.iconst 0, 1) := by decide +kernel
theorem dX12_merge_25 : decode cX12_merge 25 = .ok (.invokevirtual 142, 3) := by decide +kernel
theorem dX12_merge_28 : decode cX12_merge 28 = .ok (.ifCond .eq 5, 3) := by decide +kernel
theorem dX12_merge_31 : decode cX12_merge 31 = .ok (.iconst 0, 1) := by decide +kernel
theorem dX12_merge_32 : decode cX12_merge 32 = .ok (.ireturn, 1) := by decide +kernel
theorem dX12_merge_33 : decode cX12_merge 33 = .ok (.aload_n 0, 1) := by decide +kernel
theorem dX12_merge_34 : decode cX12_merge 34 = .ok (.aload_n 0, 1) := by decide +kernel
theorem dX12_merge_35 : decode cX12_merge 35 = .ok (.getfield 210, 3) := by decide +kernel
theorem dX12_merge_38 : decode cX12_merge 38 = .ok (.invokevirtual 271, 3) := by decide +kernel
theorem dX12_merge_41 : decode cX12_merge 41 = .ok (.iconst 0, 1) := by decide +kernel
theorem dX12_merge_42 : decode cX12_merge 42 = .ok (.istore_n 2, 1) := by decide +kernel
theorem dX12_merge_43 : decode cX12_merge 43 = .ok (.aload_n 0, 1) := by decide +kernel
theorem dX12_merge_44 : decode cX12_merge 44 = .ok (.invokevirtual 200, 3) := by decide +kernel
theorem dX12_merge_47 : decode cX12_merge 47 = .ok (.istore_n 3, 1) := by decide +kernel
theorem dX12_merge_48 : decode cX12_merge 48 = .ok (.iconst 0, 1) := by decide +kernel
theorem dX12_merge_49 : decode cX12_merge 49 = .ok (.istore 4, 2) := by decide +kernel
theorem dX12_merge_51 : decode cX12_merge 51 = .ok (.iload 4, 2) := by decide +kernel
theorem dX12_merge_53 : decode cX12_merge 53 = .ok (.aload_n 0, 1) := by decide +kernel
theorem dX12_merge_54 : decode cX12_merge 54 = .ok (.getfield 160, 3) := by decide +kernel
theorem dX12_merge_57 : decode cX12_merge 57 = .ok (.if_icmp .ge 70, 3) := by decide +kernel
theorem dX12_merge_60 : decode cX12_merge 60 = .ok (.iload_n 3, 1) := by decide +kernel
theorem dX12_merge_61 : decode cX12_merge 61 = .ok (.ifCond .eq 60, 3) := by decide +kernel
theorem dX12_merge_64 : decode cX12_merge 64 = .ok (.aload_n 0, 1) := by decide +kernel
theorem dX12_merge_65 : decode cX12_merge 65 = .ok (.getfield 58, 3) := by decide +kernel
theorem dX12_merge_68 : decode cX12_merge 68 = .ok (.bipush 12, 2) := by decide +kernel
theorem dX12_merge_70 : decode cX12_merge 70 = .ok (.iload_n 1, 1) := by decide +kernel
theorem dX12_merge_71 : decode cX12_merge 71 = .ok (.imul, 1) := by decide +kernel
theorem dX12_merge_72 : decode cX12_merge 72 = .ok (.iload 4, 2) := by decide +kernel
theorem dX12_merge_74 : decode cX12_merge 74 = .ok (.iadd, 1) := by decide +kernel
theorem dX12_merge_75 : decode cX12_merge 75 = .ok (.iaload, 1) := by decide +kernel
theorem dX12_merge_76 : decode cX12_merge 76 = .ok (.bipush 100, 2) := by decide +kernel
theorem dX12_merge_78 : decode cX12_merge 78 = .ok (.if_icmp .ne 43, 3) := by decide +kernel
theorem dX12_merge_81 : decode cX12_merge 81 = .ok (.aload_n 0, 1) := by decide +kernel
theorem dX12_merge_82 : decode cX12_merge 82 = .ok (.getfield 91, 3) := by decide +kernel
theorem dX12_merge_85 : decode cX12_merge 85 = .ok (.iload 4, 2) := by decide +kernel
theorem dX12_merge_87 : decode cX12_merge 87 = .ok (.iaload, 1) := by decide +kernel
theorem dX12_merge_88 : decode cX12_merge 88 = .ok (.aload_n 0, 1) := by decide +kernel
theorem dX12_merge_89 : decode cX12_merge 89 = .ok (.getfield 190, 3) := by decide +kernel
theorem dX12_merge_92 : decode cX12_merge 92 = .ok (.if_icmp .ne 29, 3) := by decide +kernel
theorem dX12_merge_95 : decode cX12_merge 95 = .ok (.aload_n 0, 1) := by decide +kernel
theorem dX12_merge_96 : decode cX12_merge 96 = .ok (.iload 4, 2) := by decide +kernel
theorem dX12_merge_98 : decode cX12_merge 98 = .ok (.invokevirtual 262, 3) := by decide +kernel
theorem dX12_merge_101 : decode cX12_merge 101 = .ok (.bipush 12, 2) := by decide +kernel
theorem dX12_merge_103 : decode cX12_merge 103 = .ok (.if_icmp .le 6, 3) := by decide +kernel
theorem dX12_merge_106 : decode cX12_merge 106 = .ok (.goto 15, 3) := by decide +kernel
theorem dX12_merge_109 : decode cX12_merge 109 = .ok (.aload_n 0, 1) := by decide +kernel
theorem dX12_merge_110 : decode cX12_merge 110 = .ok (.getfield 91, 3) := by decide +kernel
theorem dX12_merge_113 : decode cX12_merge 113 = .ok (.iload 4, 2) := by decide +kernel
theorem dX12_merge_115 : decode cX12_merge 115 = .ok (.bipush 100, 2) := by decide +kernel
theorem dX12_merge_117 : decode cX12_merge 117 = .ok (.iastore, 1) := by decide +kernel
theorem dX12_merge_118 : decode cX12_merge 118 = .ok (.iinc 2 1, 3) := by decide +kernel
theorem dX12_merge_121 : decode cX12_merge 121 = .ok (.iinc 4 1, 3) := by decide +kernel
theorem dX12_merge_124 : decode cX12_merge 124 = .ok (.goto (-73), 3) := by decide +kernel
theorem dX12_merge_127 : decode cX12_merge 127 = .ok (.aload_n 0, 1) := by decide +kernel
theorem dX12_merge_128 : decode cX12_merge 128 = .ok (.iconst 3, 1) := by decide +kernel
theorem dX12_merge_129 : decode cX12_merge 129 = .ok (.iload_n 1, 1) := by decide +kernel
theorem dX12_merge_130 : decode cX12_merge 130 = .ok (.invokevirtual 281, 3) := by decide +kernel
theorem dX12_merge_133 : decode cX12_merge 133 = .ok (.istore 4, 2) := by decide +kernel
theorem dX12_merge_135 : decode cX12_merge 135 = .ok (.aload_n 0, 1) := by decide +kernel
theorem dX12_merge_136 : decode cX12_merge 136 = .ok (.iload_n 2, 1) := by decide +kernel
theorem dX12_merge_137 : decode cX12_merge 137 = .ok (.ifCond .le 22, 3) := by decide +kernel
theorem dX12_merge_140 : decode cX12_merge 140 = .ok (.iload 4, 2) := by decide +kernel
theorem dX12_merge_142 : decode cX12_merge 142 = .ok (.iconst (-1), 1) := by decide +kernel
theorem dX12_merge_143 : decode cX12_merge 143 = .ok (.if_icmp .ne 16, 3) := by decide +kernel
theorem dX12_merge_146 : decode cX12_merge 146 = .ok (.aload_n 0, 1) := by decide +kernel
theorem dX12_merge_147 : decode cX12_merge 147 = .ok (.getfield 207, 3) := by decide +kernel
theorem dX12_merge_150 : decode cX12_merge 150 = .ok (.bipush 80, 2) := by decide +kernel
theorem dX12_merge_152 : decode cX12_merge 152 = .ok (.if_icmp .ne 7, 3) := by decide +kernel
theorem dX12_merge_155 : decode cX12_merge 155 = .ok (.iconst 2, 1) := by decide +kernel
theorem dX12_merge_156 : decode cX12_merge 156 = .ok (.goto 12, 3) := by decide +kernel
theorem dX12_merge_159 : decode cX12_merge 159 = .ok (.iload_n 2, 1) := by decide +kernel
theorem dX12_merge_160 : decode cX12_merge 160 = .ok (.ifCond .ne 7, 3) := by decide +kernel
theorem dX12_merge_163 : decode cX12_merge 163 = .ok (.iconst 3, 1) := by decide +kernel
theorem dX12_merge_164 : decode cX12_merge 164 = .ok (.goto 4, 3) := by decide +kernel
theorem dX12_merge_167 : decode cX12_merge 167 = .ok (.iconst 0, 1) := by decide +kernel
theorem dX12_merge_168 : decode cX12_merge 168 = .ok (.invokevirtual 142, 3) := by decide +kernel
theorem dX12_merge_171 : decode cX12_merge 171 = .ok (.ifCond .eq 5, 3) := by decide +kernel
theorem dX12_merge_174 : decode cX12_merge 174 = .ok (.iconst 0, 1) := by decide +kernel
theorem dX12_merge_175 : decode cX12_merge 175 = .ok (.ireturn, 1) := by decide +kernel
theorem dX12_merge_176 : decode cX12_merge 176 = .ok (.iload 4, 2) := by decide +kernel
theorem dX12_merge_178 : decode cX12_merge 178 = .ok (.iconst (-1), 1) := by decide +kernel
theorem dX12_merge_179 : decode cX12_merge 179 = .ok (.if_icmp .ne 12, 3) := by decide +kernel
theorem dX12_merge_182 : decode cX12_merge 182 = .ok (.aload_n 0, 1) := by decide +kernel
theorem dX12_merge_183 : decode cX12_merge 183 = .ok (.iconst 3, 1) := by decide +kernel
theorem dX12_merge_184 : decode cX12_merge 184 = .ok (.iload_n 1, 1) := by decide +kernel
theorem dX12_merge_185 : decode cX12_merge 185 = .ok (.invokevirtual 223, 3) := by decide +kernel
theorem dX12_merge_188 : decode cX12_merge 188 = .ok (.goto 9, 3) := by decide +kernel
theorem dX12_merge_191 : decode cX12_merge 191 = .ok (.aload_n 0, 1) := by decide +kernel
theorem dX12_merge_192 : decode cX12_merge 192 = .ok (.iload 4, 2) := by decide +kernel
theorem dX12_merge_194 : decode cX12_merge 194 = .ok (.putfield 210, 3) := by decide +kernel
theorem dX12_merge_197 : decode cX12_merge 197 = .ok (.iload_n 2, 1) := by decide +kernel
theorem dX12_merge_198 : decode cX12_merge 198 = .ok (.ireturn, 1) := by decide +kernel
theorem dX12_score_0 : decode cX12_score 0 = .ok (.aload_n 0, 1) := by decide +kernel
theorem dX12_score_1 : decode cX12_score 1 = .ok (.invokevirtual 284, 3) := by decide +kernel
theorem dX12_score_4 : decode cX12_score 4 = .ok (.ifCond .eq 5, 3) := by decide +kernel
theorem dX12_score_7 : decode cX12_score 7 = .ok (.iconst 0, 1) := by decide +kernel
theorem dX12_score_8 : decode cX12_score 8 = .ok (.ireturn, 1) := by decide +kernel
theorem dX12_score_9 : decode cX12_score 9 = .ok (.iconst 0, 1) := by decide +kernel
theorem dX12_score_10 : decode cX12_score 10 = .ok (.istore_n 1, 1) := by decide +kernel
theorem dX12_score_11 : decode cX12_score 11 = .ok (.iconst 0, 1) := by decide +kernel
theorem dX12_score_12 : decode cX12_score 12 = .ok (.istore_n 2, 1) := by decide +kernel
theorem dX12_score_13 : decode cX12_score 13 = .ok (.iload_n 2, 1) := by decide +kernel
theorem dX12_score_14 : decode cX12_score 14 = .ok (.aload_n 0, 1) := by decide +kernel
theorem dX12_score_15 : decode cX12_score 15 = .ok (.getfield 187, 3) := by decide +kernel
theorem dX12_score_18 : decode cX12_score 18 = .ok (.if_icmp .ge 45, 3) := by decide +kernel
theorem dX12_score_21 : decode cX12_score 21 = .ok (.iload_n 1, 1) := by decide +kernel
theorem dX12_score_22 : decode cX12_score 22 = .ok (.aload_n 0, 1) := by decide +kernel
theorem dX12_score_23 : decode cX12_score 23 = .ok (.getfield 58, 3) := by decide +kernel
theorem dX12_score_26 : decode cX12_score 26 = .ok (.bipush 12, 2) := by decide +kernel
theorem dX12_score_28 : decode cX12_score 28 = .ok (.aload_n 0, 1) := by decide +kernel
theorem dX12_score_29 : decode cX12_score 29 = .ok (.getfield 210, 3) := by decide +kernel
theorem dX12_score_32 : decode cX12_score 32 = .ok (.imul, 1) := by decide +kernel
theorem dX12_score_33 : decode cX12_score 33 = .ok (.aload_n 0, 1) := by decide +kernel
theorem dX12_score_34 : decode cX12_score 34 = .ok (.getfield 49, 3) := by decide +kernel
theorem dX12_score_37 : decode cX12_score 37 = .ok (.iload_n 2, 1) := by decide +kernel
theorem dX12_score_38 : decode cX12_score 38 = .ok (.iaload, 1) := by decide +kernel
theorem dX12_score_39 : decode cX12_score 39 = .ok (.iadd, 1) := by decide +kernel
theorem dX12_score_40 : decode cX12_score 40 = .ok (.iaload, 1) := by decide +kernel
theorem dX12_score_41 : decode cX12_score 41 = .ok (.aload_n 0, 1) := by decide +kernel
theorem dX12_score_42 : decode cX12_score 42 = .ok (.getfield 52, 3) := by decide +kernel
theorem dX12_score_45 : decode cX12_score 45 = .ok (.iload_n 2, 1) := by decide +kernel
theorem dX12_score_46 : decode cX12_score 46 = .ok (.iaload, 1) := by decide +kernel
theorem dX12_score_47 : decode cX12_score 47 = .ok (.if_icmp .ne 7, 3) := by decide +kernel
theorem dX12_score_50 : decode cX12_score 50 = .ok (.iconst 1, 1) := by decide +kernel
theorem dX12_score_51 : decode cX12_score 51 = .ok (.goto 4, 3) := by decide +kernel
theorem dX12_score_54 : decode cX12_score 54 = .ok (.iconst 0, 1) := by decide +kernel
theorem dX12_score_55 : decode cX12_score 55 = .ok (.iadd, 1) := by decide +kernel
theorem dX12_score_56 : decode cX12_score 56 = .ok (.istore_n 1, 1) := by decide +kernel
theorem dX12_score_57 : decode cX12_score 57 = .ok (.iinc 2 1, 3) := by decide +kernel
theorem dX12_score_60 : decode cX12_score 60 = .ok (.goto (-47), 3) := by decide +kernel
theorem dX12_score_63 : decode cX12_score 63 = .ok (.iload_n 1, 1) := by decide +kernel
theorem dX12_score_64 : decode cX12_score 64 = .ok (.ireturn, 1) := by decide +kernel
theorem dX12_steps_0 : decode cX12_steps 0 = .ok (.aload_n 0, 1) := by decide +kernel
theorem dX12_steps_1 : decode cX12_steps 1 = .ok (.aload_n 0, 1) := by decide +kernel
theorem dX12_steps_2 : decode cX12_steps 2 = .ok (.iload_n 1, 1) := by decide +kernel
theorem dX12_steps_3 : decode cX12_steps 3 = .ok (.invokevirtual 167, 3) := by decide +kernel
theorem dX12_steps_6 : decode cX12_steps 6 = .ok (.ifCond .ne 7, 3) := by decide +kernel
theorem dX12_steps_9 : decode cX12_steps 9 = .ok (.iconst 1, 1) := by decide +kernel
theorem dX12_steps_10 : decode cX12_steps 10 = .ok (.goto 15, 3) := by decide +kernel
theorem dX12_steps_13 : decode cX12_steps 13 = .ok (.aload_n 0, 1) := by decide +kernel
theorem dX12_steps_14 : decode cX12_steps 14 = .ok (.getfield 163, 3) := by decide +kernel
theorem dX12_steps_17 : decode cX12_steps 17 = .ok (.ifCond .ne 7, 3) := by decide +kernel
theorem dX12_steps_20 : decode cX12_steps 20 = .ok (.iconst 2, 1) := by decide +kernel
theorem dX12_steps_21 : decode cX12_steps 21 = .ok (.goto 4, 3) := by decide +kernel
theorem dX12_steps_24 : decode cX12_steps 24 = .ok (.iconst 0, 1) := by decide +kernel
theorem dX12_steps_25 : decode cX12_steps 25 = .ok (.invokevirtual 142, 3) := by decide +kernel
theorem dX12_steps_28 : decode cX12_steps 28 = .ok (.ifCond .eq 5, 3) := by decide +kernel
theorem dX12_steps_31 : decode cX12_steps 31 = .ok (.iconst 0, 1) := by decide +kernel
theorem dX12_steps_32 : decode cX12_steps 32 = .ok (.ireturn, 1) := by decide +kernel
theorem dX12_steps_33 : decode cX12_steps 33 = .ok (.aload_n 0, 1) := by decide +kernel
theorem dX12_steps_34 : decode cX12_steps 34 = .ok (.aload_n 0, 1) := by decide +kernel
theorem dX12_steps_35 : decode cX12_steps 35 = .ok (.getfield 210, 3) := by decide +kernel
theorem dX12_steps_38 : decode cX12_steps 38 = .ok (.invokevirtual 271, 3) := by decide +kernel
theorem dX12_steps_41 : decode cX12_steps 41 = .ok (.iconst 0, 1) := by decide +kernel
theorem dX12_steps_42 : decode cX12_steps 42 = .ok (.istore_n 2, 1) := by decide +kernel
theorem dX12_steps_43 : decode cX12_steps 43 = .ok (.iload_n 2, 1) := by decide +kernel
theorem dX12_steps_44 : decode cX12_steps 44 = .ok (.aload_n 0, 1) := by decide +kernel
theorem dX12_steps_45 : decode cX12_steps 45 = .ok (.getfield 157, 3) := by decide +kernel
theorem dX12_steps_48 : decode cX12_steps 48 = .ok (.if_icmp .ge 28, 3) := by decide +kernel
theorem dX12_steps_51 : decode cX12_steps 51 = .ok (.aload_n 0, 1) := by decide +kernel
theorem dX12_steps_52 : decode cX12_steps 52 = .ok (.getfield 122, 3) := by decide +kernel
theorem dX12_steps_55 : decode cX12_steps 55 = .ok (.iload_n 2, 1) := by decide +kernel
theorem dX12_steps_56 : decode cX12_steps 56 = .ok (.iload_n 2, 1) := by decide +kernel
theorem dX12_steps_57 : decode cX12_steps 57 = .ok (.aload_n 0, 1) := by decide +kernel
theorem dX12_steps_58 : decode cX12_steps 58 = .ok (.getfield 190, 3) := by decide +kernel
theorem dX12_steps_61 : decode cX12_steps 61 = .ok (.if_icmp .ne 7, 3) := by decide +kernel
theorem dX12_steps_64 : decode cX12_steps 64 = .ok (.iconst 0, 1) := by decide +kernel
theorem dX12_steps_65 : decode cX12_steps 65 = .ok (.goto 4, 3) := by decide +kernel
theorem dX12_steps_68 : decode cX12_steps 68 = .ok (.iconst (-1), 1) := by decide +kernel
theorem dX12_steps_69 : decode cX12_steps 69 = .ok (.iastore, 1) := by decide +kernel
theorem dX12_steps_70 : decode cX12_steps 70 = .ok (.iinc 2 1, 3) := by decide +kernel
theorem dX12_steps_73 : decode cX12_steps 73 = .ok (.goto (-30), 3) := by decide +kernel
theorem dX12_steps_76 : decode cX12_steps 76 = .ok (.iconst 0, 1) := by decide +kernel
theorem dX12_steps_77 : decode cX12_steps 77 = .ok (.istore_n 2, 1) := by decide +kernel
theorem dX12_steps_78 : decode cX12_steps 78 = .ok (.iload_n 2, 1) := by decide +kernel
theorem dX12_steps_79 : decode cX12_steps 79 = .ok (.aload_n 0, 1) := by decide +kernel
theorem dX12_steps_80 : decode cX12_steps 80 = .ok (.getfield 157, 3) := by decide +kernel
theorem dX12_steps_83 : decode cX12_steps 83 = .ok (.if_icmp .ge 96, 3) := by decide +kernel
theorem dX12_steps_86 : decode cX12_steps 86 = .ok (.iconst 0, 1) := by decide +kernel
theorem dX12_steps_87 : decode cX12_steps 87 = .ok (.istore_n 3, 1) := by decide +kernel
theorem dX12_steps_88 : decode cX12_steps 88 = .ok (.iload_n 3, 1) := by decide +kernel
theorem dX12_steps_89 : decode cX12_steps 89 = .ok (.aload_n 0, 1) := by decide +kernel
theorem dX12_steps_90 : decode cX12_steps 90 = .ok (.getfield 157, 3) := by decide +kernel
theorem dX12_steps_93 : decode cX12_steps 93 = .ok (.if_icmp .ge 80, 3) := by decide +kernel
theorem dX12_steps_96 : decode cX12_steps 96 = .ok (.iconst 0, 1) := by decide +kernel
theorem dX12_steps_97 : decode cX12_steps 97 = .ok (.istore 4, 2) := by decide +kernel
theorem dX12_steps_99 : decode cX12_steps 99 = .ok (.iload 4, 2) := by decide +kernel
theorem dX12_steps_101 : decode cX12_steps 101 = .ok (.bipush 6, 2) := by decide +kernel
theorem dX12_steps_103 : decode cX12_steps 103 = .ok (.if_icmp .ge 64, 3) := by decide +kernel
theorem dX12_steps_106 : decode cX12_steps 106 = .ok (.aload_n 0, 1) := by decide +kernel
theorem dX12_steps_107 : decode cX12_steps 107 = .ok (.getfield 122, 3) := by decide +kernel
theorem dX12_steps_110 : decode cX12_steps 110 = .ok (.iload_n 3, 1) := by decide +kernel
theorem dX12_steps_111 : decode cX12_steps 111 = .ok (.iaload, 1) := by decide +kernel
theorem dX12_steps_112 : decode cX12_steps 112 = .ok (.iload_n 2, 1) := by decide +kernel
theorem dX12_steps_113 : decode cX12_steps 113 = .ok (.if_icmp .ne 54, 3) := by decide +kernel
theorem dX12_steps_116 : decode cX12_steps 116 = .ok (.aload_n 0, 1) := by decide +kernel
theorem dX12_steps_117 : decode cX12_steps 117 = .ok (.getfield 24, 3) := by decide +kernel
theorem dX12_steps_120 : decode cX12_steps 120 = .ok (.bipush 6, 2) := by decide +kernel
theorem dX12_steps_122 : decode cX12_steps 122 = .ok (.iload_n 3, 1) := by decide +kernel
theorem dX12_steps_123 : decode cX12_steps 123 = .ok (.imul, 1) := by decide +kernel
theorem dX12_steps_124 : decode cX12_steps 124 = .ok (.iload 4, 2) := by decide +kernel
theorem dX12_steps_126 : decode cX12_steps 126 = .ok (.iadd, 1) := by decide +kernel
theorem dX12_steps_127 : decode cX12_steps 127 = .ok (.iaload, 1) := by decide +kernel
theorem dX12_steps_128 : decode cX12_steps 128 = .ok (.istore 5, 2) := by decide +kernel
theorem dX12_steps_130 : decode cX12_steps 130 = .ok (.aload_n 0, 1) := by decide +kernel
theorem dX12_steps_131 : decode cX12_steps 131 = .ok (.iload_n 3, 1) := by decide +kernel
theorem dX12_steps_132 : decode cX12_steps 132 = .ok (.iload 4, 2) := by decide +kernel
theorem dX12_steps_134 : decode cX12_steps 134 = .ok (.invokevirtual 256, 3) := by decide +kernel
theorem dX12_steps_137 : decode cX12_steps 137 = .ok (.ifCond .eq 24, 3) := by decide +kernel
theorem dX12_steps_140 : decode cX12_steps 140 = .ok (.aload_n 0, 1) := by decide +kernel
theorem dX12_steps_141 : decode cX12_steps 141 = .ok (.getfield 122, 3) := by decide +kernel
theorem dX12_steps_144 : decode cX12_steps 144 = .ok (.iload 5, 2) := by decide +kernel
theorem dX12_steps_146 : decode cX12_steps 146 = .ok (.iaload, 1) := by decide +kernel
theorem dX12_steps_147 : decode cX12_steps 147 = .ok (.iconst (-1), 1) := by decide +kernel
theorem dX12_steps_148 : decode cX12_steps 148 = .ok (.if_icmp .ne 13, 3) := by decide +kernel
theorem dX12_steps_151 : decode cX12_steps 151 = .ok (.aload_n 0, 1) := by decide +kernel
theorem dX12_steps_152 : decode cX12_steps 152 = .ok (.getfield 122, 3) := by decide +kernel
theorem dX12_steps_155 : decode cX12_steps 155 = .ok (.iload 5, 2) := by decide +kernel
theorem dX12_steps_157 : decode cX12_steps 157 = .ok (.iload_n 2, 1) := by decide +kernel
theorem dX12_steps_158 : decode cX12_steps 158 = .ok (.iconst 1, 1) := by decide +kernel
theorem dX12_steps_159 : decode cX12_steps 159 = .ok (.iadd, 1) := by decide +kernel
theorem dX12_steps_160 : decode cX12_steps 160 = .ok (.iastore, 1) := by decide +kernel
theorem dX12_steps_161 : decode cX12_steps 161 = .ok (.iinc 4 1, 3) := by decide +kernel
theorem dX12_steps_164 : decode cX12_steps 164 = .ok (.goto (-65), 3) := by decide +kernel
theorem dX12_steps_167 : decode cX12_steps 167 = .ok (.iinc 3 1, 3) := by decide +kernel
theorem dX12_steps_170 : decode cX12_steps 170 = .ok (.goto (-82), 3) := by decide +kernel
theorem dX12_steps_173 : decode cX12_steps 173 = .ok (.iinc 2 1, 3) := by decide +kernel
theorem dX12_steps_176 : decode cX12_steps 176 = .ok (.goto (-98), 3) := by decide +kernel
theorem dX12_steps_179 : decode cX12_steps 179 = .ok (.aload_n 0, 1) := by decide +kernel
theorem dX12_steps_180 : decode cX12_steps 180 = .ok (.aload_n 0, 1) := by decide +kernel
theorem dX12_steps_181 : decode cX12_steps 181 = .ok (.getfield 122, 3) := by decide +kernel
theorem dX12_steps_184 : decode cX12_steps 184 = .ok (.iload_n 1, 1) := by decide +kernel
theorem dX12_steps_185 : decode cX12_steps 185 = .ok (.iaload, 1) := by decide +kernel
theorem dX12_steps_186 : decode cX12_steps 186 = .ok (.iconst (-1), 1) := by decide +kernel
theorem dX12_steps_187 : decode cX12_steps 187 = .ok (.if_icmp .ne 7, 3) := by decide +kernel
theorem dX12_steps_190 : decode cX12_steps 190 = .ok (.iconst 3, 1) := by decide +kernel
theorem dX12_steps_191 : decode cX12_steps 191 = .ok (.goto 4, 3) := by decide +kernel
theorem dX12_steps_194 : decode cX12_steps 194 = .ok (.iconst 0, 1) := by decide +kernel
theorem dX12_steps_195 : decode cX12_steps 195 = .ok (.invokevirtual 142, 3) := by decide +kernel
theorem dX12_steps_198 : decode cX12_steps 198 = .ok (.ifCond .eq 7, 3) := by decide +kernel
theorem dX12_steps_201 : decode cX12_steps 201 = .ok (.iconst 0, 1) := by decide +kernel
theorem dX12_steps_202 : decode cX12_steps 202 = .ok (.goto 9, 3) := by decide +kernel
theorem dX12_steps_205 : decode cX12_steps 205 = .ok (.aload_n 0, 1) := by decide +kernel
theorem dX12_steps_206 : decode cX12_steps 206 = .ok (.getfield 122, 3) := by decide +kernel
theorem dX12_steps_209 : decode cX12_steps 209 = .ok (.iload_n 1, 1) := by decide +kernel
theorem dX12_steps_210 : decode cX12_steps 210 = .ok (.iaload, 1) := by decide +kernel
theorem dX12_steps_211 : decode cX12_steps 211 = .ok (.ireturn, 1) := by decide +kernel
theorem dX12_adds_0 : decode cX12_adds 0 = .ok (.aload_n 0, 1) := by decide +kernel
theorem dX12_adds_1 : decode cX12_adds 1 = .ok (.getfield 125, 3) := by decide +kernel
theorem dX12_adds_4 : decode cX12_adds 4 = .ok (.aload_n 0, 1) := by decide +kernel
theorem dX12_adds_5 : decode cX12_adds 5 = .ok (.getfield 330, 3) := by decide +kernel
theorem dX12_adds_8 : decode cX12_adds 8 = .ok (.iload_n 1, 1) := by decide +kernel
theorem dX12_adds_9 : decode cX12_adds 9 = .ok (.iastore, 1) := by decide +kernel
theorem dX12_adds_10 : decode cX12_adds 10 = .ok (.aload_n 0, 1) := by decide +kernel
theorem dX12_adds_11 : decode cX12_adds 11 = .ok (.dup, 1) := by decide +kernel
theorem dX12_adds_12 : decode cX12_adds 12 = .ok (.getfield 330, 3) := by decide +kernel
theorem dX12_adds_15 : decode cX12_adds 15 = .ok (.iconst 1, 1) := by decide +kernel
theorem dX12_adds_16 : decode cX12_adds 16 = .ok (.iadd, 1) := by decide +kernel
theorem dX12_adds_17 : decode cX12_adds 17 = .ok (.putfield 330, 3) := by decide +kernel
theorem dX12_adds_20 : decode cX12_adds 20 = .ok (.return_, 1) := by decide +kernel
theorem dX12_addsAll_0 : decode cX12_addsAll 0 = .ok (.aload_n 0, 1) := by decide +kernel
theorem dX12_addsAll_1 : decode cX12_addsAll 1 = .ok (.iload_n 1, 1) := by decide +kernel
theorem dX12_addsAll_2 : decode cX12_addsAll 2 = .ok (.invokevirtual 333, 3) := by decide +kernel
theorem dX12_addsAll_5 : decode cX12_addsAll 5 = .ok (.aload_n 0, 1) := by decide +kernel
theorem dX12_addsAll_6 : decode cX12_addsAll 6 = .ok (.iload_n 2, 1) := by decide +kernel
theorem dX12_addsAll_7 : decode cX12_addsAll 7 = .ok (.invokevirtual 333, 3) := by decide +kernel
theorem dX12_addsAll_10 : decode cX12_addsAll 10 = .ok (.aload_n 0, 1) := by decide +kernel
theorem dX12_addsAll_11 : decode cX12_addsAll 11 = .ok (.iload_n 3, 1) := by decide +kernel
theorem dX12_addsAll_12 : decode cX12_addsAll 12 = .ok (.invokevirtual 333, 3) := by decide +kernel
theorem dX12_addsAll_15 : decode cX12_addsAll 15 = .ok (.iload 4, 2) := by decide +kernel
theorem dX12_addsAll_17 : decode cX12_addsAll 17 = .ok (.ifCond .le 9, 3) := by decide +kernel
theorem dX12_addsAll_20 : decode cX12_addsAll 20 = .ok (.aload_n 0, 1) := by decide +kernel
theorem dX12_addsAll_21 : decode cX12_addsAll 21 = .ok (.iload 4, 2) := by decide +kernel
theorem dX12_addsAll_23 : decode cX12_addsAll 23 = .ok (.invokevirtual 333, 3) := by decide +kernel
theorem dX12_addsAll_26 : decode cX12_addsAll 26 = .ok (.iload 5, 2) := by decide +kernel
theorem dX12_addsAll_28 : decode cX12_addsAll 28 = .ok (.ifCond .le 9, 3) := by decide +kernel
theorem dX12_addsAll_31 : decode cX12_addsAll 31 = .ok (.aload_n 0, 1) := by decide +kernel
theorem dX12_addsAll_32 : decode cX12_addsAll 32 = .ok (.iload 5, 2) := by decide +kernel
theorem dX12_addsAll_34 : decode cX12_addsAll 34 = .ok (.invokevirtual 333, 3) := by decide +kernel
theorem dX12_addsAll_37 : decode cX12_addsAll 37 = .ok (.return_, 1) := by decide +kernel
theorem dX12_lines_0 : decode cX12_lines 0 = .ok (.aload_n 0, 1) := by decide +kernel
theorem dX12_lines_1 : decode cX12_lines 1 = .ok (.iconst 0, 1) := by decide +kernel
theorem dX12_lines_2 : decode cX12_lines 2 = .ok (.putfield 330, 3) := by decide +kernel
theorem dX12_lines_5 : decode cX12_lines 5 = .ok (.aload_n 0, 1) := by decide +kernel
theorem dX12_lines_6 : decode cX12_lines 6 = .ok (.getfield 76, 3) := by decide +kernel
theorem dX12_lines_9 : decode cX12_lines 9 = .ok (.aload_n 0, 1) := by decide +kernel
theorem dX12_lines_10 : decode cX12_lines 10 = .ok (.getfield 210, 3) := by decide +kernel
theorem dX12_lines_13 : decode cX12_lines 13 = .ok (.iaload, 1) := by decide +kernel
theorem dX12_lines_14 : decode cX12_lines 14 = .ok (.istore_n 1, 1) := by decide +kernel
theorem dX12_lines_15 : decode cX12_lines 15 = .ok (.aload_n 0, 1) := by decide +kernel
theorem dX12_lines_16 : decode cX12_lines 16 = .ok (.getfield 210, 3) := by decide +kernel
theorem dX12_lines_19 : decode cX12_lines 19 = .ok (.ifCond .ne 20, 3) := by decide +kernel
theorem dX12_lines_22 : decode cX12_lines 22 = .ok (.aload_n 0, 1) := by decide +kernel
theorem dX12_lines_23 : decode cX12_lines 23 = .ok (.bipush 115, 2) := by decide +kernel
theorem dX12_lines_25 : decode cX12_lines 25 = .ok (.bipush 116, 2) := by decide +kernel
theorem dX12_lines_27 : decode cX12_lines 27 = .ok (.bipush 97, 2) := by decide +kernel
theorem dX12_lines_29 : decode cX12_lines 29 = .ok (.bipush 114, 2) := by decide +kernel
theorem dX12_lines_31 : decode cX12_lines 31 = .ok (.bipush 116, 2) := by decide +kernel
theorem dX12_lines_33 : decode cX12_lines 33 = .ok (.invokevirtual 336, 3) := by decide +kernel
theorem dX12_lines_36 : decode cX12_lines 36 = .ok (.goto 161, 3) := by decide +kernel
theorem dX12_lines_39 : decode cX12_lines 39 = .ok (.iload_n 1, 1) := by decide +kernel
theorem dX12_lines_40 : decode cX12_lines 40 = .ok (.ifCond .ne 45, 3) := by decide +kernel
theorem dX12_lines_43 : decode cX12_lines 43 = .ok (.iconst 0, 1) := by decide +kernel
theorem dX12_lines_44 : decode cX12_lines 44 = .ok (.istore_n 2, 1) := by decide +kernel
theorem dX12_lines_45 : decode cX12_lines 45 = .ok (.iload_n 2, 1) := by decide +kernel
theorem dX12_lines_46 : decode cX12_lines 46 = .ok (.aload_n 0, 1) := by decide +kernel
theorem dX12_lines_47 : decode cX12_lines 47 = .ok (.getfield 73, 3) := by decide +kernel
theorem dX12_lines_50 : decode cX12_lines 50 = .ok (.aload_n 0, 1) := by decide +kernel
theorem dX12_lines_51 : decode cX12_lines 51 = .ok (.getfield 210, 3) := by decide +kernel
theorem dX12_lines_54 : decode cX12_lines 54 = .ok (.iaload, 1) := by decide +kernel
theorem dX12_lines_55 : decode cX12_lines 55 = .ok (.if_icmp .ge 27, 3) := by decide +kernel
theorem dX12_lines_58 : decode cX12_lines 58 = .ok (.aload_n 0, 1) := by decide +kernel
theorem dX12_lines_59 : decode cX12_lines 59 = .ok (.aload_n 0, 1) := by decide +kernel
theorem dX12_lines_60 : decode cX12_lines 60 = .ok (.getfield 70, 3) := by decide +kernel
theorem dX12_lines_63 : decode cX12_lines 63 = .ok (.bipush 30, 2) := by decide +kernel
theorem dX12_lines_65 : decode cX12_lines 65 = .ok (.aload_n 0, 1) := by decide +kernel
theorem dX12_lines_66 : decode cX12_lines 66 = .ok (.getfield 210, 3) := by decide +kernel
theorem dX12_lines_69 : decode cX12_lines 69 = .ok (.imul, 1) := by decide +kernel
theorem dX12_lines_70 : decode cX12_lines 70 = .ok (.iload_n 2, 1) := by decide +kernel
theorem dX12_lines_71 : decode cX12_lines 71 = .ok (.iadd, 1) := by decide +kernel
theorem dX12_lines_72 : decode cX12_lines 72 = .ok (.iaload, 1) := by decide +kernel
theorem dX12_lines_73 : decode cX12_lines 73 = .ok (.invokevirtual 333, 3) := by decide +kernel
theorem dX12_lines_76 : decode cX12_lines 76 = .ok (.iinc 2 1, 3) := by decide +kernel
theorem dX12_lines_79 : decode cX12_lines 79 = .ok (.goto (-34), 3) := by decide +kernel
theorem dX12_lines_82 : decode cX12_lines 82 = .ok (.goto 115, 3) := by decide +kernel
theorem dX12_lines_85 : decode cX12_lines 85 = .ok (.iload_n 1, 1) := by decide +kernel
theorem dX12_lines_86 : decode cX12_lines 86 = .ok (.iconst 1, 1) := by decide +kernel
theorem dX12_lines_87 : decode cX12_lines 87 = .ok (.if_icmp .ne 15, 3) := by decide +kernel
theorem dX12_lines_90 : decode cX12_lines 90 = .ok (.aload_n 0, 1) := by decide +kernel
theorem dX12_lines_91 : decode cX12_lines 91 = .ok (.bipush 98, 2) := by decide +kernel
theorem dX12_lines_93 : decode cX12_lines 93 = .ok (.bipush 117, 2) := by decide +kernel
theorem dX12_lines_95 : decode cX12_lines 95 = .ok (.bipush 121, 2) := by decide +kernel
theorem dX12_lines_97 : decode cX12_lines 97 = .ok (.iconst 0, 1) := by decide +kernel
theorem dX12_lines_98 : decode cX12_lines 98 = .ok (.iconst 0, 1) := by decide +kernel
theorem dX12_lines_99 : decode cX12_lines 99 = .ok (.invokevirtual 336, 3) := by decide +kernel
theorem dX12_lines_102 : decode cX12_lines 102 = .ok (.iload_n 1, 1) := by decide +kernel
theorem dX12_lines_103 : decode cX12_lines 103 = .ok (.iconst 2, 1) := by decide +kernel
theorem dX12_lines_104 : decode cX12_lines 104 = .ok (.if_icmp .ne 16, 3) := by decide +kernel
theorem dX12_lines_107 : decode cX12_lines 107 = .ok (.aload_n 0, 1) := by decide +kernel
theorem dX12_lines_108 : decode cX12_lines 108 = .ok (.bipush 114, 2) := by decide +kernel
theorem dX12_lines_110 : decode cX12_lines 110 = .ok (.bipush 101, 2) := by decide +kernel
theorem dX12_lines_112 : decode cX12_lines 112 = .ok (.bipush 97, 2) := by decide +kernel
theorem dX12_lines_114 : decode cX12_lines 114 = .ok (.bipush 100, 2) := by decide +kernel
theorem dX12_lines_116 : decode cX12_lines 116 = .ok (.iconst 0, 1) := by decide +kernel
theorem dX12_lines_117 : decode cX12_lines 117 = .ok (.invokevirtual 336, 3) := by decide +kernel
theorem dX12_lines_120 : decode cX12_lines 120 = .ok (.iload_n 1, 1) := by decide +kernel
theorem dX12_lines_121 : decode cX12_lines 121 = .ok (.iconst 3, 1) := by decide +kernel
theorem dX12_lines_122 : decode cX12_lines 122 = .ok (.if_icmp .ne 17, 3) := by decide +kernel
theorem dX12_lines_125 : decode cX12_lines 125 = .ok (.aload_n 0, 1) := by decide +kernel
theorem dX12_lines_126 : decode cX12_lines 126 = .ok (.bipush 109, 2) := by decide +kernel
theorem dX12_lines_128 : decode cX12_lines 128 = .ok (.bipush 101, 2) := by decide +kernel
theorem dX12_lines_130 : decode cX12_lines 130 = .ok (.bipush 114, 2) := by decide +kernel
theorem dX12_lines_132 : decode cX12_lines 132 = .ok (.bipush 103, 2) := by decide +kernel
theorem dX12_lines_134 : decode cX12_lines 134 = .ok (.bipush 101, 2) := by decide +kernel
theorem dX12_lines_136 : decode cX12_lines 136 = .ok (.invokevirtual 336, 3) := by decide +kernel
theorem dX12_lines_139 : decode cX12_lines 139 = .ok (.aload_n 0, 1) := by decide +kernel
theorem dX12_lines_140 : decode cX12_lines 140 = .ok (.bipush 32, 2) := by decide +kernel
theorem dX12_lines_142 : decode cX12_lines 142 = .ok (.invokevirtual 333, 3) := by decide +kernel
theorem dX12_lines_145 : decode cX12_lines 145 = .ok (.aload_n 0, 1) := by decide +kernel
theorem dX12_lines_146 : decode cX12_lines 146 = .ok (.getfield 79, 3) := by decide +kernel
theorem dX12_lines_149 : decode cX12_lines 149 = .ok (.aload_n 0, 1) := by decide +kernel
theorem dX12_lines_150 : decode cX12_lines 150 = .ok (.getfield 210, 3) := by decide +kernel
theorem dX12_lines_153 : decode cX12_lines 153 = .ok (.iaload, 1) := by decide +kernel
theorem dX12_lines_154 : decode cX12_lines 154 = .ok (.bipush 9, 2) := by decide +kernel
theorem dX12_lines_156 : decode cX12_lines 156 = .ok (.if_icmp .le 22, 3) := by decide +kernel
theorem dX12_lines_159 : decode cX12_lines 159 = .ok (.aload_n 0, 1) := by decide +kernel
theorem dX12_lines_160 : decode cX12_lines 160 = .ok (.bipush 48, 2) := by decide +kernel
theorem dX12_lines_162 : decode cX12_lines 162 = .ok (.aload_n 0, 1) := by decide +kernel
theorem dX12_lines_163 : decode cX12_lines 163 = .ok (.getfield 79, 3) := by decide +kernel
theorem dX12_lines_166 : decode cX12_lines 166 = .ok (.aload_n 0, 1) := by decide +kernel
theorem dX12_lines_167 : decode cX12_lines 167 = .ok (.getfield 210, 3) := by decide +kernel
theorem dX12_lines_170 : decode cX12_lines 170 = .ok (.iaload, 1) := by decide +kernel
theorem dX12_lines_171 : decode cX12_lines 171 = .ok (.bipush 10, 2) := by decide +kernel
theorem dX12_lines_173 : decode cX12_lines 173 = .ok (.idiv, 1) := by decide +kernel
theorem dX12_lines_174 : decode cX12_lines 174 = .ok (.iadd, 1) := by decide +kernel
theorem dX12_lines_175 : decode cX12_lines 175 = .ok (.invokevirtual 333, 3) := by decide +kernel
theorem dX12_lines_178 : decode cX12_lines 178 = .ok (.aload_n 0, 1) := by decide +kernel
theorem dX12_lines_179 : decode cX12_lines 179 = .ok (.bipush 48, 2) := by decide +kernel
theorem dX12_lines_181 : decode cX12_lines 181 = .ok (.aload_n 0, 1) := by decide +kernel
theorem dX12_lines_182 : decode cX12_lines 182 = .ok (.getfield 79, 3) := by decide +kernel
theorem dX12_lines_185 : decode cX12_lines 185 = .ok (.aload_n 0, 1) := by decide +kernel
theorem dX12_lines_186 : decode cX12_lines 186 = .ok (.getfield 210, 3) := by decide +kernel
theorem dX12_lines_189 : decode cX12_lines 189 = .ok (.iaload, 1) := by decide +kernel
theorem dX12_lines_190 : decode cX12_lines 190 = .ok (.bipush 10, 2) := by decide +kernel
theorem dX12_lines_192 : decode cX12_lines 192 = .ok (.irem, 1) := by decide +kernel
theorem dX12_lines_193 : decode cX12_lines 193 = .ok (.iadd, 1) := by decide +kernel
theorem dX12_lines_194 : decode cX12_lines 194 = .ok (.invokevirtual 333, 3) := by decide +kernel
theorem dX12_lines_197 : decode cX12_lines 197 = .ok (.aload_n 0, 1) := by decide +kernel
theorem dX12_lines_198 : decode cX12_lines 198 = .ok (.bipush 58, 2) := by decide +kernel
theorem dX12_lines_200 : decode cX12_lines 200 = .ok (.invokevirtual 333, 3) := by decide +kernel
theorem dX12_lines_203 : decode cX12_lines 203 = .ok (.iconst 0, 1) := by decide +kernel
theorem dX12_lines_204 : decode cX12_lines 204 = .ok (.istore_n 2, 1) := by decide +kernel
theorem dX12_lines_205 : decode cX12_lines 205 = .ok (.iload_n 2, 1) := by decide +kernel
theorem dX12_lines_206 : decode cX12_lines 206 = .ok (.aload_n 0, 1) := by decide +kernel
theorem dX12_lines_207 : decode cX12_lines 207 = .ok (.getfield 160, 3) := by decide +kernel
theorem dX12_lines_210 : decode cX12_lines 210 = .ok (.if_icmp .ge 79, 3) := by decide +kernel
theorem dX12_lines_213 : decode cX12_lines 213 = .ok (.aload_n 0, 1) := by decide +kernel
theorem dX12_lines_214 : decode cX12_lines 214 = .ok (.getfield 58, 3) := by decide +kernel
theorem dX12_lines_217 : decode cX12_lines 217 = .ok (.bipush 12, 2) := by decide +kernel
theorem dX12_lines_219 : decode cX12_lines 219 = .ok (.aload_n 0, 1) := by decide +kernel
theorem dX12_lines_220 : decode cX12_lines 220 = .ok (.getfield 210, 3) := by decide +kernel
theorem dX12_lines_223 : decode cX12_lines 223 = .ok (.imul, 1) := by decide +kernel
theorem dX12_lines_224 : decode cX12_lines 224 = .ok (.iload_n 2, 1) := by decide +kernel
theorem dX12_lines_225 : decode cX12_lines 225 = .ok (.iadd, 1) := by decide +kernel
theorem dX12_lines_226 : decode cX12_lines 226 = .ok (.iaload, 1) := by decide +kernel
theorem dX12_lines_227 : decode cX12_lines 227 = .ok (.bipush 100, 2) := by decide +kernel
theorem dX12_lines_229 : decode cX12_lines 229 = .ok (.if_icmp .eq 6, 3) := by decide +kernel
theorem dX12_lines_232 : decode cX12_lines 232 = .ok (.goto 51, 3) := by decide +kernel
theorem dX12_lines_235 : decode cX12_lines 235 = .ok (.aload_n 0, 1) := by decide +kernel
theorem dX12_lines_236 : decode cX12_lines 236 = .ok (.bipush 32, 2) := by decide +kernel
theorem dX12_lines_238 : decode cX12_lines 238 = .ok (.invokevirtual 333, 3) := by decide +kernel
theorem dX12_lines_241 : decode cX12_lines 241 = .ok (.iconst 0, 1) := by decide +kernel
theorem dX12_lines_242 : decode cX12_lines 242 = .ok (.istore_n 3, 1) := by decide +kernel
theorem dX12_lines_243 : decode cX12_lines 243 = .ok (.iload_n 3, 1) := by decide +kernel
theorem dX12_lines_244 : decode cX12_lines 244 = .ok (.aload_n 0, 1) := by decide +kernel
theorem dX12_lines_245 : decode cX12_lines 245 = .ok (.aload_n 0, 1) := by decide +kernel
theorem dX12_lines_246 : decode cX12_lines 246 = .ok (.getfield 30, 3) := by decide +kernel
theorem dX12_lines_249 : decode cX12_lines 249 = .ok (.iload_n 2, 1) := by decide +kernel
theorem dX12_lines_250 : decode cX12_lines 250 = .ok (.iaload, 1) := by decide +kernel
theorem dX12_lines_251 : decode cX12_lines 251 = .ok (.invokevirtual 340, 3) := by decide +kernel
theorem dX12_lines_254 : decode cX12_lines 254 = .ok (.if_icmp .ge 29, 3) := by decide +kernel
theorem dX12_lines_257 : decode cX12_lines 257 = .ok (.aload_n 0, 1) := by decide +kernel
theorem dX12_lines_258 : decode cX12_lines 258 = .ok (.aload_n 0, 1) := by decide +kernel
theorem dX12_lines_259 : decode cX12_lines 259 = .ok (.getfield 13, 3) := by decide +kernel
theorem dX12_lines_262 : decode cX12_lines 262 = .ok (.bipush 8, 2) := by decide +kernel
theorem dX12_lines_264 : decode cX12_lines 264 = .ok (.aload_n 0, 1) := by decide +kernel
theorem dX12_lines_265 : decode cX12_lines 265 = .ok (.getfield 30, 3) := by decide +kernel
theorem dX12_lines_268 : decode cX12_lines 268 = .ok (.iload_n 2, 1) := by decide +kernel
theorem dX12_lines_269 : decode cX12_lines 269 = .ok (.iaload, 1) := by decide +kernel
theorem dX12_lines_270 : decode cX12_lines 270 = .ok (.imul, 1) := by decide +kernel
theorem dX12_lines_271 : decode cX12_lines 271 = .ok (.iload_n 3, 1) := by decide +kernel
theorem dX12_lines_272 : decode cX12_lines 272 = .ok (.iadd, 1) := by decide +kernel
theorem dX12_lines_273 : decode cX12_lines 273 = .ok (.iaload, 1) := by decide +kernel
theorem dX12_lines_274 : decode cX12_lines 274 = .ok (.invokevirtual 333, 3) := by decide +kernel
theorem dX12_lines_277 : decode cX12_lines 277 = .ok (.iinc 3 1, 3) := by decide +kernel
theorem dX12_lines_280 : decode cX12_lines 280 = .ok (.goto (-37), 3) := by decide +kernel
theorem dX12_lines_283 : decode cX12_lines 283 = .ok (.iinc 2 1, 3) := by decide +kernel
theorem dX12_lines_286 : decode cX12_lines 286 = .ok (.goto (-81), 3) := by decide +kernel
theorem dX12_lines_289 : decode cX12_lines 289 = .ok (.return_, 1) := by decide +kernel
theorem dX12_line_0 : decode cX12_line 0 = .ok (.aload_n 0, 1) := by decide +kernel
theorem dX12_line_1 : decode cX12_line 1 = .ok (.invokevirtual 284, 3) := by decide +kernel
theorem dX12_line_4 : decode cX12_line 4 = .ok (.ifCond .eq 5, 3) := by decide +kernel
theorem dX12_line_7 : decode cX12_line 7 = .ok (.iconst 0, 1) := by decide +kernel
theorem dX12_line_8 : decode cX12_line 8 = .ok (.ireturn, 1) := by decide +kernel
theorem dX12_line_9 : decode cX12_line 9 = .ok (.aload_n 0, 1) := by decide +kernel
theorem dX12_line_10 : decode cX12_line 10 = .ok (.invokevirtual 343, 3) := by decide +kernel
theorem dX12_line_13 : decode cX12_line 13 = .ok (.aload_n 0, 1) := by decide +kernel
theorem dX12_line_14 : decode cX12_line 14 = .ok (.getfield 330, 3) := by decide +kernel
theorem dX12_line_17 : decode cX12_line 17 = .ok (.ireturn, 1) := by decide +kernel
theorem dX12_signOf_0 : decode cX12_signOf 0 = .ok (.aload_n 0, 1) := by decide +kernel
theorem dX12_signOf_1 : decode cX12_signOf 1 = .ok (.invokevirtual 284, 3) := by decide +kernel
theorem dX12_signOf_4 : decode cX12_signOf 4 = .ok (.ifCond .eq 5, 3) := by decide +kernel
theorem dX12_signOf_7 : decode cX12_signOf 7 = .ok (.iconst 0, 1) := by decide +kernel
theorem dX12_signOf_8 : decode cX12_signOf 8 = .ok (.ireturn, 1) := by decide +kernel
theorem dX12_signOf_9 : decode cX12_signOf 9 = .ok (.aload_n 0, 1) := by decide +kernel
theorem dX12_signOf_10 : decode cX12_signOf 10 = .ok (.invokevirtual 343, 3) := by decide +kernel
theorem dX12_signOf_13 : decode cX12_signOf 13 = .ok (.aload_n 0, 1) := by decide +kernel
theorem dX12_signOf_14 : decode cX12_signOf 14 = .ok (.iload_n 1, 1) := by decide +kernel
theorem dX12_signOf_15 : decode cX12_signOf 15 = .ok (.iconst 0, 1) := by decide +kernel
theorem dX12_signOf_16 : decode cX12_signOf 16 = .ok (.aload_n 0, 1) := by decide +kernel
theorem dX12_signOf_17 : decode cX12_signOf 17 = .ok (.getfield 330, 3) := by decide +kernel
theorem dX12_signOf_20 : decode cX12_signOf 20 = .ok (.iconst 1, 1) := by decide +kernel
theorem dX12_signOf_21 : decode cX12_signOf 21 = .ok (.isub, 1) := by decide +kernel
theorem dX12_signOf_22 : decode cX12_signOf 22 = .ok (.invokestatic 135, 3) := by decide +kernel
theorem dX12_signOf_25 : decode cX12_signOf 25 = .ok (.ifCond .eq 7, 3) := by decide +kernel
theorem dX12_signOf_28 : decode cX12_signOf 28 = .ok (.iconst 0, 1) := by decide +kernel
theorem dX12_signOf_29 : decode cX12_signOf 29 = .ok (.goto 4, 3) := by decide +kernel
theorem dX12_signOf_32 : decode cX12_signOf 32 = .ok (.iconst 2, 1) := by decide +kernel
theorem dX12_signOf_33 : decode cX12_signOf 33 = .ok (.invokevirtual 142, 3) := by decide +kernel
theorem dX12_signOf_36 : decode cX12_signOf 36 = .ok (.ifCond .eq 7, 3) := by decide +kernel
theorem dX12_signOf_39 : decode cX12_signOf 39 = .ok (.iconst 0, 1) := by decide +kernel
theorem dX12_signOf_40 : decode cX12_signOf 40 = .ok (.goto 10, 3) := by decide +kernel
theorem dX12_signOf_43 : decode cX12_signOf 43 = .ok (.aload_n 0, 1) := by decide +kernel
theorem dX12_signOf_44 : decode cX12_signOf 44 = .ok (.getfield 125, 3) := by decide +kernel
theorem dX12_signOf_47 : decode cX12_signOf 47 = .ok (.iload_n 1, 1) := by decide +kernel
theorem dX12_signOf_48 : decode cX12_signOf 48 = .ok (.iaload, 1) := by decide +kernel
theorem dX12_signOf_49 : decode cX12_signOf 49 = .ok (.i2c, 1) := by decide +kernel
theorem dX12_signOf_50 : decode cX12_signOf 50 = .ok (.ireturn, 1) := by decide +kernel
theorem dX12_checksum_0 : decode cX12_checksum 0 = .ok (.aload_n 0, 1) := by decide +kernel
theorem dX12_checksum_1 : decode cX12_checksum 1 = .ok (.invokevirtual 284, 3) := by decide +kernel
theorem dX12_checksum_4 : decode cX12_checksum 4 = .ok (.ifCond .eq 5, 3) := by decide +kernel
theorem dX12_checksum_7 : decode cX12_checksum 7 = .ok (.lconst 0, 1) := by decide +kernel
theorem dX12_checksum_8 : decode cX12_checksum 8 = .ok (.lreturn, 1) := by decide +kernel
theorem dX12_checksum_9 : decode cX12_checksum 9 = .ok (.ldc2_w 346, 3) := by decide +kernel
theorem dX12_checksum_12 : decode cX12_checksum 12 = .ok (.aload_n 0, 1) := by decide +kernel
theorem dX12_checksum_13 : decode cX12_checksum 13 = .ok (.getfield 55, 3) := by decide +kernel
theorem dX12_checksum_16 : decode cX12_checksum 16 = .ok (.aload_n 0, 1) := by decide +kernel
theorem dX12_checksum_17 : decode cX12_checksum 17 = .ok (.getfield 210, 3) := by decide +kernel
theorem dX12_checksum_20 : decode cX12_checksum 20 = .ok (.iaload, 1) := by decide +kernel
theorem dX12_checksum_21 : decode cX12_checksum 21 = .ok (.i2l, 1) := by decide +kernel
theorem dX12_checksum_22 : decode cX12_checksum 22 = .ok (.ladd, 1) := by decide +kernel
theorem dX12_checksum_23 : decode cX12_checksum 23 = .ok (.lstore_n 1, 1) := by decide +kernel
theorem dX12_checksum_24 : decode cX12_checksum 24 = .ok (.iconst 0, 1) := by decide +kernel
theorem dX12_checksum_25 : decode cX12_checksum 25 = .ok (.istore_n 3, 1) := by decide +kernel
theorem dX12_checksum_26 : decode cX12_checksum 26 = .ok (.iload_n 3, 1) := by decide +kernel
theorem dX12_checksum_27 : decode cX12_checksum 27 = .ok (.aload_n 0, 1) := by decide +kernel
theorem dX12_checksum_28 : decode cX12_checksum 28 = .ok (.getfield 160, 3) := by decide +kernel
theorem dX12_checksum_31 : decode cX12_checksum 31 = .ok (.if_icmp .ge 82, 3) := by decide +kernel
theorem dX12_checksum_34 : decode cX12_checksum 34 = .ok (.bipush 12, 2) := by decide +kernel
theorem dX12_checksum_36 : decode cX12_checksum 36 = .ok (.aload_n 0, 1) := by decide +kernel
theorem dX12_checksum_37 : decode cX12_checksum 37 = .ok (.getfield 210, 3) := by decide +kernel
theorem dX12_checksum_40 : decode cX12_checksum 40 = .ok (.imul, 1) := by decide +kernel
theorem dX12_checksum_41 : decode cX12_checksum 41 = .ok (.iload_n 3, 1) := by decide +kernel
theorem dX12_checksum_42 : decode cX12_checksum 42 = .ok (.iadd, 1) := by decide +kernel
theorem dX12_checksum_43 : decode cX12_checksum 43 = .ok (.istore 4, 2) := by decide +kernel
theorem dX12_checksum_45 : decode cX12_checksum 45 = .ok (.ldc2_w 348, 3) := by decide +kernel
theorem dX12_checksum_48 : decode cX12_checksum 48 = .ok (.lload_n 1, 1) := by decide +kernel
theorem dX12_checksum_49 : decode cX12_checksum 49 = .ok (.lmul, 1) := by decide +kernel
theorem dX12_checksum_50 : decode cX12_checksum 50 = .ok (.aload_n 0, 1) := by decide +kernel
theorem dX12_checksum_51 : decode cX12_checksum 51 = .ok (.getfield 58, 3) := by decide +kernel
theorem dX12_checksum_54 : decode cX12_checksum 54 = .ok (.iload 4, 2) := by decide +kernel
theorem dX12_checksum_56 : decode cX12_checksum 56 = .ok (.iaload, 1) := by decide +kernel
theorem dX12_checksum_57 : decode cX12_checksum 57 = .ok (.i2l, 1) := by decide +kernel
theorem dX12_checksum_58 : decode cX12_checksum 58 = .ok (.ladd, 1) := by decide +kernel
theorem dX12_checksum_59 : decode cX12_checksum 59 = .ok (.aload_n 0, 1) := by decide +kernel
theorem dX12_checksum_60 : decode cX12_checksum 60 = .ok (.getfield 61, 3) := by decide +kernel
theorem dX12_checksum_63 : decode cX12_checksum 63 = .ok (.iload 4, 2) := by decide +kernel
theorem dX12_checksum_65 : decode cX12_checksum 65 = .ok (.baload, 1) := by decide +kernel
theorem dX12_checksum_66 : decode cX12_checksum 66 = .ok (.ifCond .eq 9, 3) := by decide +kernel
theorem dX12_checksum_69 : decode cX12_checksum 69 = .ok (.sipush 1000, 3) := by decide +kernel
theorem dX12_checksum_72 : decode cX12_checksum 72 = .ok (.goto 4, 3) := by decide +kernel
theorem dX12_checksum_75 : decode cX12_checksum 75 = .ok (.iconst 0, 1) := by decide +kernel
theorem dX12_checksum_76 : decode cX12_checksum 76 = .ok (.i2l, 1) := by decide +kernel
theorem dX12_checksum_77 : decode cX12_checksum 77 = .ok (.ladd, 1) := by decide +kernel
theorem dX12_checksum_78 : decode cX12_checksum 78 = .ok (.aload_n 0, 1) := by decide +kernel
theorem dX12_checksum_79 : decode cX12_checksum 79 = .ok (.getfield 39, 3) := by decide +kernel
theorem dX12_checksum_82 : decode cX12_checksum 82 = .ok (.iload_n 3, 1) := by decide +kernel
theorem dX12_checksum_83 : decode cX12_checksum 83 = .ok (.caload, 1) := by decide +kernel
theorem dX12_checksum_84 : decode cX12_checksum 84 = .ok (.bipush 108, 2) := by decide +kernel
theorem dX12_checksum_86 : decode cX12_checksum 86 = .ok (.if_icmp .ne 18, 3) := by decide +kernel
theorem dX12_checksum_89 : decode cX12_checksum 89 = .ok (.ldc2_w 350, 3) := by decide +kernel
theorem dX12_checksum_92 : decode cX12_checksum 92 = .ok (.aload_n 0, 1) := by decide +kernel
theorem dX12_checksum_93 : decode cX12_checksum 93 = .ok (.getfield 64, 3) := by decide +kernel
theorem dX12_checksum_96 : decode cX12_checksum 96 = .ok (.iload 4, 2) := by decide +kernel
theorem dX12_checksum_98 : decode cX12_checksum 98 = .ok (.iaload, 1) := by decide +kernel
theorem dX12_checksum_99 : decode cX12_checksum 99 = .ok (.i2l, 1) := by decide +kernel
theorem dX12_checksum_100 : decode cX12_checksum 100 = .ok (.lmul, 1) := by decide +kernel
theorem dX12_checksum_101 : decode cX12_checksum 101 = .ok (.goto 4, 3) := by decide +kernel
theorem dX12_checksum_104 : decode cX12_checksum 104 = .ok (.lconst 0, 1) := by decide +kernel
theorem dX12_checksum_105 : decode cX12_checksum 105 = .ok (.ladd, 1) := by decide +kernel
theorem dX12_checksum_106 : decode cX12_checksum 106 = .ok (.lstore_n 1, 1) := by decide +kernel
theorem dX12_checksum_107 : decode cX12_checksum 107 = .ok (.iinc 3 1, 3) := by decide +kernel
theorem dX12_checksum_110 : decode cX12_checksum 110 = .ok (.goto (-84), 3) := by decide +kernel
theorem dX12_checksum_113 : decode cX12_checksum 113 = .ok (.lload_n 1, 1) := by decide +kernel
theorem dX12_checksum_114 : decode cX12_checksum 114 = .ok (.lreturn, 1) := by decide +kernel
theorem dX12_knownShare_0 : decode cX12_knownShare 0 = .ok (.aload_n 0, 1) := by decide +kernel
theorem dX12_knownShare_1 : decode cX12_knownShare 1 = .ok (.aload_n 0, 1) := by decide +kernel
theorem dX12_knownShare_2 : decode cX12_knownShare 2 = .ok (.getfield 163, 3) := by decide +kernel
theorem dX12_knownShare_5 : decode cX12_knownShare 5 = .ok (.ifCond .ne 7, 3) := by decide +kernel
theorem dX12_knownShare_8 : decode cX12_knownShare 8 = .ok (.iconst 1, 1) := by decide +kernel
theorem dX12_knownShare_9 : decode cX12_knownShare 9 = .ok (.goto 15, 3) := by decide +kernel
theorem dX12_knownShare_12 : decode cX12_knownShare 12 = .ok (.aload_n 0, 1) := by decide +kernel
theorem dX12_knownShare_13 : decode cX12_knownShare 13 = .ok (.getfield 146, 3) := by decide +kernel
theorem dX12_knownShare_16 : decode cX12_knownShare 16 = .ok (.ifCond .ne 7, 3) := by decide +kernel
theorem dX12_knownShare_19 : decode cX12_knownShare 19 = .ok (.iconst 2, 1) := by decide +kernel
theorem dX12_knownShare_20 : decode cX12_knownShare 20 = .ok (.goto 4, 3) := by decide +kernel
theorem dX12_knownShare_23 : decode cX12_knownShare 23 = .ok (.iconst 0, 1) := by decide +kernel
theorem dX12_knownShare_24 : decode cX12_knownShare 24 = .ok (.invokevirtual 142, 3) := by decide +kernel
theorem dX12_knownShare_27 : decode cX12_knownShare 27 = .ok (.ifCond .eq 7, 3) := by decide +kernel
theorem dX12_knownShare_30 : decode cX12_knownShare 30 = .ok (.fconst 0, 1) := by decide +kernel
theorem dX12_knownShare_31 : decode cX12_knownShare 31 = .ok (.goto 14, 3) := by decide +kernel
theorem dX12_knownShare_34 : decode cX12_knownShare 34 = .ok (.aload_n 0, 1) := by decide +kernel
theorem dX12_knownShare_35 : decode cX12_knownShare 35 = .ok (.invokevirtual 227, 3) := by decide +kernel
theorem dX12_knownShare_38 : decode cX12_knownShare 38 = .ok (.i2f, 1) := by decide +kernel
theorem dX12_knownShare_39 : decode cX12_knownShare 39 = .ok (.aload_n 0, 1) := by decide +kernel
theorem dX12_knownShare_40 : decode cX12_knownShare 40 = .ok (.getfield 146, 3) := by decide +kernel
theorem dX12_knownShare_43 : decode cX12_knownShare 43 = .ok (.i2f, 1) := by decide +kernel
theorem dX12_knownShare_44 : decode cX12_knownShare 44 = .ok (.fdiv, 1) := by decide +kernel
theorem dX12_knownShare_45 : decode cX12_knownShare 45 = .ok (.freturn, 1) := by decide +kernel
theorem dX12_meanPrice_0 : decode cX12_meanPrice 0 = .ok (.iconst 0, 1) := by decide +kernel
theorem dX12_meanPrice_1 : decode cX12_meanPrice 1 = .ok (.istore_n 1, 1) := by decide +kernel
theorem dX12_meanPrice_2 : decode cX12_meanPrice 2 = .ok (.iconst 0, 1) := by decide +kernel
theorem dX12_meanPrice_3 : decode cX12_meanPrice 3 = .ok (.istore_n 2, 1) := by decide +kernel
theorem dX12_meanPrice_4 : decode cX12_meanPrice 4 = .ok (.iload_n 2, 1) := by decide +kernel
theorem dX12_meanPrice_5 : decode cX12_meanPrice 5 = .ok (.aload_n 0, 1) := by decide +kernel
theorem dX12_meanPrice_6 : decode cX12_meanPrice 6 = .ok (.getfield 312, 3) := by decide +kernel
theorem dX12_meanPrice_9 : decode cX12_meanPrice 9 = .ok (.if_icmp .ge 18, 3) := by decide +kernel
theorem dX12_meanPrice_12 : decode cX12_meanPrice 12 = .ok (.iload_n 1, 1) := by decide +kernel
theorem dX12_meanPrice_13 : decode cX12_meanPrice 13 = .ok (.aload_n 0, 1) := by decide +kernel
theorem dX12_meanPrice_14 : decode cX12_meanPrice 14 = .ok (.getfield 119, 3) := by decide +kernel
theorem dX12_meanPrice_17 : decode cX12_meanPrice 17 = .ok (.iload_n 2, 1) := by decide +kernel
theorem dX12_meanPrice_18 : decode cX12_meanPrice 18 = .ok (.iaload, 1) := by decide +kernel
theorem dX12_meanPrice_19 : decode cX12_meanPrice 19 = .ok (.iadd, 1) := by decide +kernel
theorem dX12_meanPrice_20 : decode cX12_meanPrice 20 = .ok (.istore_n 1, 1) := by decide +kernel
theorem dX12_meanPrice_21 : decode cX12_meanPrice 21 = .ok (.iinc 2 1, 3) := by decide +kernel
theorem dX12_meanPrice_24 : decode cX12_meanPrice 24 = .ok (.goto (-20), 3) := by decide +kernel
theorem dX12_meanPrice_27 : decode cX12_meanPrice 27 = .ok (.aload_n 0, 1) := by decide +kernel
theorem dX12_meanPrice_28 : decode cX12_meanPrice 28 = .ok (.aload_n 0, 1) := by decide +kernel
theorem dX12_meanPrice_29 : decode cX12_meanPrice 29 = .ok (.getfield 312, 3) := by decide +kernel
theorem dX12_meanPrice_32 : decode cX12_meanPrice 32 = .ok (.ifCond .ne 7, 3) := by decide +kernel
theorem dX12_meanPrice_35 : decode cX12_meanPrice 35 = .ok (.iconst 1, 1) := by decide +kernel
theorem dX12_meanPrice_36 : decode cX12_meanPrice 36 = .ok (.goto 4, 3) := by decide +kernel
theorem dX12_meanPrice_39 : decode cX12_meanPrice 39 = .ok (.iconst 0, 1) := by decide +kernel
theorem dX12_meanPrice_40 : decode cX12_meanPrice 40 = .ok (.invokevirtual 142, 3) := by decide +kernel
theorem dX12_meanPrice_43 : decode cX12_meanPrice 43 = .ok (.ifCond .eq 7, 3) := by decide +kernel
theorem dX12_meanPrice_46 : decode cX12_meanPrice 46 = .ok (.dconst 0, 1) := by decide +kernel
theorem dX12_meanPrice_47 : decode cX12_meanPrice 47 = .ok (.goto 11, 3) := by decide +kernel
theorem dX12_meanPrice_50 : decode cX12_meanPrice 50 = .ok (.iload_n 1, 1) := by decide +kernel
theorem dX12_meanPrice_51 : decode cX12_meanPrice 51 = .ok (.i2d, 1) := by decide +kernel
theorem dX12_meanPrice_52 : decode cX12_meanPrice 52 = .ok (.aload_n 0, 1) := by decide +kernel
theorem dX12_meanPrice_53 : decode cX12_meanPrice 53 = .ok (.getfield 312, 3) := by decide +kernel
theorem dX12_meanPrice_56 : decode cX12_meanPrice 56 = .ok (.i2d, 1) := by decide +kernel
theorem dX12_meanPrice_57 : decode cX12_meanPrice 57 = .ok (.ddiv, 1) := by decide +kernel
theorem dX12_meanPrice_58 : decode cX12_meanPrice 58 = .ok (.dreturn, 1) := by decide +kernel
theorem dX12_isSound_0 : decode cX12_isSound 0 = .ok (.aload_n 0, 1) := by decide +kernel
theorem dX12_isSound_1 : decode cX12_isSound 1 = .ok (.iconst 0, 1) := by decide +kernel
theorem dX12_isSound_2 : decode cX12_isSound 2 = .ok (.putfield 128, 3) := by decide +kernel
theorem dX12_isSound_5 : decode cX12_isSound 5 = .ok (.iconst 1, 1) := by decide +kernel
theorem dX12_isSound_6 : decode cX12_isSound 6 = .ok (.ireturn, 1) := by decide +kernel
