/-! The law's own methods: names, and their instructions. -/
def RV : String := "LorewickLaw"
abbrev cLaw_type : ByteArray := method_3_code
def yLaw_type : MethodName := ⟨RV, "type", "(LLorewick;C[J)I"⟩
abbrev cLaw_word : ByteArray := method_4_code
def yLaw_word : MethodName := ⟨RV, "word", "(LLorewick;[J)I"⟩
abbrev cLaw_room : ByteArray := method_5_code
def yLaw_room : MethodName := ⟨RV, "room", "(LLorewick;Z[J)I"⟩
abbrev cLaw_show : ByteArray := method_6_code
def yLaw_show : MethodName := ⟨RV, "show", "(LLorewick;II[J)I"⟩
abbrev cLaw_exit : ByteArray := method_7_code
def yLaw_exit : MethodName := ⟨RV, "exit", "(LLorewick;ICI[J)I"⟩
abbrev cLaw_lock : ByteArray := method_8_code
def yLaw_lock : MethodName := ⟨RV, "lock", "(LLorewick;ICI[J)I"⟩
abbrev cLaw_thing : ByteArray := method_9_code
def yLaw_thing : MethodName := ⟨RV, "thing", "(LLorewick;IIIC[J)I"⟩
abbrev cLaw_fuel : ByteArray := method_10_code
def yLaw_fuel : MethodName := ⟨RV, "fuel", "(LLorewick;II[J)I"⟩
abbrev cLaw_tell : ByteArray := method_11_code
def yLaw_tell : MethodName := ⟨RV, "tell", "(LLorewick;II[J)I"⟩
abbrev cLaw_goal : ByteArray := method_12_code
def yLaw_goal : MethodName := ⟨RV, "goal", "(LLorewick;II[J)I"⟩
abbrev cLaw_hint : ByteArray := method_13_code
def yLaw_hint : MethodName := ⟨RV, "hint", "(LLorewick;I[J)I"⟩
abbrev cLaw_teach : ByteArray := method_14_code
def yLaw_teach : MethodName := ⟨RV, "teach", "(LLorewick;II[J)I"⟩
abbrev cLaw_begin : ByteArray := method_15_code
def yLaw_begin : MethodName := ⟨RV, "begin", "(LLorewick;I[J)I"⟩
abbrev cLaw_say : ByteArray := method_16_code
def yLaw_say : MethodName := ⟨RV, "say", "(LLorewick;[J)I"⟩
abbrev cLaw_at : ByteArray := method_17_code
def yLaw_at : MethodName := ⟨RV, "at", "(LLorewick;[J)I"⟩
abbrev cLaw_place : ByteArray := method_18_code
def yLaw_place : MethodName := ⟨RV, "place", "(LLorewick;I[J)I"⟩
abbrev cLaw_isOpen : ByteArray := method_19_code
def yLaw_isOpen : MethodName := ⟨RV, "isOpen", "(LLorewick;I[J)I"⟩
abbrev cLaw_lit : ByteArray := method_20_code
def yLaw_lit : MethodName := ⟨RV, "lit", "(LLorewick;I[J)I"⟩
abbrev cLaw_isBright : ByteArray := method_21_code
def yLaw_isBright : MethodName := ⟨RV, "isBright", "(LLorewick;[J)I"⟩
abbrev cLaw_weight : ByteArray := method_22_code
def yLaw_weight : MethodName := ⟨RV, "weight", "(LLorewick;[J)I"⟩
abbrev cLaw_node : ByteArray := method_23_code
def yLaw_node : MethodName := ⟨RV, "node", "(LLorewick;[J)I"⟩
abbrev cLaw_nodes : ByteArray := method_24_code
def yLaw_nodes : MethodName := ⟨RV, "nodes", "(LLorewick;[J)I"⟩
abbrev cLaw_parent : ByteArray := method_25_code
def yLaw_parent : MethodName := ⟨RV, "parent", "(LLorewick;I[J)I"⟩
abbrev cLaw_depth : ByteArray := method_26_code
def yLaw_depth : MethodName := ⟨RV, "depth", "(LLorewick;I[J)I"⟩
abbrev cLaw_children : ByteArray := method_27_code
def yLaw_children : MethodName := ⟨RV, "children", "(LLorewick;I[J)I"⟩
abbrev cLaw_common : ByteArray := method_28_code
def yLaw_common : MethodName := ⟨RV, "common", "(LLorewick;II[J)I"⟩
abbrev cLaw_undo : ByteArray := method_29_code
def yLaw_undo : MethodName := ⟨RV, "undo", "(LLorewick;[J)I"⟩
abbrev cLaw_redo : ByteArray := method_30_code
def yLaw_redo : MethodName := ⟨RV, "redo", "(LLorewick;I[J)I"⟩
abbrev cLaw_name : ByteArray := method_31_code
def yLaw_name : MethodName := ⟨RV, "name", "(LLorewick;[J)I"⟩
abbrev cLaw_jump : ByteArray := method_32_code
def yLaw_jump : MethodName := ⟨RV, "jump", "(LLorewick;[J)I"⟩
abbrev cLaw_isKnown : ByteArray := method_33_code
def yLaw_isKnown : MethodName := ⟨RV, "isKnown", "(LLorewick;I[J)I"⟩
abbrev cLaw_known : ByteArray := method_34_code
def yLaw_known : MethodName := ⟨RV, "known", "(LLorewick;[J)I"⟩
abbrev cLaw_learnt : ByteArray := method_35_code
def yLaw_learnt : MethodName := ⟨RV, "learnt", "(LLorewick;I[J)I"⟩
abbrev cLaw_postings : ByteArray := method_36_code
def yLaw_postings : MethodName := ⟨RV, "postings", "(LLorewick;I[J)I"⟩
abbrev cLaw_posting : ByteArray := method_37_code
def yLaw_posting : MethodName := ⟨RV, "posting", "(LLorewick;II[J)I"⟩
abbrev cLaw_rare : ByteArray := method_38_code
def yLaw_rare : MethodName := ⟨RV, "rare", "(LLorewick;I[J)I"⟩
abbrev cLaw_price : ByteArray := method_39_code
def yLaw_price : MethodName := ⟨RV, "price", "(LLorewick;I[J)I"⟩
abbrev cLaw_buy : ByteArray := method_40_code
def yLaw_buy : MethodName := ⟨RV, "buy", "(LLorewick;I[J)I"⟩
abbrev cLaw_isOwned : ByteArray := method_41_code
def yLaw_isOwned : MethodName := ⟨RV, "isOwned", "(LLorewick;I[J)I"⟩
abbrev cLaw_read : ByteArray := method_42_code
def yLaw_read : MethodName := ⟨RV, "read", "(LLorewick;I[J)I"⟩
abbrev cLaw_earn : ByteArray := method_43_code
def yLaw_earn : MethodName := ⟨RV, "earn", "(LLorewick;I[J)I"⟩
abbrev cLaw_sale : ByteArray := method_44_code
def yLaw_sale : MethodName := ⟨RV, "sale", "(LLorewick;IC[J)I"⟩
abbrev cLaw_merge : ByteArray := method_45_code
def yLaw_merge : MethodName := ⟨RV, "merge", "(LLorewick;I[J)I"⟩
abbrev cLaw_score : ByteArray := method_46_code
def yLaw_score : MethodName := ⟨RV, "score", "(LLorewick;[J)I"⟩
abbrev cLaw_steps : ByteArray := method_47_code
def yLaw_steps : MethodName := ⟨RV, "steps", "(LLorewick;I[J)I"⟩
abbrev cLaw_line : ByteArray := method_48_code
def yLaw_line : MethodName := ⟨RV, "line", "(LLorewick;[J)I"⟩
abbrev cLaw_signOf : ByteArray := method_49_code
def yLaw_signOf : MethodName := ⟨RV, "signOf", "(LLorewick;I[J)I"⟩
abbrev cLaw_checksum : ByteArray := method_50_code
def yLaw_checksum : MethodName := ⟨RV, "checksum", "(LLorewick;[J)I"⟩
abbrev cLaw_knownShare : ByteArray := method_51_code
def yLaw_knownShare : MethodName := ⟨RV, "knownShare", "(LLorewick;[D)I"⟩
abbrev cLaw_meanPrice : ByteArray := method_52_code
def yLaw_meanPrice : MethodName := ⟨RV, "meanPrice", "(LLorewick;[D)I"⟩
abbrev cLaw_law : ByteArray := code
def yLaw_law : MethodName := ⟨RV, "law", "([I)Z"⟩
theorem dLaw_type_0 : decode cLaw_type 0 = .ok (.aload_n 2, 1) := by decide +kernel
theorem dLaw_type_1 : decode cLaw_type 1 = .ok (.iconst 0, 1) := by decide +kernel
theorem dLaw_type_2 : decode cLaw_type 2 = .ok (.aload_n 0, 1) := by decide +kernel
theorem dLaw_type_3 : decode cLaw_type 3 = .ok (.iload_n 1, 1) := by decide +kernel
theorem dLaw_type_4 : decode cLaw_type 4 = .ok (.invokevirtual 7, 3) := by decide +kernel
theorem dLaw_type_7 : decode cLaw_type 7 = .ok (.i2l, 1) := by decide +kernel
theorem dLaw_type_8 : decode cLaw_type 8 = .ok (.lastore, 1) := by decide +kernel
theorem dLaw_type_9 : decode cLaw_type 9 = .ok (.goto 9, 3) := by decide +kernel
theorem dLaw_type_12 : decode cLaw_type 12 = .ok (.astore_n 3, 1) := by decide +kernel
theorem dLaw_type_13 : decode cLaw_type 13 = .ok (.iconst 1, 1) := by decide +kernel
theorem dLaw_type_14 : decode cLaw_type 14 = .ok (.ireturn, 1) := by decide +kernel
theorem dLaw_type_15 : decode cLaw_type 15 = .ok (.astore_n 3, 1) := by decide +kernel
theorem dLaw_type_16 : decode cLaw_type 16 = .ok (.iconst 2, 1) := by decide +kernel
theorem dLaw_type_17 : decode cLaw_type 17 = .ok (.ireturn, 1) := by decide +kernel
theorem dLaw_type_18 : decode cLaw_type 18 = .ok (.iconst 0, 1) := by decide +kernel
theorem dLaw_type_19 : decode cLaw_type 19 = .ok (.ireturn, 1) := by decide +kernel
theorem dLaw_word_0 : decode cLaw_word 0 = .ok (.aload_n 1, 1) := by decide +kernel
theorem dLaw_word_1 : decode cLaw_word 1 = .ok (.iconst 0, 1) := by decide +kernel
theorem dLaw_word_2 : decode cLaw_word 2 = .ok (.aload_n 0, 1) := by decide +kernel
theorem dLaw_word_3 : decode cLaw_word 3 = .ok (.invokevirtual 17, 3) := by decide +kernel
theorem dLaw_word_6 : decode cLaw_word 6 = .ok (.i2l, 1) := by decide +kernel
theorem dLaw_word_7 : decode cLaw_word 7 = .ok (.lastore, 1) := by decide +kernel
theorem dLaw_word_8 : decode cLaw_word 8 = .ok (.goto 12, 3) := by decide +kernel
theorem dLaw_word_11 : decode cLaw_word 11 = .ok (.astore_n 2, 1) := by decide +kernel
theorem dLaw_word_12 : decode cLaw_word 12 = .ok (.iconst 1, 1) := by decide +kernel
theorem dLaw_word_13 : decode cLaw_word 13 = .ok (.ireturn, 1) := by decide +kernel
theorem dLaw_word_14 : decode cLaw_word 14 = .ok (.astore_n 2, 1) := by decide +kernel
theorem dLaw_word_15 : decode cLaw_word 15 = .ok (.iconst 2, 1) := by decide +kernel
theorem dLaw_word_16 : decode cLaw_word 16 = .ok (.ireturn, 1) := by decide +kernel
theorem dLaw_word_17 : decode cLaw_word 17 = .ok (.astore_n 2, 1) := by decide +kernel
theorem dLaw_word_18 : decode cLaw_word 18 = .ok (.iconst 3, 1) := by decide +kernel
theorem dLaw_word_19 : decode cLaw_word 19 = .ok (.ireturn, 1) := by decide +kernel
theorem dLaw_word_20 : decode cLaw_word 20 = .ok (.iconst 0, 1) := by decide +kernel
theorem dLaw_word_21 : decode cLaw_word 21 = .ok (.ireturn, 1) := by decide +kernel
theorem dLaw_room_0 : decode cLaw_room 0 = .ok (.aload_n 2, 1) := by decide +kernel
theorem dLaw_room_1 : decode cLaw_room 1 = .ok (.iconst 0, 1) := by decide +kernel
theorem dLaw_room_2 : decode cLaw_room 2 = .ok (.aload_n 0, 1) := by decide +kernel
theorem dLaw_room_3 : decode cLaw_room 3 = .ok (.iload_n 1, 1) := by decide +kernel
theorem dLaw_room_4 : decode cLaw_room 4 = .ok (.invokevirtual 23, 3) := by decide +kernel
theorem dLaw_room_7 : decode cLaw_room 7 = .ok (.i2l, 1) := by decide +kernel
theorem dLaw_room_8 : decode cLaw_room 8 = .ok (.lastore, 1) := by decide +kernel
theorem dLaw_room_9 : decode cLaw_room 9 = .ok (.goto 6, 3) := by decide +kernel
theorem dLaw_room_12 : decode cLaw_room 12 = .ok (.astore_n 3, 1) := by decide +kernel
theorem dLaw_room_13 : decode cLaw_room 13 = .ok (.iconst 1, 1) := by decide +kernel
theorem dLaw_room_14 : decode cLaw_room 14 = .ok (.ireturn, 1) := by decide +kernel
theorem dLaw_room_15 : decode cLaw_room 15 = .ok (.iconst 0, 1) := by decide +kernel
theorem dLaw_room_16 : decode cLaw_room 16 = .ok (.ireturn, 1) := by decide +kernel
theorem dLaw_show_0 : decode cLaw_show 0 = .ok (.aload_n 3, 1) := by decide +kernel
theorem dLaw_show_1 : decode cLaw_show 1 = .ok (.iconst 0, 1) := by decide +kernel
theorem dLaw_show_2 : decode cLaw_show 2 = .ok (.aload_n 0, 1) := by decide +kernel
theorem dLaw_show_3 : decode cLaw_show 3 = .ok (.iload_n 1, 1) := by decide +kernel
theorem dLaw_show_4 : decode cLaw_show 4 = .ok (.iload_n 2, 1) := by decide +kernel
theorem dLaw_show_5 : decode cLaw_show 5 = .ok (.invokevirtual 27, 3) := by decide +kernel
theorem dLaw_show_8 : decode cLaw_show 8 = .ok (.i2l, 1) := by decide +kernel
theorem dLaw_show_9 : decode cLaw_show 9 = .ok (.lastore, 1) := by decide +kernel
theorem dLaw_show_10 : decode cLaw_show 10 = .ok (.goto 11, 3) := by decide +kernel
theorem dLaw_show_13 : decode cLaw_show 13 = .ok (.astore 4, 2) := by decide +kernel
theorem dLaw_show_15 : decode cLaw_show 15 = .ok (.iconst 1, 1) := by decide +kernel
theorem dLaw_show_16 : decode cLaw_show 16 = .ok (.ireturn, 1) := by decide +kernel
theorem dLaw_show_17 : decode cLaw_show 17 = .ok (.astore 4, 2) := by decide +kernel
theorem dLaw_show_19 : decode cLaw_show 19 = .ok (.iconst 2, 1) := by decide +kernel
theorem dLaw_show_20 : decode cLaw_show 20 = .ok (.ireturn, 1) := by decide +kernel
theorem dLaw_show_21 : decode cLaw_show 21 = .ok (.iconst 0, 1) := by decide +kernel
theorem dLaw_show_22 : decode cLaw_show 22 = .ok (.ireturn, 1) := by decide +kernel
theorem dLaw_exit_0 : decode cLaw_exit 0 = .ok (.aload 4, 2) := by decide +kernel
theorem dLaw_exit_2 : decode cLaw_exit 2 = .ok (.iconst 0, 1) := by decide +kernel
theorem dLaw_exit_3 : decode cLaw_exit 3 = .ok (.aload_n 0, 1) := by decide +kernel
theorem dLaw_exit_4 : decode cLaw_exit 4 = .ok (.iload_n 1, 1) := by decide +kernel
theorem dLaw_exit_5 : decode cLaw_exit 5 = .ok (.iload_n 2, 1) := by decide +kernel
theorem dLaw_exit_6 : decode cLaw_exit 6 = .ok (.iload_n 3, 1) := by decide +kernel
theorem dLaw_exit_7 : decode cLaw_exit 7 = .ok (.invokevirtual 33, 3) := by decide +kernel
theorem dLaw_exit_10 : decode cLaw_exit 10 = .ok (.i2l, 1) := by decide +kernel
theorem dLaw_exit_11 : decode cLaw_exit 11 = .ok (.lastore, 1) := by decide +kernel
theorem dLaw_exit_12 : decode cLaw_exit 12 = .ok (.goto 15, 3) := by decide +kernel
theorem dLaw_exit_15 : decode cLaw_exit 15 = .ok (.astore 5, 2) := by decide +kernel
theorem dLaw_exit_17 : decode cLaw_exit 17 = .ok (.iconst 1, 1) := by decide +kernel
theorem dLaw_exit_18 : decode cLaw_exit 18 = .ok (.ireturn, 1) := by decide +kernel
theorem dLaw_exit_19 : decode cLaw_exit 19 = .ok (.astore 5, 2) := by decide +kernel
theorem dLaw_exit_21 : decode cLaw_exit 21 = .ok (.iconst 2, 1) := by decide +kernel
theorem dLaw_exit_22 : decode cLaw_exit 22 = .ok (.ireturn, 1) := by decide +kernel
theorem dLaw_exit_23 : decode cLaw_exit 23 = .ok (.astore 5, 2) := by decide +kernel
theorem dLaw_exit_25 : decode cLaw_exit 25 = .ok (.iconst 3, 1) := by decide +kernel
theorem dLaw_exit_26 : decode cLaw_exit 26 = .ok (.ireturn, 1) := by decide +kernel
theorem dLaw_exit_27 : decode cLaw_exit 27 = .ok (.iconst 0, 1) := by decide +kernel
theorem dLaw_exit_28 : decode cLaw_exit 28 = .ok (.ireturn, 1) := by decide +kernel
theorem dLaw_lock_0 : decode cLaw_lock 0 = .ok (.aload 4, 2) := by decide +kernel
theorem dLaw_lock_2 : decode cLaw_lock 2 = .ok (.iconst 0, 1) := by decide +kernel
theorem dLaw_lock_3 : decode cLaw_lock 3 = .ok (.aload_n 0, 1) := by decide +kernel
theorem dLaw_lock_4 : decode cLaw_lock 4 = .ok (.iload_n 1, 1) := by decide +kernel
theorem dLaw_lock_5 : decode cLaw_lock 5 = .ok (.iload_n 2, 1) := by decide +kernel
theorem dLaw_lock_6 : decode cLaw_lock 6 = .ok (.iload_n 3, 1) := by decide +kernel
theorem dLaw_lock_7 : decode cLaw_lock 7 = .ok (.invokevirtual 37, 3) := by decide +kernel
theorem dLaw_lock_10 : decode cLaw_lock 10 = .ok (.i2l, 1) := by decide +kernel
theorem dLaw_lock_11 : decode cLaw_lock 11 = .ok (.lastore, 1) := by decide +kernel
theorem dLaw_lock_12 : decode cLaw_lock 12 = .ok (.goto 19, 3) := by decide +kernel
theorem dLaw_lock_15 : decode cLaw_lock 15 = .ok (.astore 5, 2) := by decide +kernel
theorem dLaw_lock_17 : decode cLaw_lock 17 = .ok (.iconst 1, 1) := by decide +kernel
theorem dLaw_lock_18 : decode cLaw_lock 18 = .ok (.ireturn, 1) := by decide +kernel
theorem dLaw_lock_19 : decode cLaw_lock 19 = .ok (.astore 5, 2) := by decide +kernel
theorem dLaw_lock_21 : decode cLaw_lock 21 = .ok (.iconst 2, 1) := by decide +kernel
theorem dLaw_lock_22 : decode cLaw_lock 22 = .ok (.ireturn, 1) := by decide +kernel
theorem dLaw_lock_23 : decode cLaw_lock 23 = .ok (.astore 5, 2) := by decide +kernel
theorem dLaw_lock_25 : decode cLaw_lock 25 = .ok (.iconst 3, 1) := by decide +kernel
theorem dLaw_lock_26 : decode cLaw_lock 26 = .ok (.ireturn, 1) := by decide +kernel
theorem dLaw_lock_27 : decode cLaw_lock 27 = .ok (.astore 5, 2) := by decide +kernel
theorem dLaw_lock_29 : decode cLaw_lock 29 = .ok (.iconst 4, 1) := by decide +kernel
theorem dLaw_lock_30 : decode cLaw_lock 30 = .ok (.ireturn, 1) := by decide +kernel
theorem dLaw_lock_31 : decode cLaw_lock 31 = .ok (.iconst 0, 1) := by decide +kernel
theorem dLaw_lock_32 : decode cLaw_lock 32 = .ok (.ireturn, 1) := by decide +kernel
theorem dLaw_thing_0 : decode cLaw_thing 0 = .ok (.aload 5, 2) := by decide +kernel
theorem dLaw_thing_2 : decode cLaw_thing 2 = .ok (.iconst 0, 1) := by decide +kernel
theorem dLaw_thing_3 : decode cLaw_thing 3 = .ok (.aload_n 0, 1) := by decide +kernel
theorem dLaw_thing_4 : decode cLaw_thing 4 = .ok (.iload_n 1, 1) := by decide +kernel
theorem dLaw_thing_5 : decode cLaw_thing 5 = .ok (.iload_n 2, 1) := by decide +kernel
theorem dLaw_thing_6 : decode cLaw_thing 6 = .ok (.iload_n 3, 1) := by decide +kernel
theorem dLaw_thing_7 : decode cLaw_thing 7 = .ok (.iload 4, 2) := by decide +kernel
theorem dLaw_thing_9 : decode cLaw_thing 9 = .ok (.invokevirtual 40, 3) := by decide +kernel
theorem dLaw_thing_12 : decode cLaw_thing 12 = .ok (.i2l, 1) := by decide +kernel
theorem dLaw_thing_13 : decode cLaw_thing 13 = .ok (.lastore, 1) := by decide +kernel
theorem dLaw_thing_14 : decode cLaw_thing 14 = .ok (.goto 19, 3) := by decide +kernel
theorem dLaw_thing_17 : decode cLaw_thing 17 = .ok (.astore 6, 2) := by decide +kernel
theorem dLaw_thing_19 : decode cLaw_thing 19 = .ok (.iconst 1, 1) := by decide +kernel
theorem dLaw_thing_20 : decode cLaw_thing 20 = .ok (.ireturn, 1) := by decide +kernel
theorem dLaw_thing_21 : decode cLaw_thing 21 = .ok (.astore 6, 2) := by decide +kernel
theorem dLaw_thing_23 : decode cLaw_thing 23 = .ok (.iconst 2, 1) := by decide +kernel
theorem dLaw_thing_24 : decode cLaw_thing 24 = .ok (.ireturn, 1) := by decide +kernel
theorem dLaw_thing_25 : decode cLaw_thing 25 = .ok (.astore 6, 2) := by decide +kernel
theorem dLaw_thing_27 : decode cLaw_thing 27 = .ok (.iconst 3, 1) := by decide +kernel
theorem dLaw_thing_28 : decode cLaw_thing 28 = .ok (.ireturn, 1) := by decide +kernel
theorem dLaw_thing_29 : decode cLaw_thing 29 = .ok (.astore 6, 2) := by decide +kernel
theorem dLaw_thing_31 : decode cLaw_thing 31 = .ok (.iconst 4, 1) := by decide +kernel
theorem dLaw_thing_32 : decode cLaw_thing 32 = .ok (.ireturn, 1) := by decide +kernel
theorem dLaw_thing_33 : decode cLaw_thing 33 = .ok (.iconst 0, 1) := by decide +kernel
theorem dLaw_thing_34 : decode cLaw_thing 34 = .ok (.ireturn, 1) := by decide +kernel
theorem dLaw_fuel_0 : decode cLaw_fuel 0 = .ok (.aload_n 3, 1) := by decide +kernel
theorem dLaw_fuel_1 : decode cLaw_fuel 1 = .ok (.iconst 0, 1) := by decide +kernel
theorem dLaw_fuel_2 : decode cLaw_fuel 2 = .ok (.aload_n 0, 1) := by decide +kernel
theorem dLaw_fuel_3 : decode cLaw_fuel 3 = .ok (.iload_n 1, 1) := by decide +kernel
theorem dLaw_fuel_4 : decode cLaw_fuel 4 = .ok (.iload_n 2, 1) := by decide +kernel
theorem dLaw_fuel_5 : decode cLaw_fuel 5 = .ok (.invokevirtual 44, 3) := by decide +kernel
theorem dLaw_fuel_8 : decode cLaw_fuel 8 = .ok (.i2l, 1) := by decide +kernel
theorem dLaw_fuel_9 : decode cLaw_fuel 9 = .ok (.lastore, 1) := by decide +kernel
theorem dLaw_fuel_10 : decode cLaw_fuel 10 = .ok (.goto 19, 3) := by decide +kernel
theorem dLaw_fuel_13 : decode cLaw_fuel 13 = .ok (.astore 4, 2) := by decide +kernel
theorem dLaw_fuel_15 : decode cLaw_fuel 15 = .ok (.iconst 1, 1) := by decide +kernel
theorem dLaw_fuel_16 : decode cLaw_fuel 16 = .ok (.ireturn, 1) := by decide +kernel
theorem dLaw_fuel_17 : decode cLaw_fuel 17 = .ok (.astore 4, 2) := by decide +kernel
theorem dLaw_fuel_19 : decode cLaw_fuel 19 = .ok (.iconst 2, 1) := by decide +kernel
theorem dLaw_fuel_20 : decode cLaw_fuel 20 = .ok (.ireturn, 1) := by decide +kernel
theorem dLaw_fuel_21 : decode cLaw_fuel 21 = .ok (.astore 4, 2) := by decide +kernel
theorem dLaw_fuel_23 : decode cLaw_fuel 23 = .ok (.iconst 3, 1) := by decide +kernel
theorem dLaw_fuel_24 : decode cLaw_fuel 24 = .ok (.ireturn, 1) := by decide +kernel
theorem dLaw_fuel_25 : decode cLaw_fuel 25 = .ok (.astore 4, 2) := by decide +kernel
theorem dLaw_fuel_27 : decode cLaw_fuel 27 = .ok (.iconst 4, 1) := by decide +kernel
theorem dLaw_fuel_28 : decode cLaw_fuel 28 = .ok (.ireturn, 1) := by decide +kernel
theorem dLaw_fuel_29 : decode cLaw_fuel 29 = .ok (.iconst 0, 1) := by decide +kernel
theorem dLaw_fuel_30 : decode cLaw_fuel 30 = .ok (.ireturn, 1) := by decide +kernel
theorem dLaw_tell_0 : decode cLaw_tell 0 = .ok (.aload_n 3, 1) := by decide +kernel
theorem dLaw_tell_1 : decode cLaw_tell 1 = .ok (.iconst 0, 1) := by decide +kernel
theorem dLaw_tell_2 : decode cLaw_tell 2 = .ok (.aload_n 0, 1) := by decide +kernel
theorem dLaw_tell_3 : decode cLaw_tell 3 = .ok (.iload_n 1, 1) := by decide +kernel
theorem dLaw_tell_4 : decode cLaw_tell 4 = .ok (.iload_n 2, 1) := by decide +kernel
theorem dLaw_tell_5 : decode cLaw_tell 5 = .ok (.invokevirtual 47, 3) := by decide +kernel
theorem dLaw_tell_8 : decode cLaw_tell 8 = .ok (.i2l, 1) := by decide +kernel
theorem dLaw_tell_9 : decode cLaw_tell 9 = .ok (.lastore, 1) := by decide +kernel
theorem dLaw_tell_10 : decode cLaw_tell 10 = .ok (.goto 11, 3) := by decide +kernel
theorem dLaw_tell_13 : decode cLaw_tell 13 = .ok (.astore 4, 2) := by decide +kernel
theorem dLaw_tell_15 : decode cLaw_tell 15 = .ok (.iconst 1, 1) := by decide +kernel
theorem dLaw_tell_16 : decode cLaw_tell 16 = .ok (.ireturn, 1) := by decide +kernel
theorem dLaw_tell_17 : decode cLaw_tell 17 = .ok (.astore 4, 2) := by decide +kernel
theorem dLaw_tell_19 : decode cLaw_tell 19 = .ok (.iconst 2, 1) := by decide +kernel
theorem dLaw_tell_20 : decode cLaw_tell 20 = .ok (.ireturn, 1) := by decide +kernel
theorem dLaw_tell_21 : decode cLaw_tell 21 = .ok (.iconst 0, 1) := by decide +kernel
theorem dLaw_tell_22 : decode cLaw_tell 22 = .ok (.ireturn, 1) := by decide +kernel
theorem dLaw_goal_0 : decode cLaw_goal 0 = .ok (.aload_n 3, 1) := by decide +kernel
theorem dLaw_goal_1 : decode cLaw_goal 1 = .ok (.iconst 0, 1) := by decide +kernel
theorem dLaw_goal_2 : decode cLaw_goal 2 = .ok (.aload_n 0, 1) := by decide +kernel
theorem dLaw_goal_3 : decode cLaw_goal 3 = .ok (.iload_n 1, 1) := by decide +kernel
theorem dLaw_goal_4 : decode cLaw_goal 4 = .ok (.iload_n 2, 1) := by decide +kernel
theorem dLaw_goal_5 : decode cLaw_goal 5 = .ok (.invokevirtual 50, 3) := by decide +kernel
theorem dLaw_goal_8 : decode cLaw_goal 8 = .ok (.i2l, 1) := by decide +kernel
theorem dLaw_goal_9 : decode cLaw_goal 9 = .ok (.lastore, 1) := by decide +kernel
theorem dLaw_goal_10 : decode cLaw_goal 10 = .ok (.goto 11, 3) := by decide +kernel
theorem dLaw_goal_13 : decode cLaw_goal 13 = .ok (.astore 4, 2) := by decide +kernel
theorem dLaw_goal_15 : decode cLaw_goal 15 = .ok (.iconst 1, 1) := by decide +kernel
theorem dLaw_goal_16 : decode cLaw_goal 16 = .ok (.ireturn, 1) := by decide +kernel
theorem dLaw_goal_17 : decode cLaw_goal 17 = .ok (.astore 4, 2) := by decide +kernel
theorem dLaw_goal_19 : decode cLaw_goal 19 = .ok (.iconst 2, 1) := by decide +kernel
theorem dLaw_goal_20 : decode cLaw_goal 20 = .ok (.ireturn, 1) := by decide +kernel
theorem dLaw_goal_21 : decode cLaw_goal 21 = .ok (.iconst 0, 1) := by decide +kernel
theorem dLaw_goal_22 : decode cLaw_goal 22 = .ok (.ireturn, 1) := by decide +kernel
theorem dLaw_hint_0 : decode cLaw_hint 0 = .ok (.aload_n 2, 1) := by decide +kernel
theorem dLaw_hint_1 : decode cLaw_hint 1 = .ok (.iconst 0, 1) := by decide +kernel
theorem dLaw_hint_2 : decode cLaw_hint 2 = .ok (.aload_n 0, 1) := by decide +kernel
theorem dLaw_hint_3 : decode cLaw_hint 3 = .ok (.iload_n 1, 1) := by decide +kernel
theorem dLaw_hint_4 : decode cLaw_hint 4 = .ok (.invokevirtual 53, 3) := by decide +kernel
theorem dLaw_hint_7 : decode cLaw_hint 7 = .ok (.i2l, 1) := by decide +kernel
theorem dLaw_hint_8 : decode cLaw_hint 8 = .ok (.lastore, 1) := by decide +kernel
theorem dLaw_hint_9 : decode cLaw_hint 9 = .ok (.goto 9, 3) := by decide +kernel
theorem dLaw_hint_12 : decode cLaw_hint 12 = .ok (.astore_n 3, 1) := by decide +kernel
theorem dLaw_hint_13 : decode cLaw_hint 13 = .ok (.iconst 1, 1) := by decide +kernel
theorem dLaw_hint_14 : decode cLaw_hint 14 = .ok (.ireturn, 1) := by decide +kernel
theorem dLaw_hint_15 : decode cLaw_hint 15 = .ok (.astore_n 3, 1) := by decide +kernel
theorem dLaw_hint_16 : decode cLaw_hint 16 = .ok (.iconst 2, 1) := by decide +kernel
theorem dLaw_hint_17 : decode cLaw_hint 17 = .ok (.ireturn, 1) := by decide +kernel
theorem dLaw_hint_18 : decode cLaw_hint 18 = .ok (.iconst 0, 1) := by decide +kernel
theorem dLaw_hint_19 : decode cLaw_hint 19 = .ok (.ireturn, 1) := by decide +kernel
theorem dLaw_teach_0 : decode cLaw_teach 0 = .ok (.aload_n 3, 1) := by decide +kernel
theorem dLaw_teach_1 : decode cLaw_teach 1 = .ok (.iconst 0, 1) := by decide +kernel
theorem dLaw_teach_2 : decode cLaw_teach 2 = .ok (.aload_n 0, 1) := by decide +kernel
theorem dLaw_teach_3 : decode cLaw_teach 3 = .ok (.iload_n 1, 1) := by decide +kernel
theorem dLaw_teach_4 : decode cLaw_teach 4 = .ok (.iload_n 2, 1) := by decide +kernel
theorem dLaw_teach_5 : decode cLaw_teach 5 = .ok (.invokevirtual 57, 3) := by decide +kernel
theorem dLaw_teach_8 : decode cLaw_teach 8 = .ok (.i2l, 1) := by decide +kernel
theorem dLaw_teach_9 : decode cLaw_teach 9 = .ok (.lastore, 1) := by decide +kernel
theorem dLaw_teach_10 : decode cLaw_teach 10 = .ok (.goto 15, 3) := by decide +kernel
theorem dLaw_teach_13 : decode cLaw_teach 13 = .ok (.astore 4, 2) := by decide +kernel
theorem dLaw_teach_15 : decode cLaw_teach 15 = .ok (.iconst 1, 1) := by decide +kernel
theorem dLaw_teach_16 : decode cLaw_teach 16 = .ok (.ireturn, 1) := by decide +kernel
theorem dLaw_teach_17 : decode cLaw_teach 17 = .ok (.astore 4, 2) := by decide +kernel
theorem dLaw_teach_19 : decode cLaw_teach 19 = .ok (.iconst 2, 1) := by decide +kernel
theorem dLaw_teach_20 : decode cLaw_teach 20 = .ok (.ireturn, 1) := by decide +kernel
theorem dLaw_teach_21 : decode cLaw_teach 21 = .ok (.astore 4, 2) := by decide +kernel
theorem dLaw_teach_23 : decode cLaw_teach 23 = .ok (.iconst 3, 1) := by decide +kernel
theorem dLaw_teach_24 : decode cLaw_teach 24 = .ok (.ireturn, 1) := by decide +kernel
theorem dLaw_teach_25 : decode cLaw_teach 25 = .ok (.iconst 0, 1) := by decide +kernel
theorem dLaw_teach_26 : decode cLaw_teach 26 = .ok (.ireturn, 1) := by decide +kernel
theorem dLaw_begin_0 : decode cLaw_begin 0 = .ok (.aload_n 2, 1) := by decide +kernel
theorem dLaw_begin_1 : decode cLaw_begin 1 = .ok (.iconst 0, 1) := by decide +kernel
theorem dLaw_begin_2 : decode cLaw_begin 2 = .ok (.aload_n 0, 1) := by decide +kernel
theorem dLaw_begin_3 : decode cLaw_begin 3 = .ok (.iload_n 1, 1) := by decide +kernel
theorem dLaw_begin_4 : decode cLaw_begin 4 = .ok (.invokevirtual 60, 3) := by decide +kernel
theorem dLaw_begin_7 : decode cLaw_begin 7 = .ok (.i2l, 1) := by decide +kernel
theorem dLaw_begin_8 : decode cLaw_begin 8 = .ok (.lastore, 1) := by decide +kernel
theorem dLaw_begin_9 : decode cLaw_begin 9 = .ok (.goto 9, 3) := by decide +kernel
theorem dLaw_begin_12 : decode cLaw_begin 12 = .ok (.astore_n 3, 1) := by decide +kernel
theorem dLaw_begin_13 : decode cLaw_begin 13 = .ok (.iconst 1, 1) := by decide +kernel
theorem dLaw_begin_14 : decode cLaw_begin 14 = .ok (.ireturn, 1) := by decide +kernel
theorem dLaw_begin_15 : decode cLaw_begin 15 = .ok (.astore_n 3, 1) := by decide +kernel
theorem dLaw_begin_16 : decode cLaw_begin 16 = .ok (.iconst 2, 1) := by decide +kernel
theorem dLaw_begin_17 : decode cLaw_begin 17 = .ok (.ireturn, 1) := by decide +kernel
theorem dLaw_begin_18 : decode cLaw_begin 18 = .ok (.iconst 0, 1) := by decide +kernel
theorem dLaw_begin_19 : decode cLaw_begin 19 = .ok (.ireturn, 1) := by decide +kernel
theorem dLaw_say_0 : decode cLaw_say 0 = .ok (.aload_n 1, 1) := by decide +kernel
theorem dLaw_say_1 : decode cLaw_say 1 = .ok (.iconst 0, 1) := by decide +kernel
theorem dLaw_say_2 : decode cLaw_say 2 = .ok (.aload_n 0, 1) := by decide +kernel
theorem dLaw_say_3 : decode cLaw_say 3 = .ok (.invokevirtual 63, 3) := by decide +kernel
theorem dLaw_say_6 : decode cLaw_say 6 = .ok (.i2l, 1) := by decide +kernel
theorem dLaw_say_7 : decode cLaw_say 7 = .ok (.lastore, 1) := by decide +kernel
theorem dLaw_say_8 : decode cLaw_say 8 = .ok (.goto 6, 3) := by decide +kernel
theorem dLaw_say_11 : decode cLaw_say 11 = .ok (.astore_n 2, 1) := by decide +kernel
theorem dLaw_say_12 : decode cLaw_say 12 = .ok (.iconst 1, 1) := by decide +kernel
theorem dLaw_say_13 : decode cLaw_say 13 = .ok (.ireturn, 1) := by decide +kernel
theorem dLaw_say_14 : decode cLaw_say 14 = .ok (.iconst 0, 1) := by decide +kernel
theorem dLaw_say_15 : decode cLaw_say 15 = .ok (.ireturn, 1) := by decide +kernel
theorem dLaw_at_0 : decode cLaw_at 0 = .ok (.aload_n 1, 1) := by decide +kernel
theorem dLaw_at_1 : decode cLaw_at 1 = .ok (.iconst 0, 1) := by decide +kernel
theorem dLaw_at_2 : decode cLaw_at 2 = .ok (.aload_n 0, 1) := by decide +kernel
theorem dLaw_at_3 : decode cLaw_at 3 = .ok (.invokevirtual 67, 3) := by decide +kernel
theorem dLaw_at_6 : decode cLaw_at 6 = .ok (.i2l, 1) := by decide +kernel
theorem dLaw_at_7 : decode cLaw_at 7 = .ok (.lastore, 1) := by decide +kernel
theorem dLaw_at_8 : decode cLaw_at 8 = .ok (.goto 6, 3) := by decide +kernel
theorem dLaw_at_11 : decode cLaw_at 11 = .ok (.astore_n 2, 1) := by decide +kernel
theorem dLaw_at_12 : decode cLaw_at 12 = .ok (.iconst 1, 1) := by decide +kernel
theorem dLaw_at_13 : decode cLaw_at 13 = .ok (.ireturn, 1) := by decide +kernel
theorem dLaw_at_14 : decode cLaw_at 14 = .ok (.iconst 0, 1) := by decide +kernel
theorem dLaw_at_15 : decode cLaw_at 15 = .ok (.ireturn, 1) := by decide +kernel
theorem dLaw_place_0 : decode cLaw_place 0 = .ok (.aload_n 2, 1) := by decide +kernel
theorem dLaw_place_1 : decode cLaw_place 1 = .ok (.iconst 0, 1) := by decide +kernel
theorem dLaw_place_2 : decode cLaw_place 2 = .ok (.aload_n 0, 1) := by decide +kernel
theorem dLaw_place_3 : decode cLaw_place 3 = .ok (.iload_n 1, 1) := by decide +kernel
theorem dLaw_place_4 : decode cLaw_place 4 = .ok (.invokevirtual 70, 3) := by decide +kernel
theorem dLaw_place_7 : decode cLaw_place 7 = .ok (.i2l, 1) := by decide +kernel
theorem dLaw_place_8 : decode cLaw_place 8 = .ok (.lastore, 1) := by decide +kernel
theorem dLaw_place_9 : decode cLaw_place 9 = .ok (.goto 9, 3) := by decide +kernel
theorem dLaw_place_12 : decode cLaw_place 12 = .ok (.astore_n 3, 1) := by decide +kernel
theorem dLaw_place_13 : decode cLaw_place 13 = .ok (.iconst 1, 1) := by decide +kernel
theorem dLaw_place_14 : decode cLaw_place 14 = .ok (.ireturn, 1) := by decide +kernel
theorem dLaw_place_15 : decode cLaw_place 15 = .ok (.astore_n 3, 1) := by decide +kernel
theorem dLaw_place_16 : decode cLaw_place 16 = .ok (.iconst 2, 1) := by decide +kernel
theorem dLaw_place_17 : decode cLaw_place 17 = .ok (.ireturn, 1) := by decide +kernel
theorem dLaw_place_18 : decode cLaw_place 18 = .ok (.iconst 0, 1) := by decide +kernel
theorem dLaw_place_19 : decode cLaw_place 19 = .ok (.ireturn, 1) := by decide +kernel
theorem dLaw_isOpen_0 : decode cLaw_isOpen 0 = .ok (.aload_n 2, 1) := by decide +kernel
theorem dLaw_isOpen_1 : decode cLaw_isOpen 1 = .ok (.iconst 0, 1) := by decide +kernel
theorem dLaw_isOpen_2 : decode cLaw_isOpen 2 = .ok (.aload_n 0, 1) := by decide +kernel
theorem dLaw_isOpen_3 : decode cLaw_isOpen 3 = .ok (.iload_n 1, 1) := by decide +kernel
theorem dLaw_isOpen_4 : decode cLaw_isOpen 4 = .ok (.invokevirtual 73, 3) := by decide +kernel
theorem dLaw_isOpen_7 : decode cLaw_isOpen 7 = .ok (.ifCond .eq 7, 3) := by decide +kernel
theorem dLaw_isOpen_10 : decode cLaw_isOpen 10 = .ok (.lconst 1, 1) := by decide +kernel
theorem dLaw_isOpen_11 : decode cLaw_isOpen 11 = .ok (.goto 4, 3) := by decide +kernel
theorem dLaw_isOpen_14 : decode cLaw_isOpen 14 = .ok (.lconst 0, 1) := by decide +kernel
theorem dLaw_isOpen_15 : decode cLaw_isOpen 15 = .ok (.lastore, 1) := by decide +kernel
theorem dLaw_isOpen_16 : decode cLaw_isOpen 16 = .ok (.goto 12, 3) := by decide +kernel
theorem dLaw_isOpen_19 : decode cLaw_isOpen 19 = .ok (.astore_n 3, 1) := by decide +kernel
theorem dLaw_isOpen_20 : decode cLaw_isOpen 20 = .ok (.iconst 1, 1) := by decide +kernel
theorem dLaw_isOpen_21 : decode cLaw_isOpen 21 = .ok (.ireturn, 1) := by decide +kernel
theorem dLaw_isOpen_22 : decode cLaw_isOpen 22 = .ok (.astore_n 3, 1) := by decide +kernel
theorem dLaw_isOpen_23 : decode cLaw_isOpen 23 = .ok (.iconst 2, 1) := by decide +kernel
theorem dLaw_isOpen_24 : decode cLaw_isOpen 24 = .ok (.ireturn, 1) := by decide +kernel
theorem dLaw_isOpen_25 : decode cLaw_isOpen 25 = .ok (.astore_n 3, 1) := by decide +kernel
theorem dLaw_isOpen_26 : decode cLaw_isOpen 26 = .ok (.iconst 3, 1) := by decide +kernel
theorem dLaw_isOpen_27 : decode cLaw_isOpen 27 = .ok (.ireturn, 1) := by decide +kernel
theorem dLaw_isOpen_28 : decode cLaw_isOpen 28 = .ok (.iconst 0, 1) := by decide +kernel
theorem dLaw_isOpen_29 : decode cLaw_isOpen 29 = .ok (.ireturn, 1) := by decide +kernel
theorem dLaw_lit_0 : decode cLaw_lit 0 = .ok (.aload_n 2, 1) := by decide +kernel
theorem dLaw_lit_1 : decode cLaw_lit 1 = .ok (.iconst 0, 1) := by decide +kernel
theorem dLaw_lit_2 : decode cLaw_lit 2 = .ok (.aload_n 0, 1) := by decide +kernel
theorem dLaw_lit_3 : decode cLaw_lit 3 = .ok (.iload_n 1, 1) := by decide +kernel
theorem dLaw_lit_4 : decode cLaw_lit 4 = .ok (.invokevirtual 77, 3) := by decide +kernel
theorem dLaw_lit_7 : decode cLaw_lit 7 = .ok (.i2l, 1) := by decide +kernel
theorem dLaw_lit_8 : decode cLaw_lit 8 = .ok (.lastore, 1) := by decide +kernel
theorem dLaw_lit_9 : decode cLaw_lit 9 = .ok (.goto 12, 3) := by decide +kernel
theorem dLaw_lit_12 : decode cLaw_lit 12 = .ok (.astore_n 3, 1) := by decide +kernel
theorem dLaw_lit_13 : decode cLaw_lit 13 = .ok (.iconst 1, 1) := by decide +kernel
theorem dLaw_lit_14 : decode cLaw_lit 14 = .ok (.ireturn, 1) := by decide +kernel
theorem dLaw_lit_15 : decode cLaw_lit 15 = .ok (.astore_n 3, 1) := by decide +kernel
theorem dLaw_lit_16 : decode cLaw_lit 16 = .ok (.iconst 2, 1) := by decide +kernel
theorem dLaw_lit_17 : decode cLaw_lit 17 = .ok (.ireturn, 1) := by decide +kernel
theorem dLaw_lit_18 : decode cLaw_lit 18 = .ok (.astore_n 3, 1) := by decide +kernel
theorem dLaw_lit_19 : decode cLaw_lit 19 = .ok (.iconst 3, 1) := by decide +kernel
theorem dLaw_lit_20 : decode cLaw_lit 20 = .ok (.ireturn, 1) := by decide +kernel
theorem dLaw_lit_21 : decode cLaw_lit 21 = .ok (.iconst 0, 1) := by decide +kernel
theorem dLaw_lit_22 : decode cLaw_lit 22 = .ok (.ireturn, 1) := by decide +kernel
theorem dLaw_isBright_0 : decode cLaw_isBright 0 = .ok (.aload_n 1, 1) := by decide +kernel
theorem dLaw_isBright_1 : decode cLaw_isBright 1 = .ok (.iconst 0, 1) := by decide +kernel
theorem dLaw_isBright_2 : decode cLaw_isBright 2 = .ok (.aload_n 0, 1) := by decide +kernel
theorem dLaw_isBright_3 : decode cLaw_isBright 3 = .ok (.invokevirtual 80, 3) := by decide +kernel
theorem dLaw_isBright_6 : decode cLaw_isBright 6 = .ok (.ifCond .eq 7, 3) := by decide +kernel
theorem dLaw_isBright_9 : decode cLaw_isBright 9 = .ok (.lconst 1, 1) := by decide +kernel
theorem dLaw_isBright_10 : decode cLaw_isBright 10 = .ok (.goto 4, 3) := by decide +kernel
theorem dLaw_isBright_13 : decode cLaw_isBright 13 = .ok (.lconst 0, 1) := by decide +kernel
theorem dLaw_isBright_14 : decode cLaw_isBright 14 = .ok (.lastore, 1) := by decide +kernel
theorem dLaw_isBright_15 : decode cLaw_isBright 15 = .ok (.goto 6, 3) := by decide +kernel
theorem dLaw_isBright_18 : decode cLaw_isBright 18 = .ok (.astore_n 2, 1) := by decide +kernel
theorem dLaw_isBright_19 : decode cLaw_isBright 19 = .ok (.iconst 1, 1) := by decide +kernel
theorem dLaw_isBright_20 : decode cLaw_isBright 20 = .ok (.ireturn, 1) := by decide +kernel
theorem dLaw_isBright_21 : decode cLaw_isBright 21 = .ok (.iconst 0, 1) := by decide +kernel
theorem dLaw_isBright_22 : decode cLaw_isBright 22 = .ok (.ireturn, 1) := by decide +kernel
theorem dLaw_weight_0 : decode cLaw_weight 0 = .ok (.aload_n 1, 1) := by decide +kernel
theorem dLaw_weight_1 : decode cLaw_weight 1 = .ok (.iconst 0, 1) := by decide +kernel
theorem dLaw_weight_2 : decode cLaw_weight 2 = .ok (.aload_n 0, 1) := by decide +kernel
theorem dLaw_weight_3 : decode cLaw_weight 3 = .ok (.invokevirtual 84, 3) := by decide +kernel
theorem dLaw_weight_6 : decode cLaw_weight 6 = .ok (.i2l, 1) := by decide +kernel
theorem dLaw_weight_7 : decode cLaw_weight 7 = .ok (.lastore, 1) := by decide +kernel
theorem dLaw_weight_8 : decode cLaw_weight 8 = .ok (.goto 6, 3) := by decide +kernel
theorem dLaw_weight_11 : decode cLaw_weight 11 = .ok (.astore_n 2, 1) := by decide +kernel
theorem dLaw_weight_12 : decode cLaw_weight 12 = .ok (.iconst 1, 1) := by decide +kernel
theorem dLaw_weight_13 : decode cLaw_weight 13 = .ok (.ireturn, 1) := by decide +kernel
theorem dLaw_weight_14 : decode cLaw_weight 14 = .ok (.iconst 0, 1) := by decide +kernel
theorem dLaw_weight_15 : decode cLaw_weight 15 = .ok (.ireturn, 1) := by decide +kernel
theorem dLaw_node_0 : decode cLaw_node 0 = .ok (.aload_n 1, 1) := by decide +kernel
theorem dLaw_node_1 : decode cLaw_node 1 = .ok (.iconst 0, 1) := by decide +kernel
theorem dLaw_node_2 : decode cLaw_node 2 = .ok (.aload_n 0, 1) := by decide +kernel
theorem dLaw_node_3 : decode cLaw_node 3 = .ok (.invokevirtual 87, 3) := by decide +kernel
theorem dLaw_node_6 : decode cLaw_node 6 = .ok (.i2l, 1) := by decide +kernel
theorem dLaw_node_7 : decode cLaw_node 7 = .ok (.lastore, 1) := by decide +kernel
theorem dLaw_node_8 : decode cLaw_node 8 = .ok (.goto 6, 3) := by decide +kernel
theorem dLaw_node_11 : decode cLaw_node 11 = .ok (.astore_n 2, 1) := by decide +kernel
theorem dLaw_node_12 : decode cLaw_node 12 = .ok (.iconst 1, 1) := by decide +kernel
theorem dLaw_node_13 : decode cLaw_node 13 = .ok (.ireturn, 1) := by decide +kernel
theorem dLaw_node_14 : decode cLaw_node 14 = .ok (.iconst 0, 1) := by decide +kernel
theorem dLaw_node_15 : decode cLaw_node 15 = .ok (.ireturn, 1) := by decide +kernel
theorem dLaw_nodes_0 : decode cLaw_nodes 0 = .ok (.aload_n 1, 1) := by decide +kernel
theorem dLaw_nodes_1 : decode cLaw_nodes 1 = .ok (.iconst 0, 1) := by decide +kernel
theorem dLaw_nodes_2 : decode cLaw_nodes 2 = .ok (.aload_n 0, 1) := by decide +kernel
theorem dLaw_nodes_3 : decode cLaw_nodes 3 = .ok (.invokevirtual 90, 3) := by decide +kernel
theorem dLaw_nodes_6 : decode cLaw_nodes 6 = .ok (.i2l, 1) := by decide +kernel
theorem dLaw_nodes_7 : decode cLaw_nodes 7 = .ok (.lastore, 1) := by decide +kernel
theorem dLaw_nodes_8 : decode cLaw_nodes 8 = .ok (.goto 6, 3) := by decide +kernel
theorem dLaw_nodes_11 : decode cLaw_nodes 11 = .ok (.astore_n 2, 1) := by decide +kernel
theorem dLaw_nodes_12 : decode cLaw_nodes 12 = .ok (.iconst 1, 1) := by decide +kernel
theorem dLaw_nodes_13 : decode cLaw_nodes 13 = .ok (.ireturn, 1) := by decide +kernel
theorem dLaw_nodes_14 : decode cLaw_nodes 14 = .ok (.iconst 0, 1) := by decide +kernel
theorem dLaw_nodes_15 : decode cLaw_nodes 15 = .ok (.ireturn, 1) := by decide +kernel
theorem dLaw_parent_0 : decode cLaw_parent 0 = .ok (.aload_n 2, 1) := by decide +kernel
theorem dLaw_parent_1 : decode cLaw_parent 1 = .ok (.iconst 0, 1) := by decide +kernel
theorem dLaw_parent_2 : decode cLaw_parent 2 = .ok (.aload_n 0, 1) := by decide +kernel
theorem dLaw_parent_3 : decode cLaw_parent 3 = .ok (.iload_n 1, 1) := by decide +kernel
theorem dLaw_parent_4 : decode cLaw_parent 4 = .ok (.invokevirtual 93, 3) := by decide +kernel
theorem dLaw_parent_7 : decode cLaw_parent 7 = .ok (.i2l, 1) := by decide +kernel
theorem dLaw_parent_8 : decode cLaw_parent 8 = .ok (.lastore, 1) := by decide +kernel
theorem dLaw_parent_9 : decode cLaw_parent 9 = .ok (.goto 9, 3) := by decide +kernel
theorem dLaw_parent_12 : decode cLaw_parent 12 = .ok (.astore_n 3, 1) := by decide +kernel
theorem dLaw_parent_13 : decode cLaw_parent 13 = .ok (.iconst 1, 1) := by decide +kernel
theorem dLaw_parent_14 : decode cLaw_parent 14 = .ok (.ireturn, 1) := by decide +kernel
theorem dLaw_parent_15 : decode cLaw_parent 15 = .ok (.astore_n 3, 1) := by decide +kernel
theorem dLaw_parent_16 : decode cLaw_parent 16 = .ok (.iconst 2, 1) := by decide +kernel
theorem dLaw_parent_17 : decode cLaw_parent 17 = .ok (.ireturn, 1) := by decide +kernel
theorem dLaw_parent_18 : decode cLaw_parent 18 = .ok (.iconst 0, 1) := by decide +kernel
theorem dLaw_parent_19 : decode cLaw_parent 19 = .ok (.ireturn, 1) := by decide +kernel
theorem dLaw_depth_0 : decode cLaw_depth 0 = .ok (.aload_n 2, 1) := by decide +kernel
theorem dLaw_depth_1 : decode cLaw_depth 1 = .ok (.iconst 0, 1) := by decide +kernel
theorem dLaw_depth_2 : decode cLaw_depth 2 = .ok (.aload_n 0, 1) := by decide +kernel
theorem dLaw_depth_3 : decode cLaw_depth 3 = .ok (.iload_n 1, 1) := by decide +kernel
theorem dLaw_depth_4 : decode cLaw_depth 4 = .ok (.invokevirtual 98, 3) := by decide +kernel
theorem dLaw_depth_7 : decode cLaw_depth 7 = .ok (.i2l, 1) := by decide +kernel
theorem dLaw_depth_8 : decode cLaw_depth 8 = .ok (.lastore, 1) := by decide +kernel
theorem dLaw_depth_9 : decode cLaw_depth 9 = .ok (.goto 6, 3) := by decide +kernel
theorem dLaw_depth_12 : decode cLaw_depth 12 = .ok (.astore_n 3, 1) := by decide +kernel
theorem dLaw_depth_13 : decode cLaw_depth 13 = .ok (.iconst 1, 1) := by decide +kernel
theorem dLaw_depth_14 : decode cLaw_depth 14 = .ok (.ireturn, 1) := by decide +kernel
theorem dLaw_depth_15 : decode cLaw_depth 15 = .ok (.iconst 0, 1) := by decide +kernel
theorem dLaw_depth_16 : decode cLaw_depth 16 = .ok (.ireturn, 1) := by decide +kernel
theorem dLaw_children_0 : decode cLaw_children 0 = .ok (.aload_n 2, 1) := by decide +kernel
theorem dLaw_children_1 : decode cLaw_children 1 = .ok (.iconst 0, 1) := by decide +kernel
theorem dLaw_children_2 : decode cLaw_children 2 = .ok (.aload_n 0, 1) := by decide +kernel
theorem dLaw_children_3 : decode cLaw_children 3 = .ok (.iload_n 1, 1) := by decide +kernel
theorem dLaw_children_4 : decode cLaw_children 4 = .ok (.invokevirtual 101, 3) := by decide +kernel
theorem dLaw_children_7 : decode cLaw_children 7 = .ok (.i2l, 1) := by decide +kernel
theorem dLaw_children_8 : decode cLaw_children 8 = .ok (.lastore, 1) := by decide +kernel
theorem dLaw_children_9 : decode cLaw_children 9 = .ok (.goto 6, 3) := by decide +kernel
theorem dLaw_children_12 : decode cLaw_children 12 = .ok (.astore_n 3, 1) := by decide +kernel
theorem dLaw_children_13 : decode cLaw_children 13 = .ok (.iconst 1, 1) := by decide +kernel
theorem dLaw_children_14 : decode cLaw_children 14 = .ok (.ireturn, 1) := by decide +kernel
theorem dLaw_children_15 : decode cLaw_children 15 = .ok (.iconst 0, 1) := by decide +kernel
theorem dLaw_children_16 : decode cLaw_children 16 = .ok (.ireturn, 1) := by decide +kernel
theorem dLaw_common_0 : decode cLaw_common 0 = .ok (.aload_n 3, 1) := by decide +kernel
theorem dLaw_common_1 : decode cLaw_common 1 = .ok (.iconst 0, 1) := by decide +kernel
theorem dLaw_common_2 : decode cLaw_common 2 = .ok (.aload_n 0, 1) := by decide +kernel
theorem dLaw_common_3 : decode cLaw_common 3 = .ok (.iload_n 1, 1) := by decide +kernel
theorem dLaw_common_4 : decode cLaw_common 4 = .ok (.iload_n 2, 1) := by decide +kernel
theorem dLaw_common_5 : decode cLaw_common 5 = .ok (.invokevirtual 104, 3) := by decide +kernel
theorem dLaw_common_8 : decode cLaw_common 8 = .ok (.i2l, 1) := by decide +kernel
theorem dLaw_common_9 : decode cLaw_common 9 = .ok (.lastore, 1) := by decide +kernel
theorem dLaw_common_10 : decode cLaw_common 10 = .ok (.goto 7, 3) := by decide +kernel
theorem dLaw_common_13 : decode cLaw_common 13 = .ok (.astore 4, 2) := by decide +kernel
theorem dLaw_common_15 : decode cLaw_common 15 = .ok (.iconst 1, 1) := by decide +kernel
theorem dLaw_common_16 : decode cLaw_common 16 = .ok (.ireturn, 1) := by decide +kernel
theorem dLaw_common_17 : decode cLaw_common 17 = .ok (.iconst 0, 1) := by decide +kernel
theorem dLaw_common_18 : decode cLaw_common 18 = .ok (.ireturn, 1) := by decide +kernel
theorem dLaw_undo_0 : decode cLaw_undo 0 = .ok (.aload_n 1, 1) := by decide +kernel
theorem dLaw_undo_1 : decode cLaw_undo 1 = .ok (.iconst 0, 1) := by decide +kernel
theorem dLaw_undo_2 : decode cLaw_undo 2 = .ok (.aload_n 0, 1) := by decide +kernel
theorem dLaw_undo_3 : decode cLaw_undo 3 = .ok (.invokevirtual 107, 3) := by decide +kernel
theorem dLaw_undo_6 : decode cLaw_undo 6 = .ok (.i2l, 1) := by decide +kernel
theorem dLaw_undo_7 : decode cLaw_undo 7 = .ok (.lastore, 1) := by decide +kernel
theorem dLaw_undo_8 : decode cLaw_undo 8 = .ok (.goto 9, 3) := by decide +kernel
theorem dLaw_undo_11 : decode cLaw_undo 11 = .ok (.astore_n 2, 1) := by decide +kernel
theorem dLaw_undo_12 : decode cLaw_undo 12 = .ok (.iconst 1, 1) := by decide +kernel
theorem dLaw_undo_13 : decode cLaw_undo 13 = .ok (.ireturn, 1) := by decide +kernel
theorem dLaw_undo_14 : decode cLaw_undo 14 = .ok (.astore_n 2, 1) := by decide +kernel
theorem dLaw_undo_15 : decode cLaw_undo 15 = .ok (.iconst 2, 1) := by decide +kernel
theorem dLaw_undo_16 : decode cLaw_undo 16 = .ok (.ireturn, 1) := by decide +kernel
theorem dLaw_undo_17 : decode cLaw_undo 17 = .ok (.iconst 0, 1) := by decide +kernel
theorem dLaw_undo_18 : decode cLaw_undo 18 = .ok (.ireturn, 1) := by decide +kernel
theorem dLaw_redo_0 : decode cLaw_redo 0 = .ok (.aload_n 2, 1) := by decide +kernel
theorem dLaw_redo_1 : decode cLaw_redo 1 = .ok (.iconst 0, 1) := by decide +kernel
theorem dLaw_redo_2 : decode cLaw_redo 2 = .ok (.aload_n 0, 1) := by decide +kernel
theorem dLaw_redo_3 : decode cLaw_redo 3 = .ok (.iload_n 1, 1) := by decide +kernel
theorem dLaw_redo_4 : decode cLaw_redo 4 = .ok (.invokevirtual 110, 3) := by decide +kernel
theorem dLaw_redo_7 : decode cLaw_redo 7 = .ok (.i2l, 1) := by decide +kernel
theorem dLaw_redo_8 : decode cLaw_redo 8 = .ok (.lastore, 1) := by decide +kernel
theorem dLaw_redo_9 : decode cLaw_redo 9 = .ok (.goto 9, 3) := by decide +kernel
theorem dLaw_redo_12 : decode cLaw_redo 12 = .ok (.astore_n 3, 1) := by decide +kernel
theorem dLaw_redo_13 : decode cLaw_redo 13 = .ok (.iconst 1, 1) := by decide +kernel
theorem dLaw_redo_14 : decode cLaw_redo 14 = .ok (.ireturn, 1) := by decide +kernel
theorem dLaw_redo_15 : decode cLaw_redo 15 = .ok (.astore_n 3, 1) := by decide +kernel
theorem dLaw_redo_16 : decode cLaw_redo 16 = .ok (.iconst 2, 1) := by decide +kernel
theorem dLaw_redo_17 : decode cLaw_redo 17 = .ok (.ireturn, 1) := by decide +kernel
theorem dLaw_redo_18 : decode cLaw_redo 18 = .ok (.iconst 0, 1) := by decide +kernel
theorem dLaw_redo_19 : decode cLaw_redo 19 = .ok (.ireturn, 1) := by decide +kernel
theorem dLaw_name_0 : decode cLaw_name 0 = .ok (.aload_n 1, 1) := by decide +kernel
theorem dLaw_name_1 : decode cLaw_name 1 = .ok (.iconst 0, 1) := by decide +kernel
theorem dLaw_name_2 : decode cLaw_name 2 = .ok (.aload_n 0, 1) := by decide +kernel
theorem dLaw_name_3 : decode cLaw_name 3 = .ok (.invokevirtual 113, 3) := by decide +kernel
theorem dLaw_name_6 : decode cLaw_name 6 = .ok (.i2l, 1) := by decide +kernel
theorem dLaw_name_7 : decode cLaw_name 7 = .ok (.lastore, 1) := by decide +kernel
theorem dLaw_name_8 : decode cLaw_name 8 = .ok (.goto 12, 3) := by decide +kernel
theorem dLaw_name_11 : decode cLaw_name 11 = .ok (.astore_n 2, 1) := by decide +kernel
theorem dLaw_name_12 : decode cLaw_name 12 = .ok (.iconst 1, 1) := by decide +kernel
theorem dLaw_name_13 : decode cLaw_name 13 = .ok (.ireturn, 1) := by decide +kernel
theorem dLaw_name_14 : decode cLaw_name 14 = .ok (.astore_n 2, 1) := by decide +kernel
theorem dLaw_name_15 : decode cLaw_name 15 = .ok (.iconst 2, 1) := by decide +kernel
theorem dLaw_name_16 : decode cLaw_name 16 = .ok (.ireturn, 1) := by decide +kernel
theorem dLaw_name_17 : decode cLaw_name 17 = .ok (.astore_n 2, 1) := by decide +kernel
theorem dLaw_name_18 : decode cLaw_name 18 = .ok (.iconst 3, 1) := by decide +kernel
theorem dLaw_name_19 : decode cLaw_name 19 = .ok (.ireturn, 1) := by decide +kernel
theorem dLaw_name_20 : decode cLaw_name 20 = .ok (.iconst 0, 1) := by decide +kernel
theorem dLaw_name_21 : decode cLaw_name 21 = .ok (.ireturn, 1) := by decide +kernel
theorem dLaw_jump_0 : decode cLaw_jump 0 = .ok (.aload_n 1, 1) := by decide +kernel
theorem dLaw_jump_1 : decode cLaw_jump 1 = .ok (.iconst 0, 1) := by decide +kernel
theorem dLaw_jump_2 : decode cLaw_jump 2 = .ok (.aload_n 0, 1) := by decide +kernel
theorem dLaw_jump_3 : decode cLaw_jump 3 = .ok (.invokevirtual 116, 3) := by decide +kernel
theorem dLaw_jump_6 : decode cLaw_jump 6 = .ok (.i2l, 1) := by decide +kernel
theorem dLaw_jump_7 : decode cLaw_jump 7 = .ok (.lastore, 1) := by decide +kernel
theorem dLaw_jump_8 : decode cLaw_jump 8 = .ok (.goto 9, 3) := by decide +kernel
theorem dLaw_jump_11 : decode cLaw_jump 11 = .ok (.astore_n 2, 1) := by decide +kernel
theorem dLaw_jump_12 : decode cLaw_jump 12 = .ok (.iconst 1, 1) := by decide +kernel
theorem dLaw_jump_13 : decode cLaw_jump 13 = .ok (.ireturn, 1) := by decide +kernel
theorem dLaw_jump_14 : decode cLaw_jump 14 = .ok (.astore_n 2, 1) := by decide +kernel
theorem dLaw_jump_15 : decode cLaw_jump 15 = .ok (.iconst 2, 1) := by decide +kernel
theorem dLaw_jump_16 : decode cLaw_jump 16 = .ok (.ireturn, 1) := by decide +kernel
theorem dLaw_jump_17 : decode cLaw_jump 17 = .ok (.iconst 0, 1) := by decide +kernel
theorem dLaw_jump_18 : decode cLaw_jump 18 = .ok (.ireturn, 1) := by decide +kernel
theorem dLaw_isKnown_0 : decode cLaw_isKnown 0 = .ok (.aload_n 2, 1) := by decide +kernel
theorem dLaw_isKnown_1 : decode cLaw_isKnown 1 = .ok (.iconst 0, 1) := by decide +kernel
theorem dLaw_isKnown_2 : decode cLaw_isKnown 2 = .ok (.aload_n 0, 1) := by decide +kernel
theorem dLaw_isKnown_3 : decode cLaw_isKnown 3 = .ok (.iload_n 1, 1) := by decide +kernel
theorem dLaw_isKnown_4 : decode cLaw_isKnown 4 = .ok (.invokevirtual 119, 3) := by decide +kernel
theorem dLaw_isKnown_7 : decode cLaw_isKnown 7 = .ok (.ifCond .eq 7, 3) := by decide +kernel
theorem dLaw_isKnown_10 : decode cLaw_isKnown 10 = .ok (.lconst 1, 1) := by decide +kernel
theorem dLaw_isKnown_11 : decode cLaw_isKnown 11 = .ok (.goto 4, 3) := by decide +kernel
theorem dLaw_isKnown_14 : decode cLaw_isKnown 14 = .ok (.lconst 0, 1) := by decide +kernel
theorem dLaw_isKnown_15 : decode cLaw_isKnown 15 = .ok (.lastore, 1) := by decide +kernel
theorem dLaw_isKnown_16 : decode cLaw_isKnown 16 = .ok (.goto 9, 3) := by decide +kernel
theorem dLaw_isKnown_19 : decode cLaw_isKnown 19 = .ok (.astore_n 3, 1) := by decide +kernel
theorem dLaw_isKnown_20 : decode cLaw_isKnown 20 = .ok (.iconst 1, 1) := by decide +kernel
theorem dLaw_isKnown_21 : decode cLaw_isKnown 21 = .ok (.ireturn, 1) := by decide +kernel
theorem dLaw_isKnown_22 : decode cLaw_isKnown 22 = .ok (.astore_n 3, 1) := by decide +kernel
theorem dLaw_isKnown_23 : decode cLaw_isKnown 23 = .ok (.iconst 2, 1) := by decide +kernel
theorem dLaw_isKnown_24 : decode cLaw_isKnown 24 = .ok (.ireturn, 1) := by decide +kernel
theorem dLaw_isKnown_25 : decode cLaw_isKnown 25 = .ok (.iconst 0, 1) := by decide +kernel
theorem dLaw_isKnown_26 : decode cLaw_isKnown 26 = .ok (.ireturn, 1) := by decide +kernel
theorem dLaw_known_0 : decode cLaw_known 0 = .ok (.aload_n 1, 1) := by decide +kernel
theorem dLaw_known_1 : decode cLaw_known 1 = .ok (.iconst 0, 1) := by decide +kernel
theorem dLaw_known_2 : decode cLaw_known 2 = .ok (.aload_n 0, 1) := by decide +kernel
theorem dLaw_known_3 : decode cLaw_known 3 = .ok (.invokevirtual 122, 3) := by decide +kernel
theorem dLaw_known_6 : decode cLaw_known 6 = .ok (.i2l, 1) := by decide +kernel
theorem dLaw_known_7 : decode cLaw_known 7 = .ok (.lastore, 1) := by decide +kernel
theorem dLaw_known_8 : decode cLaw_known 8 = .ok (.goto 6, 3) := by decide +kernel
theorem dLaw_known_11 : decode cLaw_known 11 = .ok (.astore_n 2, 1) := by decide +kernel
theorem dLaw_known_12 : decode cLaw_known 12 = .ok (.iconst 1, 1) := by decide +kernel
theorem dLaw_known_13 : decode cLaw_known 13 = .ok (.ireturn, 1) := by decide +kernel
theorem dLaw_known_14 : decode cLaw_known 14 = .ok (.iconst 0, 1) := by decide +kernel
theorem dLaw_known_15 : decode cLaw_known 15 = .ok (.ireturn, 1) := by decide +kernel
theorem dLaw_learnt_0 : decode cLaw_learnt 0 = .ok (.aload_n 2, 1) := by decide +kernel
theorem dLaw_learnt_1 : decode cLaw_learnt 1 = .ok (.iconst 0, 1) := by decide +kernel
theorem dLaw_learnt_2 : decode cLaw_learnt 2 = .ok (.aload_n 0, 1) := by decide +kernel
theorem dLaw_learnt_3 : decode cLaw_learnt 3 = .ok (.iload_n 1, 1) := by decide +kernel
theorem dLaw_learnt_4 : decode cLaw_learnt 4 = .ok (.invokevirtual 125, 3) := by decide +kernel
theorem dLaw_learnt_7 : decode cLaw_learnt 7 = .ok (.i2l, 1) := by decide +kernel
theorem dLaw_learnt_8 : decode cLaw_learnt 8 = .ok (.lastore, 1) := by decide +kernel
theorem dLaw_learnt_9 : decode cLaw_learnt 9 = .ok (.goto 12, 3) := by decide +kernel
theorem dLaw_learnt_12 : decode cLaw_learnt 12 = .ok (.astore_n 3, 1) := by decide +kernel
theorem dLaw_learnt_13 : decode cLaw_learnt 13 = .ok (.iconst 1, 1) := by decide +kernel
theorem dLaw_learnt_14 : decode cLaw_learnt 14 = .ok (.ireturn, 1) := by decide +kernel
theorem dLaw_learnt_15 : decode cLaw_learnt 15 = .ok (.astore_n 3, 1) := by decide +kernel
theorem dLaw_learnt_16 : decode cLaw_learnt 16 = .ok (.iconst 2, 1) := by decide +kernel
theorem dLaw_learnt_17 : decode cLaw_learnt 17 = .ok (.ireturn, 1) := by decide +kernel
theorem dLaw_learnt_18 : decode cLaw_learnt 18 = .ok (.astore_n 3, 1) := by decide +kernel
theorem dLaw_learnt_19 : decode cLaw_learnt 19 = .ok (.iconst 3, 1) := by decide +kernel
theorem dLaw_learnt_20 : decode cLaw_learnt 20 = .ok (.ireturn, 1) := by decide +kernel
theorem dLaw_learnt_21 : decode cLaw_learnt 21 = .ok (.iconst 0, 1) := by decide +kernel
theorem dLaw_learnt_22 : decode cLaw_learnt 22 = .ok (.ireturn, 1) := by decide +kernel
theorem dLaw_postings_0 : decode cLaw_postings 0 = .ok (.aload_n 2, 1) := by decide +kernel
theorem dLaw_postings_1 : decode cLaw_postings 1 = .ok (.iconst 0, 1) := by decide +kernel
theorem dLaw_postings_2 : decode cLaw_postings 2 = .ok (.aload_n 0, 1) := by decide +kernel
theorem dLaw_postings_3 : decode cLaw_postings 3 = .ok (.iload_n 1, 1) := by decide +kernel
theorem dLaw_postings_4 : decode cLaw_postings 4 = .ok (.invokevirtual 128, 3) := by decide +kernel
theorem dLaw_postings_7 : decode cLaw_postings 7 = .ok (.i2l, 1) := by decide +kernel
theorem dLaw_postings_8 : decode cLaw_postings 8 = .ok (.lastore, 1) := by decide +kernel
theorem dLaw_postings_9 : decode cLaw_postings 9 = .ok (.goto 6, 3) := by decide +kernel
theorem dLaw_postings_12 : decode cLaw_postings 12 = .ok (.astore_n 3, 1) := by decide +kernel
theorem dLaw_postings_13 : decode cLaw_postings 13 = .ok (.iconst 1, 1) := by decide +kernel
theorem dLaw_postings_14 : decode cLaw_postings 14 = .ok (.ireturn, 1) := by decide +kernel
theorem dLaw_postings_15 : decode cLaw_postings 15 = .ok (.iconst 0, 1) := by decide +kernel
theorem dLaw_postings_16 : decode cLaw_postings 16 = .ok (.ireturn, 1) := by decide +kernel
theorem dLaw_posting_0 : decode cLaw_posting 0 = .ok (.aload_n 3, 1) := by decide +kernel
theorem dLaw_posting_1 : decode cLaw_posting 1 = .ok (.iconst 0, 1) := by decide +kernel
theorem dLaw_posting_2 : decode cLaw_posting 2 = .ok (.aload_n 0, 1) := by decide +kernel
theorem dLaw_posting_3 : decode cLaw_posting 3 = .ok (.iload_n 1, 1) := by decide +kernel
theorem dLaw_posting_4 : decode cLaw_posting 4 = .ok (.iload_n 2, 1) := by decide +kernel
theorem dLaw_posting_5 : decode cLaw_posting 5 = .ok (.invokevirtual 131, 3) := by decide +kernel
theorem dLaw_posting_8 : decode cLaw_posting 8 = .ok (.i2l, 1) := by decide +kernel
theorem dLaw_posting_9 : decode cLaw_posting 9 = .ok (.lastore, 1) := by decide +kernel
theorem dLaw_posting_10 : decode cLaw_posting 10 = .ok (.goto 11, 3) := by decide +kernel
theorem dLaw_posting_13 : decode cLaw_posting 13 = .ok (.astore 4, 2) := by decide +kernel
theorem dLaw_posting_15 : decode cLaw_posting 15 = .ok (.iconst 1, 1) := by decide +kernel
theorem dLaw_posting_16 : decode cLaw_posting 16 = .ok (.ireturn, 1) := by decide +kernel
theorem dLaw_posting_17 : decode cLaw_posting 17 = .ok (.astore 4, 2) := by decide +kernel
theorem dLaw_posting_19 : decode cLaw_posting 19 = .ok (.iconst 2, 1) := by decide +kernel
theorem dLaw_posting_20 : decode cLaw_posting 20 = .ok (.ireturn, 1) := by decide +kernel
theorem dLaw_posting_21 : decode cLaw_posting 21 = .ok (.iconst 0, 1) := by decide +kernel
theorem dLaw_posting_22 : decode cLaw_posting 22 = .ok (.ireturn, 1) := by decide +kernel
theorem dLaw_rare_0 : decode cLaw_rare 0 = .ok (.aload_n 2, 1) := by decide +kernel
theorem dLaw_rare_1 : decode cLaw_rare 1 = .ok (.iconst 0, 1) := by decide +kernel
theorem dLaw_rare_2 : decode cLaw_rare 2 = .ok (.aload_n 0, 1) := by decide +kernel
theorem dLaw_rare_3 : decode cLaw_rare 3 = .ok (.iload_n 1, 1) := by decide +kernel
theorem dLaw_rare_4 : decode cLaw_rare 4 = .ok (.invokevirtual 134, 3) := by decide +kernel
theorem dLaw_rare_7 : decode cLaw_rare 7 = .ok (.i2l, 1) := by decide +kernel
theorem dLaw_rare_8 : decode cLaw_rare 8 = .ok (.lastore, 1) := by decide +kernel
theorem dLaw_rare_9 : decode cLaw_rare 9 = .ok (.goto 9, 3) := by decide +kernel
theorem dLaw_rare_12 : decode cLaw_rare 12 = .ok (.astore_n 3, 1) := by decide +kernel
theorem dLaw_rare_13 : decode cLaw_rare 13 = .ok (.iconst 1, 1) := by decide +kernel
theorem dLaw_rare_14 : decode cLaw_rare 14 = .ok (.ireturn, 1) := by decide +kernel
theorem dLaw_rare_15 : decode cLaw_rare 15 = .ok (.astore_n 3, 1) := by decide +kernel
theorem dLaw_rare_16 : decode cLaw_rare 16 = .ok (.iconst 2, 1) := by decide +kernel
theorem dLaw_rare_17 : decode cLaw_rare 17 = .ok (.ireturn, 1) := by decide +kernel
theorem dLaw_rare_18 : decode cLaw_rare 18 = .ok (.iconst 0, 1) := by decide +kernel
theorem dLaw_rare_19 : decode cLaw_rare 19 = .ok (.ireturn, 1) := by decide +kernel
theorem dLaw_price_0 : decode cLaw_price 0 = .ok (.aload_n 2, 1) := by decide +kernel
theorem dLaw_price_1 : decode cLaw_price 1 = .ok (.iconst 0, 1) := by decide +kernel
theorem dLaw_price_2 : decode cLaw_price 2 = .ok (.aload_n 0, 1) := by decide +kernel
theorem dLaw_price_3 : decode cLaw_price 3 = .ok (.iload_n 1, 1) := by decide +kernel
theorem dLaw_price_4 : decode cLaw_price 4 = .ok (.invokevirtual 137, 3) := by decide +kernel
theorem dLaw_price_7 : decode cLaw_price 7 = .ok (.i2l, 1) := by decide +kernel
theorem dLaw_price_8 : decode cLaw_price 8 = .ok (.lastore, 1) := by decide +kernel
theorem dLaw_price_9 : decode cLaw_price 9 = .ok (.goto 12, 3) := by decide +kernel
theorem dLaw_price_12 : decode cLaw_price 12 = .ok (.astore_n 3, 1) := by decide +kernel
theorem dLaw_price_13 : decode cLaw_price 13 = .ok (.iconst 1, 1) := by decide +kernel
theorem dLaw_price_14 : decode cLaw_price 14 = .ok (.ireturn, 1) := by decide +kernel
theorem dLaw_price_15 : decode cLaw_price 15 = .ok (.astore_n 3, 1) := by decide +kernel
theorem dLaw_price_16 : decode cLaw_price 16 = .ok (.iconst 2, 1) := by decide +kernel
theorem dLaw_price_17 : decode cLaw_price 17 = .ok (.ireturn, 1) := by decide +kernel
theorem dLaw_price_18 : decode cLaw_price 18 = .ok (.astore_n 3, 1) := by decide +kernel
theorem dLaw_price_19 : decode cLaw_price 19 = .ok (.iconst 3, 1) := by decide +kernel
theorem dLaw_price_20 : decode cLaw_price 20 = .ok (.ireturn, 1) := by decide +kernel
theorem dLaw_price_21 : decode cLaw_price 21 = .ok (.iconst 0, 1) := by decide +kernel
theorem dLaw_price_22 : decode cLaw_price 22 = .ok (.ireturn, 1) := by decide +kernel
theorem dLaw_buy_0 : decode cLaw_buy 0 = .ok (.aload_n 2, 1) := by decide +kernel
theorem dLaw_buy_1 : decode cLaw_buy 1 = .ok (.iconst 0, 1) := by decide +kernel
theorem dLaw_buy_2 : decode cLaw_buy 2 = .ok (.aload_n 0, 1) := by decide +kernel
theorem dLaw_buy_3 : decode cLaw_buy 3 = .ok (.iload_n 1, 1) := by decide +kernel
theorem dLaw_buy_4 : decode cLaw_buy 4 = .ok (.invokevirtual 140, 3) := by decide +kernel
theorem dLaw_buy_7 : decode cLaw_buy 7 = .ok (.i2l, 1) := by decide +kernel
theorem dLaw_buy_8 : decode cLaw_buy 8 = .ok (.lastore, 1) := by decide +kernel
theorem dLaw_buy_9 : decode cLaw_buy 9 = .ok (.goto 15, 3) := by decide +kernel
theorem dLaw_buy_12 : decode cLaw_buy 12 = .ok (.astore_n 3, 1) := by decide +kernel
theorem dLaw_buy_13 : decode cLaw_buy 13 = .ok (.iconst 1, 1) := by decide +kernel
theorem dLaw_buy_14 : decode cLaw_buy 14 = .ok (.ireturn, 1) := by decide +kernel
theorem dLaw_buy_15 : decode cLaw_buy 15 = .ok (.astore_n 3, 1) := by decide +kernel
theorem dLaw_buy_16 : decode cLaw_buy 16 = .ok (.iconst 2, 1) := by decide +kernel
theorem dLaw_buy_17 : decode cLaw_buy 17 = .ok (.ireturn, 1) := by decide +kernel
theorem dLaw_buy_18 : decode cLaw_buy 18 = .ok (.astore_n 3, 1) := by decide +kernel
theorem dLaw_buy_19 : decode cLaw_buy 19 = .ok (.iconst 3, 1) := by decide +kernel
theorem dLaw_buy_20 : decode cLaw_buy 20 = .ok (.ireturn, 1) := by decide +kernel
theorem dLaw_buy_21 : decode cLaw_buy 21 = .ok (.astore_n 3, 1) := by decide +kernel
theorem dLaw_buy_22 : decode cLaw_buy 22 = .ok (.iconst 4, 1) := by decide +kernel
theorem dLaw_buy_23 : decode cLaw_buy 23 = .ok (.ireturn, 1) := by decide +kernel
theorem dLaw_buy_24 : decode cLaw_buy 24 = .ok (.iconst 0, 1) := by decide +kernel
theorem dLaw_buy_25 : decode cLaw_buy 25 = .ok (.ireturn, 1) := by decide +kernel
theorem dLaw_isOwned_0 : decode cLaw_isOwned 0 = .ok (.aload_n 2, 1) := by decide +kernel
theorem dLaw_isOwned_1 : decode cLaw_isOwned 1 = .ok (.iconst 0, 1) := by decide +kernel
theorem dLaw_isOwned_2 : decode cLaw_isOwned 2 = .ok (.aload_n 0, 1) := by decide +kernel
theorem dLaw_isOwned_3 : decode cLaw_isOwned 3 = .ok (.iload_n 1, 1) := by decide +kernel
theorem dLaw_isOwned_4 : decode cLaw_isOwned 4 = .ok (.invokevirtual 143, 3) := by decide +kernel
theorem dLaw_isOwned_7 : decode cLaw_isOwned 7 = .ok (.ifCond .eq 7, 3) := by decide +kernel
theorem dLaw_isOwned_10 : decode cLaw_isOwned 10 = .ok (.lconst 1, 1) := by decide +kernel
theorem dLaw_isOwned_11 : decode cLaw_isOwned 11 = .ok (.goto 4, 3) := by decide +kernel
theorem dLaw_isOwned_14 : decode cLaw_isOwned 14 = .ok (.lconst 0, 1) := by decide +kernel
theorem dLaw_isOwned_15 : decode cLaw_isOwned 15 = .ok (.lastore, 1) := by decide +kernel
theorem dLaw_isOwned_16 : decode cLaw_isOwned 16 = .ok (.goto 9, 3) := by decide +kernel
theorem dLaw_isOwned_19 : decode cLaw_isOwned 19 = .ok (.astore_n 3, 1) := by decide +kernel
theorem dLaw_isOwned_20 : decode cLaw_isOwned 20 = .ok (.iconst 1, 1) := by decide +kernel
theorem dLaw_isOwned_21 : decode cLaw_isOwned 21 = .ok (.ireturn, 1) := by decide +kernel
theorem dLaw_isOwned_22 : decode cLaw_isOwned 22 = .ok (.astore_n 3, 1) := by decide +kernel
theorem dLaw_isOwned_23 : decode cLaw_isOwned 23 = .ok (.iconst 2, 1) := by decide +kernel
theorem dLaw_isOwned_24 : decode cLaw_isOwned 24 = .ok (.ireturn, 1) := by decide +kernel
theorem dLaw_isOwned_25 : decode cLaw_isOwned 25 = .ok (.iconst 0, 1) := by decide +kernel
theorem dLaw_isOwned_26 : decode cLaw_isOwned 26 = .ok (.ireturn, 1) := by decide +kernel
theorem dLaw_read_0 : decode cLaw_read 0 = .ok (.aload_n 2, 1) := by decide +kernel
theorem dLaw_read_1 : decode cLaw_read 1 = .ok (.iconst 0, 1) := by decide +kernel
theorem dLaw_read_2 : decode cLaw_read 2 = .ok (.aload_n 0, 1) := by decide +kernel
theorem dLaw_read_3 : decode cLaw_read 3 = .ok (.iload_n 1, 1) := by decide +kernel
theorem dLaw_read_4 : decode cLaw_read 4 = .ok (.invokevirtual 146, 3) := by decide +kernel
theorem dLaw_read_7 : decode cLaw_read 7 = .ok (.i2l, 1) := by decide +kernel
theorem dLaw_read_8 : decode cLaw_read 8 = .ok (.lastore, 1) := by decide +kernel
theorem dLaw_read_9 : decode cLaw_read 9 = .ok (.goto 12, 3) := by decide +kernel
theorem dLaw_read_12 : decode cLaw_read 12 = .ok (.astore_n 3, 1) := by decide +kernel
theorem dLaw_read_13 : decode cLaw_read 13 = .ok (.iconst 1, 1) := by decide +kernel
theorem dLaw_read_14 : decode cLaw_read 14 = .ok (.ireturn, 1) := by decide +kernel
theorem dLaw_read_15 : decode cLaw_read 15 = .ok (.astore_n 3, 1) := by decide +kernel
theorem dLaw_read_16 : decode cLaw_read 16 = .ok (.iconst 2, 1) := by decide +kernel
theorem dLaw_read_17 : decode cLaw_read 17 = .ok (.ireturn, 1) := by decide +kernel
theorem dLaw_read_18 : decode cLaw_read 18 = .ok (.astore_n 3, 1) := by decide +kernel
theorem dLaw_read_19 : decode cLaw_read 19 = .ok (.iconst 3, 1) := by decide +kernel
theorem dLaw_read_20 : decode cLaw_read 20 = .ok (.ireturn, 1) := by decide +kernel
theorem dLaw_read_21 : decode cLaw_read 21 = .ok (.iconst 0, 1) := by decide +kernel
theorem dLaw_read_22 : decode cLaw_read 22 = .ok (.ireturn, 1) := by decide +kernel
theorem dLaw_earn_0 : decode cLaw_earn 0 = .ok (.aload_n 2, 1) := by decide +kernel
theorem dLaw_earn_1 : decode cLaw_earn 1 = .ok (.iconst 0, 1) := by decide +kernel
theorem dLaw_earn_2 : decode cLaw_earn 2 = .ok (.aload_n 0, 1) := by decide +kernel
theorem dLaw_earn_3 : decode cLaw_earn 3 = .ok (.iload_n 1, 1) := by decide +kernel
theorem dLaw_earn_4 : decode cLaw_earn 4 = .ok (.invokevirtual 149, 3) := by decide +kernel
theorem dLaw_earn_7 : decode cLaw_earn 7 = .ok (.i2l, 1) := by decide +kernel
theorem dLaw_earn_8 : decode cLaw_earn 8 = .ok (.lastore, 1) := by decide +kernel
theorem dLaw_earn_9 : decode cLaw_earn 9 = .ok (.goto 6, 3) := by decide +kernel
theorem dLaw_earn_12 : decode cLaw_earn 12 = .ok (.astore_n 3, 1) := by decide +kernel
theorem dLaw_earn_13 : decode cLaw_earn 13 = .ok (.iconst 1, 1) := by decide +kernel
theorem dLaw_earn_14 : decode cLaw_earn 14 = .ok (.ireturn, 1) := by decide +kernel
theorem dLaw_earn_15 : decode cLaw_earn 15 = .ok (.iconst 0, 1) := by decide +kernel
theorem dLaw_earn_16 : decode cLaw_earn 16 = .ok (.ireturn, 1) := by decide +kernel
theorem dLaw_sale_0 : decode cLaw_sale 0 = .ok (.aload_n 3, 1) := by decide +kernel
theorem dLaw_sale_1 : decode cLaw_sale 1 = .ok (.iconst 0, 1) := by decide +kernel
theorem dLaw_sale_2 : decode cLaw_sale 2 = .ok (.aload_n 0, 1) := by decide +kernel
theorem dLaw_sale_3 : decode cLaw_sale 3 = .ok (.iload_n 1, 1) := by decide +kernel
theorem dLaw_sale_4 : decode cLaw_sale 4 = .ok (.iload_n 2, 1) := by decide +kernel
theorem dLaw_sale_5 : decode cLaw_sale 5 = .ok (.invokevirtual 152, 3) := by decide +kernel
theorem dLaw_sale_8 : decode cLaw_sale 8 = .ok (.i2l, 1) := by decide +kernel
theorem dLaw_sale_9 : decode cLaw_sale 9 = .ok (.lastore, 1) := by decide +kernel
theorem dLaw_sale_10 : decode cLaw_sale 10 = .ok (.goto 11, 3) := by decide +kernel
theorem dLaw_sale_13 : decode cLaw_sale 13 = .ok (.astore 4, 2) := by decide +kernel
theorem dLaw_sale_15 : decode cLaw_sale 15 = .ok (.iconst 1, 1) := by decide +kernel
theorem dLaw_sale_16 : decode cLaw_sale 16 = .ok (.ireturn, 1) := by decide +kernel
theorem dLaw_sale_17 : decode cLaw_sale 17 = .ok (.astore 4, 2) := by decide +kernel
theorem dLaw_sale_19 : decode cLaw_sale 19 = .ok (.iconst 2, 1) := by decide +kernel
theorem dLaw_sale_20 : decode cLaw_sale 20 = .ok (.ireturn, 1) := by decide +kernel
theorem dLaw_sale_21 : decode cLaw_sale 21 = .ok (.iconst 0, 1) := by decide +kernel
theorem dLaw_sale_22 : decode cLaw_sale 22 = .ok (.ireturn, 1) := by decide +kernel
theorem dLaw_merge_0 : decode cLaw_merge 0 = .ok (.aload_n 2, 1) := by decide +kernel
theorem dLaw_merge_1 : decode cLaw_merge 1 = .ok (.iconst 0, 1) := by decide +kernel
theorem dLaw_merge_2 : decode cLaw_merge 2 = .ok (.aload_n 0, 1) := by decide +kernel
theorem dLaw_merge_3 : decode cLaw_merge 3 = .ok (.iload_n 1, 1) := by decide +kernel
theorem dLaw_merge_4 : decode cLaw_merge 4 = .ok (.invokevirtual 156, 3) := by decide +kernel
theorem dLaw_merge_7 : decode cLaw_merge 7 = .ok (.i2l, 1) := by decide +kernel
theorem dLaw_merge_8 : decode cLaw_merge 8 = .ok (.lastore, 1) := by decide +kernel
theorem dLaw_merge_9 : decode cLaw_merge 9 = .ok (.goto 12, 3) := by decide +kernel
theorem dLaw_merge_12 : decode cLaw_merge 12 = .ok (.astore_n 3, 1) := by decide +kernel
theorem dLaw_merge_13 : decode cLaw_merge 13 = .ok (.iconst 1, 1) := by decide +kernel
theorem dLaw_merge_14 : decode cLaw_merge 14 = .ok (.ireturn, 1) := by decide +kernel
theorem dLaw_merge_15 : decode cLaw_merge 15 = .ok (.astore_n 3, 1) := by decide +kernel
theorem dLaw_merge_16 : decode cLaw_merge 16 = .ok (.iconst 2, 1) := by decide +kernel
theorem dLaw_merge_17 : decode cLaw_merge 17 = .ok (.ireturn, 1) := by decide +kernel
theorem dLaw_merge_18 : decode cLaw_merge 18 = .ok (.astore_n 3, 1) := by decide +kernel
theorem dLaw_merge_19 : decode cLaw_merge 19 = .ok (.iconst 3, 1) := by decide +kernel
theorem dLaw_merge_20 : decode cLaw_merge 20 = .ok (.ireturn, 1) := by decide +kernel
theorem dLaw_merge_21 : decode cLaw_merge 21 = .ok (.iconst 0, 1) := by decide +kernel
theorem dLaw_merge_22 : decode cLaw_merge 22 = .ok (.ireturn, 1) := by decide +kernel
theorem dLaw_score_0 : decode cLaw_score 0 = .ok (.aload_n 1, 1) := by decide +kernel
theorem dLaw_score_1 : decode cLaw_score 1 = .ok (.iconst 0, 1) := by decide +kernel
theorem dLaw_score_2 : decode cLaw_score 2 = .ok (.aload_n 0, 1) := by decide +kernel
theorem dLaw_score_3 : decode cLaw_score 3 = .ok (.invokevirtual 159, 3) := by decide +kernel
theorem dLaw_score_6 : decode cLaw_score 6 = .ok (.i2l, 1) := by decide +kernel
theorem dLaw_score_7 : decode cLaw_score 7 = .ok (.lastore, 1) := by decide +kernel
theorem dLaw_score_8 : decode cLaw_score 8 = .ok (.goto 6, 3) := by decide +kernel
theorem dLaw_score_11 : decode cLaw_score 11 = .ok (.astore_n 2, 1) := by decide +kernel
theorem dLaw_score_12 : decode cLaw_score 12 = .ok (.iconst 1, 1) := by decide +kernel
theorem dLaw_score_13 : decode cLaw_score 13 = .ok (.ireturn, 1) := by decide +kernel
theorem dLaw_score_14 : decode cLaw_score 14 = .ok (.iconst 0, 1) := by decide +kernel
theorem dLaw_score_15 : decode cLaw_score 15 = .ok (.ireturn, 1) := by decide +kernel
theorem dLaw_steps_0 : decode cLaw_steps 0 = .ok (.aload_n 2, 1) := by decide +kernel
theorem dLaw_steps_1 : decode cLaw_steps 1 = .ok (.iconst 0, 1) := by decide +kernel
theorem dLaw_steps_2 : decode cLaw_steps 2 = .ok (.aload_n 0, 1) := by decide +kernel
theorem dLaw_steps_3 : decode cLaw_steps 3 = .ok (.iload_n 1, 1) := by decide +kernel
theorem dLaw_steps_4 : decode cLaw_steps 4 = .ok (.invokevirtual 162, 3) := by decide +kernel
theorem dLaw_steps_7 : decode cLaw_steps 7 = .ok (.i2l, 1) := by decide +kernel
theorem dLaw_steps_8 : decode cLaw_steps 8 = .ok (.lastore, 1) := by decide +kernel
theorem dLaw_steps_9 : decode cLaw_steps 9 = .ok (.goto 12, 3) := by decide +kernel
theorem dLaw_steps_12 : decode cLaw_steps 12 = .ok (.astore_n 3, 1) := by decide +kernel
theorem dLaw_steps_13 : decode cLaw_steps 13 = .ok (.iconst 1, 1) := by decide +kernel
theorem dLaw_steps_14 : decode cLaw_steps 14 = .ok (.ireturn, 1) := by decide +kernel
theorem dLaw_steps_15 : decode cLaw_steps 15 = .ok (.astore_n 3, 1) := by decide +kernel
theorem dLaw_steps_16 : decode cLaw_steps 16 = .ok (.iconst 2, 1) := by decide +kernel
theorem dLaw_steps_17 : decode cLaw_steps 17 = .ok (.ireturn, 1) := by decide +kernel
theorem dLaw_steps_18 : decode cLaw_steps 18 = .ok (.astore_n 3, 1) := by decide +kernel
theorem dLaw_steps_19 : decode cLaw_steps 19 = .ok (.iconst 3, 1) := by decide +kernel
theorem dLaw_steps_20 : decode cLaw_steps 20 = .ok (.ireturn, 1) := by decide +kernel
theorem dLaw_steps_21 : decode cLaw_steps 21 = .ok (.iconst 0, 1) := by decide +kernel
theorem dLaw_steps_22 : decode cLaw_steps 22 = .ok (.ireturn, 1) := by decide +kernel
theorem dLaw_line_0 : decode cLaw_line 0 = .ok (.aload_n 1, 1) := by decide +kernel
theorem dLaw_line_1 : decode cLaw_line 1 = .ok (.iconst 0, 1) := by decide +kernel
theorem dLaw_line_2 : decode cLaw_line 2 = .ok (.aload_n 0, 1) := by decide +kernel
theorem dLaw_line_3 : decode cLaw_line 3 = .ok (.invokevirtual 165, 3) := by decide +kernel
theorem dLaw_line_6 : decode cLaw_line 6 = .ok (.i2l, 1) := by decide +kernel
theorem dLaw_line_7 : decode cLaw_line 7 = .ok (.lastore, 1) := by decide +kernel
theorem dLaw_line_8 : decode cLaw_line 8 = .ok (.goto 6, 3) := by decide +kernel
theorem dLaw_line_11 : decode cLaw_line 11 = .ok (.astore_n 2, 1) := by decide +kernel
theorem dLaw_line_12 : decode cLaw_line 12 = .ok (.iconst 1, 1) := by decide +kernel
theorem dLaw_line_13 : decode cLaw_line 13 = .ok (.ireturn, 1) := by decide +kernel
theorem dLaw_line_14 : decode cLaw_line 14 = .ok (.iconst 0, 1) := by decide +kernel
theorem dLaw_line_15 : decode cLaw_line 15 = .ok (.ireturn, 1) := by decide +kernel
theorem dLaw_signOf_0 : decode cLaw_signOf 0 = .ok (.aload_n 2, 1) := by decide +kernel
theorem dLaw_signOf_1 : decode cLaw_signOf 1 = .ok (.iconst 0, 1) := by decide +kernel
theorem dLaw_signOf_2 : decode cLaw_signOf 2 = .ok (.aload_n 0, 1) := by decide +kernel
theorem dLaw_signOf_3 : decode cLaw_signOf 3 = .ok (.iload_n 1, 1) := by decide +kernel
theorem dLaw_signOf_4 : decode cLaw_signOf 4 = .ok (.invokevirtual 168, 3) := by decide +kernel
theorem dLaw_signOf_7 : decode cLaw_signOf 7 = .ok (.i2l, 1) := by decide +kernel
theorem dLaw_signOf_8 : decode cLaw_signOf 8 = .ok (.lastore, 1) := by decide +kernel
theorem dLaw_signOf_9 : decode cLaw_signOf 9 = .ok (.goto 9, 3) := by decide +kernel
theorem dLaw_signOf_12 : decode cLaw_signOf 12 = .ok (.astore_n 3, 1) := by decide +kernel
theorem dLaw_signOf_13 : decode cLaw_signOf 13 = .ok (.iconst 1, 1) := by decide +kernel
theorem dLaw_signOf_14 : decode cLaw_signOf 14 = .ok (.ireturn, 1) := by decide +kernel
theorem dLaw_signOf_15 : decode cLaw_signOf 15 = .ok (.astore_n 3, 1) := by decide +kernel
theorem dLaw_signOf_16 : decode cLaw_signOf 16 = .ok (.iconst 2, 1) := by decide +kernel
theorem dLaw_signOf_17 : decode cLaw_signOf 17 = .ok (.ireturn, 1) := by decide +kernel
theorem dLaw_signOf_18 : decode cLaw_signOf 18 = .ok (.iconst 0, 1) := by decide +kernel
theorem dLaw_signOf_19 : decode cLaw_signOf 19 = .ok (.ireturn, 1) := by decide +kernel
theorem dLaw_checksum_0 : decode cLaw_checksum 0 = .ok (.aload_n 1, 1) := by decide +kernel
theorem dLaw_checksum_1 : decode cLaw_checksum 1 = .ok (.iconst 0, 1) := by decide +kernel
theorem dLaw_checksum_2 : decode cLaw_checksum 2 = .ok (.aload_n 0, 1) := by decide +kernel
theorem dLaw_checksum_3 : decode cLaw_checksum 3 = .ok (.invokevirtual 172, 3) := by decide +kernel
theorem dLaw_checksum_6 : decode cLaw_checksum 6 = .ok (.lastore, 1) := by decide +kernel
theorem dLaw_checksum_7 : decode cLaw_checksum 7 = .ok (.goto 6, 3) := by decide +kernel
theorem dLaw_checksum_10 : decode cLaw_checksum 10 = .ok (.astore_n 2, 1) := by decide +kernel
theorem dLaw_checksum_11 : decode cLaw_checksum 11 = .ok (.iconst 1, 1) := by decide +kernel
theorem dLaw_checksum_12 : decode cLaw_checksum 12 = .ok (.ireturn, 1) := by decide +kernel
theorem dLaw_checksum_13 : decode cLaw_checksum 13 = .ok (.iconst 0, 1) := by decide +kernel
theorem dLaw_checksum_14 : decode cLaw_checksum 14 = .ok (.ireturn, 1) := by decide +kernel
theorem dLaw_knownShare_0 : decode cLaw_knownShare 0 = .ok (.aload_n 1, 1) := by decide +kernel
theorem dLaw_knownShare_1 : decode cLaw_knownShare 1 = .ok (.iconst 0, 1) := by decide +kernel
theorem dLaw_knownShare_2 : decode cLaw_knownShare 2 = .ok (.aload_n 0, 1) := by decide +kernel
theorem dLaw_knownShare_3 : decode cLaw_knownShare 3 = .ok (.invokevirtual 176, 3) := by decide +kernel
theorem dLaw_knownShare_6 : decode cLaw_knownShare 6 = .ok (.f2d, 1) := by decide +kernel
theorem dLaw_knownShare_7 : decode cLaw_knownShare 7 = .ok (.dastore, 1) := by decide +kernel
theorem dLaw_knownShare_8 : decode cLaw_knownShare 8 = .ok (.goto 9, 3) := by decide +kernel
theorem dLaw_knownShare_11 : decode cLaw_knownShare 11 = .ok (.astore_n 2, 1) := by decide +kernel
theorem dLaw_knownShare_12 : decode cLaw_knownShare 12 = .ok (.iconst 1, 1) := by decide +kernel
theorem dLaw_knownShare_13 : decode cLaw_knownShare 13 = .ok (.ireturn, 1) := by decide +kernel
theorem dLaw_knownShare_14 : decode cLaw_knownShare 14 = .ok (.astore_n 2, 1) := by decide +kernel
theorem dLaw_knownShare_15 : decode cLaw_knownShare 15 = .ok (.iconst 2, 1) := by decide +kernel
theorem dLaw_knownShare_16 : decode cLaw_knownShare 16 = .ok (.ireturn, 1) := by decide +kernel
theorem dLaw_knownShare_17 : decode cLaw_knownShare 17 = .ok (.iconst 0, 1) := by decide +kernel
theorem dLaw_knownShare_18 : decode cLaw_knownShare 18 = .ok (.ireturn, 1) := by decide +kernel
theorem dLaw_meanPrice_0 : decode cLaw_meanPrice 0 = .ok (.aload_n 1, 1) := by decide +kernel
theorem dLaw_meanPrice_1 : decode cLaw_meanPrice 1 = .ok (.iconst 0, 1) := by decide +kernel
theorem dLaw_meanPrice_2 : decode cLaw_meanPrice 2 = .ok (.aload_n 0, 1) := by decide +kernel
theorem dLaw_meanPrice_3 : decode cLaw_meanPrice 3 = .ok (.invokevirtual 182, 3) := by decide +kernel
theorem dLaw_meanPrice_6 : decode cLaw_meanPrice 6 = .ok (.dastore, 1) := by decide +kernel
theorem dLaw_meanPrice_7 : decode cLaw_meanPrice 7 = .ok (.goto 6, 3) := by decide +kernel
theorem dLaw_meanPrice_10 : decode cLaw_meanPrice 10 = .ok (.astore_n 2, 1) := by decide +kernel
theorem dLaw_meanPrice_11 : decode cLaw_meanPrice 11 = .ok (.iconst 1, 1) := by decide +kernel
theorem dLaw_meanPrice_12 : decode cLaw_meanPrice 12 = .ok (.ireturn, 1) := by decide +kernel
theorem dLaw_meanPrice_13 : decode cLaw_meanPrice 13 = .ok (.iconst 0, 1) := by decide +kernel
theorem dLaw_meanPrice_14 : decode cLaw_meanPrice 14 = .ok (.ireturn, 1) := by decide +kernel
