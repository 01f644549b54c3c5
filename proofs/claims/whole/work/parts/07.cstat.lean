/-! What lies in the heap before the law begins: the verbs, the texts, the statics. -/
def vN : List String := ["START", "GO", "TAKE", "DROP", "OPEN", "CLOSE", "LIGHT", "DOUSE", "LOOK_AT", "PUT", "LOOK", "WAIT", "BUY", "READ", "MERGE"]
/-- a verb's text, its parts, its nouns; the switch's map -/
def vT : List Nat := [0, 1, 2, 3, 4, 5, 6, 7, 8, 9, 8, 10, 11, 12, 13]
def vP : List Int32 := [0, 2, 2, 2, 2, 2, 2, 2, 2, 4, 1, 1, 0, 0, 0]
def vQ : List Int32 := [0, 0, 1, 1, 1, 1, 1, 1, 1, 2, 0, 0, 0, 0, 0]
def vM : List Int32 := [10, 13, 1, 2, 3, 4, 5, 6, 7, 15, 11, 12, 8, 9, 14]
def tL : List Nat := [5, 2, 4, 4, 4, 5, 5, 5, 4, 3, 4, 3, 4, 5, 6, 2, 3]
def tB : List (List Int32) := [[115, 116, 97, 114, 116], [103, 111], [116, 97, 107, 101], [100, 114, 111, 112], [111, 112, 101, 110], [99, 108, 111, 115, 101], [108, 105, 103, 104, 116], [100, 111, 117, 115, 101], [108, 111, 111, 107], [112, 117, 116], [119, 97, 105, 116], [98, 117, 121], [114, 101, 97, 100], [109, 101, 114, 103, 101], [110, 101, 115, 119, 117, 100], [105, 110], [32, 105, 110]]
def cMsg : List (Nat × String) := [(68, "no such sign"), (79, "30 signs are typed"), (90, "not 1 to 8 letters"), (98, "there is such a word"), (104, "there are 40 words"), (535, "play has begun"), (116, "there are 12 rooms"), (520, "no such room"), (384, "no such word"), (552, "no such direction"), (461, "no such thing"), (151, "no such exit"), (153, "the weight is out of range"), (155, "no such kind"), (161, "another thing has this noun"), (166, "there are 12 things"), (184, "the turns are out of range"), (530, "it is of another kind"), (196, "there are 6 goals"), (204, "the base is out of range"), (209, "there are 12 hints"), (528, "no such hint"), (224, "it has this word"), (230, "it was sold"), (232, "it has 6 words"), (537, "play has not begun"), (397, "there are 80 nodes"), (557, "no such node"), (322, "the node 0 has no parent"), (342, "play is at the node 0"), (347, "no such child"), (352, "another node has this name"), (361, "no such name"), (369, "it is not known"), (378, "no such posting"), (543, "it is owned"), (401, "all its words are known"), (406, "not so many coins"), (436, "it is not owned"), (438, "the coins are out of range"), (445, "no such sale"), (467, "none can be taken"), (479, "no way"), (500, "no words"), (503, "none was sold")]
/-- the tables' words that a warmer machine keeps, though they aren't of the good ones -/
def c_isN (w : Cond) : Bool := match w with
  | .castable _ _ => true
  | .declares _ => true
  | .methodLinkNest _ _ _ _ => true
  | _ => false
def wn : List Cond := lw_tbl.filter c_isN
theorem wn_warm {w : Cond} {u U : State} (hW : u.WarmedH U.vm) (h : c_isN w = true) (hZ : va_Nw w u) : va_Nw w U := by
  cases w <;> first | exact va_Nw.warmC hW hZ | exact va_Nw.warmD hW hZ | exact va_Nw.warmM hW hZ | exact absurd h (by simp [c_isN])
theorem wn_in {w : Cond} {i : Nat} (h : tables_1[i]? = some w ∧ c_isN w = true) : w ∈ wn := List.mem_filter.mpr ⟨List.mem_append_right _ (List.mem_of_getElem? h.1), h.2⟩
/-- kinds of what is there before: 18 verbs, 19 texts, 20 rows (0 VERBS, 1 the switch's map), 21 the texts' bytes -/
def cG (A : Nat → Prop) (α : cAl) (U : State) (H : Heap) : Prop :=
  (vx_Zq Bundle.tN "UNASSIGNED_STACK" Bundle.steD A U H ∧ vx_Zq Bundle.tN "SUPPRESSED_SENTINEL" Bundle.listD A U H ∧ (∀ q ∈ cMsg, ∃ sa, vk_R "Lorewick" q.1 q.2 sa U) ∧ ∀ w ∈ wn, va_Nw w U) ∧
  (va_Ef 15 "Lorewick$Verb" "text" "Ljava/lang/String;" (fun i => .ref (α 19 (vT.getD i 0))) (α 18) A U H ∧ va_Ef 15 "Lorewick$Verb" "parts" "I" (fun i => .int (vP.getD i 0)) (α 18) A U H ∧ va_Ef 15 "Lorewick$Verb" "nouns" "I" (fun i => .int (vQ.getD i 0)) (α 18) A U H ∧ va_Ef 15 "java/lang/Enum" "ordinal" "I" (fun i => .int (nI i)) (α 18) A U H) ∧
  ((∀ i, i < 15 → va_O "Lorewick$Verb" (α 18 i) A U H) ∧ (∀ i j, i < 15 → j < 15 → α 18 i = α 18 j → i = j) ∧ (∀ i, i < 15 → va_Z "Lorewick$Verb" (vN.getD i "") "LLorewick$Verb;" (.ref (α 18 i)) A U H)) ∧
  (va_Z "Lorewick" "VERBS" "[LLorewick$Verb;" (.ref (α 20 0)) A U H ∧ va_T (.object "Lorewick$Verb") (α 20 0) 15 (fun j => .ref (α 18 j)) A U H ∧ va_Z "Lorewick$1" "$SwitchMap$Lorewick$Verb" "[I" (.ref (α 20 1)) A U H ∧ va_T .int (α 20 1) 15 (fun j => .int (vM.getD j 0)) A U H) ∧
  (vk_S 17 tL tB (α 19) (α 21) A U H ∧ vk_R "Lorewick" 545 "neswud" (α 19 14) U ∧ vk_R "Lorewick" 590 "in" (α 19 15) U ∧ vk_R "Lorewick" 654 " in" (α 19 16) U) ∧
  (va_Z "java/util/ArrayList" "DEFAULTCAPACITY_EMPTY_ELEMENTDATA" "[Ljava/lang/Object;" (.ref (α 17 0)) A U H ∧ va_Z "java/lang/String" "COMPACT_STRINGS" "Z" (.int 1) A U H ∧ va_Zq "jdk/internal/util/Preconditions" "SIOOBE_FORMATTER" "Ljava/util/function/BiFunction;" A U H ∧
    (va_Z "java/lang/Integer" "DigitOnes" "[B" (.ref (α 20 2)) A U H ∧ va_T .byte (α 20 2) 100 (fun j => .int (nI (48 + j % 10))) A U H ∧ va_Z "java/lang/Integer" "DigitTens" "[B" (.ref (α 20 3)) A U H ∧ va_T .byte (α 20 3) 100 (fun j => .int (nI (48 + j / 10))) A U H) ∧ va_Mi "[Ljava/lang/Object;" (α 22 0) U ∧ va_AO "java/lang/Object" U ∧ ¬ A (α 17 0))
theorem cG.warm {A : Nat → Prop} {α : cAl} {u U : State} {H : Heap} (hW : u.WarmedH U.vm) (h : cG A α u H) : cG A α U H := by
  obtain ⟨⟨a1, a2, a3, a4⟩, ⟨b1, b2, b3, b4⟩, ⟨d1, d2, d3⟩, ⟨e1, e2, e3, e4⟩, ⟨f1, f2, f3, f4⟩, g1, g2, g3, ⟨g4, g5, g6, g7⟩, g8, g9, g10⟩ := h
  exact ⟨⟨a1.moved hW.alike, a2.moved hW.alike, fun q hq => (a3 q hq).imp fun sa h => vk_R.warm hW h, fun w hw => wn_warm hW (List.mem_filter.mp hw).2 (a4 w hw)⟩, ⟨b1.moved hW.alike, b2.moved hW.alike, b3.moved hW.alike, b4.moved hW.alike⟩,
    ⟨fun i hi => (d1 i hi).moved hW.alike, d2, fun i hi => (d3 i hi).moved hW.alike⟩, ⟨e1.moved hW.alike, e2.moved hW.alike, e3.moved hW.alike, e4.moved hW.alike⟩, ⟨f1.moved hW.alike, f2.warm hW, f3.warm hW, f4.warm hW⟩, g1.moved hW.alike, g2.moved hW.alike, g3.moved hW.alike, ⟨g4.moved hW.alike, g5.moved hW.alike, g6.moved hW.alike, g7.moved hW.alike⟩, g8.moved hW.alike, g9.moved hW.alike, g10⟩
theorem cG.kept {A : Nat → Prop} {α : cAl} {U : State} {H H1 : Heap} (h : cG A α U H) (hq : ∀ a : Nat, a < H.size → ¬ A a → H1[a]? = H[a]?) : cG A α U H1 := by
  obtain ⟨⟨a1, a2, a3⟩, ⟨b1, b2, b3, b4⟩, ⟨d1, d2, d3⟩, ⟨e1, e2, e3, e4⟩, ⟨f1, f2⟩, g1, g2, g3, ⟨g4, g5, g6, g7⟩, g8, g9, g10⟩ := h
  exact ⟨⟨a1.kept hq, a2.kept hq, a3⟩, ⟨b1.kept hq, b2.kept hq, b3.kept hq, b4.kept hq⟩, ⟨fun i hi => (d1 i hi).kept hq, d2, fun i hi => (d3 i hi).kept hq⟩, ⟨e1.kept hq, e2.kept hq, e3.kept hq, e4.kept hq⟩, ⟨f1.kept hq, f2⟩, g1.kept hq, g2.kept hq, g3.kept hq, ⟨g4.kept hq, g5.kept hq, g6.kept hq, g7.kept hq⟩, g8, g9, g10⟩
/-- it speaks of the fixed kinds alone, and of the empty array -/
theorem cG.to {A : Nat → Prop} {α α1 : cAl} {U : State} {H : Heap} (h : cG A α U H) (h1 : ∀ k, 18 ≤ k → α1 k = α k) (h2 : α1 17 0 = α 17 0) : cG A α1 U H := by
  unfold cG
  rw [h1 18 (by omega), h1 19 (by omega), h1 20 (by omega), h1 21 (by omega), h1 22 (by omega), h2]
  exact h
