/-! the start: the verbs, the messages, the rows -/
abbrev vbT (i : Nat) : Term := .static "Lorewick$Verb" (vN.getD i "") "LLorewick$Verb;"
def vbX : List Nat := [38, 27, 304, 315, 327, 340, 354, 369, 385, 64, 402, 420, 71, 79, 88]
def vbL : List Nat := [937, 451, 2482, 2483, 2484, 2485, 2486, 2487, 2488, 1134, 2489, 2490, 1437, 1476, 1503]
def vbD : List (List Nat) := [[0, 43, 310, 321, 333, 346, 360, 375, 391, 70, 408, 426, 77, 85, 94], [43, 0, 309, 320, 332, 345, 359, 374, 390, 69, 407, 425, 76, 84, 93], [310, 309, 0, 326, 338, 351, 365, 380, 396, 311, 413, 431, 312, 313, 314], [321, 320, 326, 0, 339, 352, 366, 381, 397, 322, 414, 432, 323, 324, 325], [333, 332, 338, 339, 0, 353, 367, 382, 398, 334, 415, 433, 335, 336, 337], [346, 345, 351, 352, 353, 0, 368, 383, 399, 347, 416, 434, 348, 349, 350], [360, 359, 365, 366, 367, 368, 0, 384, 400, 361, 417, 435, 362, 363, 364], [375, 374, 380, 381, 382, 383, 384, 0, 401, 376, 418, 436, 377, 378, 379], [391, 390, 396, 397, 398, 399, 400, 401, 0, 392, 419, 437, 393, 394, 395], [70, 69, 311, 322, 334, 347, 361, 376, 392, 0, 409, 427, 78, 86, 95], [408, 407, 413, 414, 415, 416, 417, 418, 419, 409, 0, 438, 410, 411, 412], [426, 425, 431, 432, 433, 434, 435, 436, 437, 427, 438, 0, 428, 429, 430], [77, 76, 312, 323, 335, 348, 362, 377, 393, 78, 410, 428, 0, 87, 96], [85, 84, 313, 324, 336, 349, 363, 378, 394, 86, 411, 429, 87, 0, 97], [94, 93, 314, 325, 337, 350, 364, 379, 395, 95, 412, 430, 96, 97, 0]]
theorem vb_l : ∀ i, i < 15 → tables_1[vbL.getD i 0]? = some (Cond.laysStatic "Lorewick$Verb" (vN.getD i "") "LLorewick$Verb;") := by decide +kernel
theorem vb_w : ∀ i, i < 15 → nr[vbX.getD i 0]? = some (Cond.exactly (vbT i) "Lorewick$Verb") ∧ nr[vbX.getD i 0 + 1]? = some (Cond.eq (.field (vbT i) "java/lang/Enum" "ordinal" "I") (.int (nI i))) ∧ nr[vbX.getD i 0 + 2]? = some (Cond.eq (.field (vbT i) "Lorewick$Verb" "text" "Ljava/lang/String;") (txT (vT.getD i 0))) ∧ nr[vbX.getD i 0 + 3]? = some (Cond.eq (.field (vbT i) "Lorewick$Verb" "parts" "I") (.int (vP.getD i 0))) ∧ nr[vbX.getD i 0 + 4]? = some (Cond.eq (.field (vbT i) "Lorewick$Verb" "nouns" "I") (.int (vQ.getD i 0))) ∧ vT.getD i 0 < 17 := by decide +kernel
theorem vb_d : ∀ i, i < 15 → ∀ j, j < 15 → i ≠ j → nr[(vbD.getD i []).getD j 0]? = some (Cond.not (Cond.eq (vbT i) (vbT j))) ∨ nr[(vbD.getD i []).getD j 0]? = some (Cond.not (Cond.eq (vbT j) (vbT i))) := by decide +kernel
def msT : List Nat := [571, 606, 633, 647, 654, 674, 675, 724, 736, 840, 853, 854, 862, 863, 865, 866, 874, 879, 894, 902, 903, 919, 920, 925, 926, 1090, 1160, 1243, 1253, 1301, 1313, 1325, 1337, 1364, 1383, 1414, 1434, 1435, 1477, 1485, 1493, 1501, 1531, 1830, 1839]
def msX : List Nat := [570, 586, 608, 630, 654, 676, 694, 716, 732, 758, 779, 796, 812, 842, 858, 889, 912, 942, 967, 988, 1016, 1038, 1054, 1074, 1089, 1107, 1135, 1157, 1173, 1201, 1226, 1243, 1273, 1289, 1308, 1327, 1342, 1369, 1390, 1409, 1439, 1455, 1476, 1596, 1608]
theorem ms_w : ∀ i, i < 45 → tables_1[msT.getD i 0]? = some (Cond.stringRef "Lorewick" (cMsg.getD i (0, "")).1 (cMsg.getD i (0, "")).2) ∧ nr[msX.getD i 0]? = some (Cond.exactly (Term.string "Lorewick" (cMsg.getD i (0, "")).1) "java/lang/String") := by decide +kernel
abbrev aV : Term := .static "Lorewick" "VERBS" "[LLorewick$Verb;"
abbrev aM : Term := .static "Lorewick$1" "$SwitchMap$Lorewick$Verb" "[I"
abbrev aO : Term := .static "java/lang/Integer" "DigitOnes" "[B"
abbrev aT : Term := .static "java/lang/Integer" "DigitTens" "[B"
abbrev aE : Term := .static "java/util/ArrayList" "DEFAULTCAPACITY_EMPTY_ELEMENTDATA" "[Ljava/lang/Object;"
theorem aV_w : nr[46]? = some (Cond.arrayOf aV (.object "Lorewick$Verb")) ∧ nr[47]? = some (Cond.eq (.length aV) (.int (Int32.ofNat 15))) ∧ ∀ j, j < 15 → nr[49 + j]? = some (Cond.eq (.elem aV (.int (Int32.ofNat j))) (vbT j)) := by decide +kernel
theorem aM_w : nr[10]? = some (Cond.arrayOf aM .int) ∧ nr[11]? = some (Cond.eq (.length aM) (.int (Int32.ofNat 15))) ∧ ∀ j, j < 15 → nr[12 + j]? = some (Cond.eq (.elem aM (.int (Int32.ofNat j))) (.int (vM.getD j 0))) := by decide +kernel
theorem aO_w : nr[99]? = some (Cond.arrayOf aO .byte) ∧ nr[100]? = some (Cond.eq (.length aO) (.int (Int32.ofNat 100))) ∧ ∀ j, j < 100 → nr[101 + j]? = some (Cond.eq (.elem aO (.int (Int32.ofNat j))) (.int (nI (48 + j % 10)))) := by decide +kernel
theorem aT_w : nr[202]? = some (Cond.arrayOf aT .byte) ∧ nr[203]? = some (Cond.eq (.length aT) (.int (Int32.ofNat 100))) ∧ ∀ j, j < 100 → nr[204 + j]? = some (Cond.eq (.elem aT (.int (Int32.ofNat j))) (.int (nI (48 + j / 10)))) := by decide +kernel
theorem aE_w : nr[6]? = some (Cond.exactly aE "[Ljava/lang/Object;") ∧ nr[7]? = some (Cond.eq (.length aE) (.int (Int32.ofNat 0))) := by decide +kernel
section M24
variable {s : State} {args : Array Value} {A : Nat → Prop}
theorem vb_all (hts : ∀ w ∈ lw_tbl, w.before args s = true) (hg : (Cond.and given_1 narrow_1).before args s = true) (hA : ∀ a : Nat, a < s.heap.size → ¬ A a) : ∃ ad : Nat → Nat, (∀ i, i < 15 → (vbT i).eval args s none [] s = some (.ref (ad i))) ∧ (∀ i, i < 15 → va_O "Lorewick$Verb" (ad i) A s s.heap) ∧ (∀ i j, i < 15 → j < 15 → ad i = ad j → i = j) ∧ (∀ i, i < 15 → va_Z "Lorewick$Verb" (vN.getD i "") "LLorewick$Verb;" (.ref (ad i)) A s s.heap) := by
  have h0 : ∀ i : Nat, ∃ t : Nat, i < 15 → (vbT i).eval args s none [] s = some (.ref t) ∧ va_O "Lorewick$Verb" t A s s.heap := by
    intro i
    by_cases hi : i < 15
    · obtain ⟨a, c, cell, k, q1, q2, q3, q4, q5, q6, -⟩ := Cond.exactly_spec (args := args) (first := s) (o := none) (s := s) (idx := []) (t := vbT i) (cls := "Lorewick$Verb") (nr_at hg (vb_w i hi).1)
      exact ⟨a, fun _ => ⟨q1, cell, q3, q5, by rw [q6]; exact q2, hA a (Array.getElem?_eq_some_iff.mp q3).1⟩⟩
    · exact ⟨0, fun h => absurd h hi⟩
  obtain ⟨ad, had⟩ := Classical.axiomOfChoice h0
  refine ⟨ad, fun i hi => (had i hi).1, fun i hi => (had i hi).2, fun i j hi hj e => ?_, fun i hi => va_Zref (hts _ (tb_in (vb_l i hi))) (hts _ (tb_in (i := 34) (by decide +kernel))) (had i hi).1 hA⟩
  by_cases hij : i = j
  · exact hij
  · rcases vb_d i hi j hj hij with h | h
    · exact absurd e (va_neR (nr_at hg h) (had i hi).1 (had j hj).1)
    · exact absurd e.symm (va_neR (nr_at hg h) (had j hj).1 (had i hi).1)
theorem ms_all (hts : ∀ w ∈ lw_tbl, w.before args s = true) (hg : (Cond.and given_1 narrow_1).before args s = true) : ∀ q ∈ cMsg, ∃ sa, vk_R "Lorewick" q.1 q.2 sa s := by
  intro q hq
  obtain ⟨i, hi, rfl⟩ := List.mem_iff_getElem.mp hq
  have h45 : i < 45 := hi
  have e : cMsg.getD i (0, "") = cMsg[i] := by rw [List.getD_eq_getElem?_getD, List.getElem?_eq_getElem hi]; rfl
  obtain ⟨w1, w2⟩ := ms_w i h45
  rw [e] at w1 w2
  obtain ⟨a, c, cell, k, q1, q2, q3, q4, q5, q6, -⟩ := Cond.exactly_spec (args := args) (first := s) (o := none) (s := s) (idx := []) (nr_at hg w2)
  exact ⟨a, vk_R.of (A := args) (hts _ (tb_in w1)) q1⟩
theorem len_small {t : Term} {v : Value} (h : (Term.length t).eval args s none [] s = some v) : ∃ (a : Nat) (cell : Cell), t.eval args s none [] s = some (.ref a) ∧ s.arrayAt? a = some cell ∧ cell.slots.size < 2147483648 ∧ v = .int cell.slots.size.toInt32 := by
  simp only [Term.eval, Option.bind_eq_bind] at h
  cases ht : t.eval args s none [] s with
  | none => simp [ht] at h
  | some x =>
    cases x <;> simp [ht] at h
    case ref a =>
      obtain ⟨cell, hcell, h⟩ := Option.bind_eq_some_iff.mp h
      by_cases hn : cell.slots.size < 2147483648
      · rw [if_pos hn] at h; cases h; exact ⟨a, cell, rfl, hcell, hn, rfl⟩
      · rw [if_neg hn] at h; cases h
theorem aE_all (hg : (Cond.and given_1 narrow_1).before args s = true) : ∃ (a : Nat) (cell : Cell), aE.eval args s none [] s = some (.ref a) ∧ s.heap[a]? = some cell ∧ s.vm.findClass "[Ljava/lang/Object;" = some cell.cls ∧ (∀ z, cell.vm ≠ .statics z) ∧ cell.slots.size = 0 := by
  obtain ⟨a, c, cell, k, q1, q2, q3, q4, q5, q6, -⟩ := Cond.exactly_spec (args := args) (first := s) (o := none) (s := s) (idx := []) (t := aE) (cls := "[Ljava/lang/Object;") (nr_at hg aE_w.1)
  obtain ⟨a', cell', h1, h2, h8, h3⟩ := len_small (va_eqt (nr_at hg aE_w.2))
  cases q1.symm.trans h1
  obtain ⟨h4, h5, h6, h7⟩ := State.arrayAt?_spec h2
  cases q3.symm.trans h4
  refine ⟨a, cell, q1, q3, by rw [q6]; exact q2, fun z hz => (by rw [hz] at q5; exact absurd (show true = false from q5) (by decide)), ?_⟩
  have h9 : Int32.ofNat cell.slots.size = Int32.ofNat 0 := (Value.int.inj h3).symm
  have h10 := congrArg Int32.toNatClampNeg h9
  rwa [Int32.toNatClampNeg_ofNat_of_lt (by omega), Int32.toNatClampNeg_ofNat_of_lt (by decide)] at h10
end M24
