/-! The class's methods: what each makes of the state (fc_..), as the bytecode has it; and that it does (cc_..). -/
theorem fl_X11_190 : Cond.fieldLink RX11 190 (cTt 2 12).1 (cTt 2 12).2.1 (cTt 2 12).2.2.1 ∈ wl := wl_in (i := 118) (by decide +kernel)
theorem fl_X11_193 : Cond.fieldLink RX11 193 (cTt 2 16).1 (cTt 2 16).2.1 (cTt 2 16).2.2.1 ∈ wl := wl_in (i := 129) (by decide +kernel)
theorem fl_X11_198 : Cond.fieldLink RX11 198 (cTt 2 14).1 (cTt 2 14).2.1 (cTt 2 14).2.2.1 ∈ wl := wl_in (i := 124) (by decide +kernel)
theorem fl_X11_201 : Cond.fieldLink RX11 201 (cTt 2 15).1 (cTt 2 15).2.1 (cTt 2 15).2.2.1 ∈ wl := wl_in (i := 127) (by decide +kernel)
theorem fl_X11_206 : Cond.fieldLink RX11 206 (cTt 5 2).1 (cTt 5 2).2.1 (cTt 5 2).2.2.1 ∈ wl := wl_in (i := 239) (by decide +kernel)
theorem fl_X11_211 : Cond.fieldLink RX11 211 (cTt 5 0).1 (cTt 5 0).2.1 (cTt 5 0).2.2.1 ∈ wl := wl_in (i := 235) (by decide +kernel)
theorem cw_X11_525 : cCallV RX11 525 (cRn 5) yX5_hasHint cX5_hasHint 2 ((some FieldType.boolean)) 1 := ⟨⟨wl_in (i := 915) (by decide +kernel), wl_in (i := 916) (by decide +kernel), wl_in (i := 917) (by decide +kernel), wl_in (i := 10) (by decide +kernel), wl_in (i := 918) (by decide +kernel)⟩, rfl, by decide, by decide, by decide +kernel⟩
theorem cw_X11_214 : cCallV RX11 214 (cRn 0) yX11_needHint cX11_needHint 2 ((none : Option FieldType)) 1 := ⟨⟨wl_in (i := 911) (by decide +kernel), wl_in (i := 913) (by decide +kernel), wl_inp (i := 9) (by decide +kernel), wl_in (i := 1) (by decide +kernel), wl_in (i := 914) (by decide +kernel)⟩, rfl, by decide, by decide, by decide +kernel⟩
theorem fl_X11_217 : Cond.fieldLink RX11 217 (cTt 5 1).1 (cTt 5 1).2.1 (cTt 5 1).2.2.1 ∈ wl := wl_in (i := 237) (by decide +kernel)
theorem cw_X11_220 : mCallS RX11 220 yX11_includes cX11_includes 3 ((some FieldType.boolean)) 2 := ⟨⟨wl_in (i := 398) (by decide +kernel), wl_in (i := 399) (by decide +kernel), wl_in (i := 1) (by decide +kernel), wl_in (i := 400) (by decide +kernel)⟩, by decide, by decide, by decide +kernel⟩
theorem cw_X11_226 : cCallV RX11 226 (cRn 5) yX5_wasSold cX5_wasSold 3 ((some FieldType.boolean)) 1 := ⟨⟨wl_in (i := 921) (by decide +kernel), wl_in (i := 922) (by decide +kernel), wl_in (i := 923) (by decide +kernel), wl_in (i := 10) (by decide +kernel), wl_in (i := 924) (by decide +kernel)⟩, rfl, by decide, by decide, by decide +kernel⟩
theorem cw_X11_338 : cCallV RX11 338 (cRn 4) yX8_current cX8_current 1 ((some (FieldType.object "Lorewick$Node"))) 0 := ⟨⟨wl_in (i := 1078) (by decide +kernel), wl_in (i := 969) (by decide +kernel), wl_in (i := 970) (by decide +kernel), wl_in (i := 6) (by decide +kernel), wl_in (i := 971) (by decide +kernel)⟩, rfl, by decide, by decide, by decide +kernel⟩
theorem cw_X11_363 : cCallV RX11 363 (cRn 7) yX2_wordsOfPath cX2_wordsOfPath 4 ((some FieldType.long)) 0 := ⟨⟨wl_in (i := 394) (by decide +kernel), wl_in (i := 395) (by decide +kernel), wl_in (i := 396) (by decide +kernel), wl_in (i := 35) (by decide +kernel), wl_in (i := 397) (by decide +kernel)⟩, rfl, by decide, by decide, by decide +kernel⟩
theorem cw_X11_234 : cCallV RX11 234 (cRn 3) yX3_setUp cX3_setUp 4 ((none : Option FieldType)) 2 := ⟨⟨wl_in (i := 379) (by decide +kernel), wl_in (i := 380) (by decide +kernel), wl_in (i := 381) (by decide +kernel), wl_in (i := 5) (by decide +kernel), wl_in (i := 382) (by decide +kernel)⟩, rfl, by decide, by decide, by decide +kernel⟩
theorem fl_X11_240 : Cond.fieldLink RX11 240 "Lorewick$Verb" "START" "LLorewick$Verb;" ∈ wl := wl_in (i := 936) (by decide +kernel)
theorem cw_X11_246 : cCallI RX11 246 yX1_init cX1_init 4 3 := ⟨⟨wl_in (i := 938) (by decide +kernel), wl_in (i := 939) (by decide +kernel), wl_in (i := 32) (by decide +kernel), wl_in (i := 940) (by decide +kernel)⟩, rfl, by decide, by decide, by decide +kernel⟩
theorem cw_X11_249 : cCallV RX11 249 (cRn 3) yX3_wordsShown cX3_wordsShown 6 ((some FieldType.long)) 1 := ⟨⟨wl_in (i := 958) (by decide +kernel), wl_in (i := 959) (by decide +kernel), wl_in (i := 960) (by decide +kernel), wl_in (i := 5) (by decide +kernel), wl_in (i := 961) (by decide +kernel)⟩, rfl, by decide, by decide, by decide +kernel⟩
theorem cw_X11_253 : cCallV RX11 253 (cRn 4) yX8_add cX8_add 8 ((some (FieldType.object "Lorewick$Node"))) 3 := ⟨⟨wl_in (i := 962) (by decide +kernel), wl_in (i := 963) (by decide +kernel), wl_in (i := 964) (by decide +kernel), wl_in (i := 6) (by decide +kernel), wl_in (i := 965) (by decide +kernel)⟩, rfl, by decide, by decide, by decide +kernel⟩
theorem cw_X11_256 : cCallV RX11 256 (cRn 0) yX11_wordsKnown cX11_wordsKnown 1 ((some FieldType.int)) 0 := ⟨⟨wl_in (i := 1074) (by decide +kernel), wl_in (i := 1076) (by decide +kernel), wl_inp (i := 13) (by decide +kernel), wl_in (i := 1) (by decide +kernel), wl_in (i := 1077) (by decide +kernel)⟩, rfl, by decide, by decide, by decide +kernel⟩
theorem fl_X11_592 : Cond.fieldLink RX11 592 "Lorewick$Verb" "nouns" "I" ∈ wl := wl_in (i := 2477) (by decide +kernel)
theorem cw_X11_594 : cCallV RX11 594 (cRn 1) yX7_lettersOfPart cX7_lettersOfPart 2 ((some FieldType.long)) 1 := ⟨⟨wl_in (i := 1136) (by decide +kernel), wl_in (i := 1137) (by decide +kernel), wl_in (i := 1138) (by decide +kernel), wl_in (i := 2) (by decide +kernel), wl_in (i := 1139) (by decide +kernel)⟩, rfl, by decide, by decide, by decide +kernel⟩
theorem fl_X11_581 : Cond.fieldLink RX11 581 "Lorewick$Verb" "GO" "LLorewick$Verb;" ∈ wl := wl_in (i := 1128) (by decide +kernel)
theorem fl_X11_587 : Cond.fieldLink RX11 587 "Lorewick$Verb" "PUT" "LLorewick$Verb;" ∈ wl := wl_in (i := 1133) (by decide +kernel)
theorem cw_X11_573 : cCallV RX11 573 (cRn 1) yX7_isPart cX7_isPart 4 ((some FieldType.boolean)) 2 := ⟨⟨wl_in (i := 1101) (by decide +kernel), wl_in (i := 1102) (by decide +kernel), wl_in (i := 1103) (by decide +kernel), wl_in (i := 2) (by decide +kernel), wl_in (i := 1104) (by decide +kernel)⟩, rfl, by decide, by decide, by decide +kernel⟩
theorem cw_X11_584 : cCallV RX11 584 (cRn 1) yX7_onlySign cX7_onlySign 2 ((some FieldType.char)) 1 := ⟨⟨wl_in (i := 1129) (by decide +kernel), wl_in (i := 1130) (by decide +kernel), wl_in (i := 1131) (by decide +kernel), wl_in (i := 2) (by decide +kernel), wl_in (i := 1132) (by decide +kernel)⟩, rfl, by decide, by decide, by decide +kernel⟩
theorem fl_X11_562 : Cond.fieldLink RX11 562 "Lorewick" "VERBS" "[LLorewick$Verb;" ∈ wl := wl_in (i := 1099) (by decide +kernel)
theorem fl_X11_566 : Cond.fieldLink RX11 566 "Lorewick$Verb" "parts" "I" ∈ wl := wl_in (i := 2475) (by decide +kernel)
theorem fl_X11_569 : Cond.fieldLink RX11 569 "Lorewick$Verb" "text" "Ljava/lang/String;" ∈ wl := wl_in (i := 2476) (by decide +kernel)
theorem cw_X11_577 : cCallV RX11 577 (cRn 0) yX11_completed cX11_completed 4 ((some (FieldType.object "Lorewick$Command"))) 1 := ⟨⟨wl_in (i := 1124) (by decide +kernel), wl_in (i := 1126) (by decide +kernel), wl_inp (i := 16) (by decide +kernel), wl_in (i := 1) (by decide +kernel), wl_in (i := 1127) (by decide +kernel)⟩, rfl, by decide, by decide, by decide +kernel⟩
theorem cw_X11_559 : cCallV RX11 559 (cRn 1) yX7_divide cX7_divide 4 ((some FieldType.int)) 0 := ⟨⟨wl_in (i := 1095) (by decide +kernel), wl_in (i := 1096) (by decide +kernel), wl_in (i := 1097) (by decide +kernel), wl_in (i := 2) (by decide +kernel), wl_in (i := 1098) (by decide +kernel)⟩, rfl, by decide, by decide, by decide +kernel⟩
theorem fl_X11_612 : Cond.fieldLink RX11 612 (cTt 8 2).1 (cTt 8 2).2.1 (cTt 8 2).2.2.1 ∈ wl := wl_in (i := 950) (by decide +kernel)
theorem fl_X11_606 : Cond.fieldLink RX11 606 (cTt 8 0).1 (cTt 8 0).2.1 (cTt 8 0).2.2.1 ∈ wl := wl_in (i := 944) (by decide +kernel)
theorem fl_X11_609 : Cond.fieldLink RX11 609 (cTt 8 1).1 (cTt 8 1).2.1 (cTt 8 1).2.2.1 ∈ wl := wl_in (i := 947) (by decide +kernel)
theorem cw_X11_598 : mCallS RX11 598 yX11_usesKnownWords cX11_usesKnownWords 5 ((some FieldType.boolean)) 2 := ⟨⟨wl_in (i := 391) (by decide +kernel), wl_in (i := 392) (by decide +kernel), wl_in (i := 1) (by decide +kernel), wl_in (i := 393) (by decide +kernel)⟩, by decide, by decide, by decide +kernel⟩
theorem fl_X11_408 : Cond.fieldLink RX11 408 (cTt 7 3).1 (cTt 7 3).2.1 (cTt 7 3).2.2.1 ∈ wl := wl_in (i := 989) (by decide +kernel)
theorem cw_X11_411 : cCallV RX11 411 (cRn 6) yX6_copy cX6_copy 3 ((none : Option FieldType)) 1 := ⟨⟨wl_in (i := 387) (by decide +kernel), wl_in (i := 388) (by decide +kernel), wl_in (i := 389) (by decide +kernel), wl_in (i := 11) (by decide +kernel), wl_in (i := 390) (by decide +kernel)⟩, rfl, by decide, by decide, by decide +kernel⟩
theorem cw_X11_602 : cCallV RX11 602 (cRn 3) yX3_perform cX3_perform 6 ((some FieldType.boolean)) 2 := ⟨⟨wl_in (i := 446) (by decide +kernel), wl_in (i := 447) (by decide +kernel), wl_in (i := 448) (by decide +kernel), wl_in (i := 5) (by decide +kernel), wl_in (i := 449) (by decide +kernel)⟩, rfl, by decide, by decide, by decide +kernel⟩
theorem cw_X11_393 : cCallV RX11 393 (cRn 4) yX8_isFull cX8_isFull 1 ((some FieldType.boolean)) 0 := ⟨⟨wl_in (i := 1148) (by decide +kernel), wl_in (i := 1149) (by decide +kernel), wl_in (i := 1150) (by decide +kernel), wl_in (i := 6) (by decide +kernel), wl_in (i := 1151) (by decide +kernel)⟩, rfl, by decide, by decide, by decide +kernel⟩
theorem cw_X11_539 : cCallV RX11 539 (cRn 4) yX8_childBy cX8_childBy 5 ((some FieldType.int)) 1 := ⟨⟨wl_in (i := 1152) (by decide +kernel), wl_in (i := 1153) (by decide +kernel), wl_in (i := 1154) (by decide +kernel), wl_in (i := 6) (by decide +kernel), wl_in (i := 1155) (by decide +kernel)⟩, rfl, by decide, by decide, by decide +kernel⟩
/-! Lorewick.tell(II)I -/
abbrev rc_X11_tell : Room := { frames := 7, cells := 3, slots := 18, locals := 111 }
def fc_X11_tell (σ : cS) (x1 : Int32) (x2 : Int32) : Option ((Nat ⊕ Int32) × cS) :=
  xb (fc_X11_needThing σ x1) fun v_1 u_1 =>
  xb (fc_X11_needWord u_1 x2) fun v_2 u_2 =>
  xb (fc_X11_needNoPlay u_2) fun v_3 u_3 =>
  if x1 < 0 ∨ 12 ≤ x1.toNatClampNeg then none else
  if x1 < 0 ∨ 12 ≤ x1.toNatClampNeg then none else
  if x1 < 0 ∨ 12 ≤ x1.toNatClampNeg then none else
  (fc_J13_bitCount_95d88 (uJ u_3 15 2 x1.toNatClampNeg ((cJ u_3 15 2 x1.toNatClampNeg) ||| ((1 : Int64) <<< (x2.toInt64 &&& 63)))) (cJ (uJ u_3 15 2 x1.toNatClampNeg ((cJ u_3 15 2 x1.toNatClampNeg) ||| ((1 : Int64) <<< (x2.toInt64 &&& 63)))) 15 2 x1.toNatClampNeg)).bind fun r_4 =>
  some (.inr r_4.1, r_4.2)
set_option maxHeartbeats 4000000 in
set_option maxRecDepth 100000 in
theorem cc_X11_tell (l : Launch) (hst : l.stackTraces = false) (D : va_G) (ca : Nat → ClassId) (A : Nat → Prop) (α : cAl) (σ : cS) (x1 : Int32) (x2 : Int32) (o : (Nat ⊕ Int32) × cS) (h : fc_X11_tell σ x1 x2 = some o) : cMetX false l yX11_tell cX11_tell 3 ((some FieldType.int)) rc_X11_tell 3 18 D ca true A α σ [cr α 0 (some 0), .int x1, .int x2] (o.1.map id (fun (v : Int32) _ => some (.int v))) o.2 := by
  refine vx_ofW (cc := cX11_tell) (maxL := 3) (ret := (some FieldType.int)) (by decide) rfl ?_
  intro p e s m args below meth c s₁ B hml hout hv
  obtain ⟨rfl, hP, hK, hD0, hSh, hA, hG⟩ := hv
  have C : cC p s m _ c cX11_tell 3 RX11 D ca A α := ⟨B.exec, B.bytes, hml, findClass_of_methodNamed B.named, fun w hw => atoms_spec (ws := mWs yX11_tell cX11_tell 3 ((some FieldType.int))) B.pre w (List.mem_cons_of_mem _ hw), hK, hG⟩
  have hM : cM D ca true A s.heap σ α σ α s.heap [] := ⟨hP, hD0, hSh, va_S.rf, hA, cX.rf⟩
  have h17 : 0 < cn σ 17 := c_17 hM
  have hr := B.returns
  have hlk := B.notSynchronized
  have hx := C.1
  have hb := C.2.1
  have hl := lv_entry ([cr α 0 (some 0), .int x1, .int x2]) (n := 3) (Nat.le_of_ble_eq_true rfl)
  rw [lg_entry_eq]
  generalize (lg_sl ([cr α 0 (some 0), .int x1, .int x2]) ++ List.replicate (3 - (lg_sl ([cr α 0 (some 0), .int x1, .int x2])).length) Slot.unset).toArray = ls at hl ⊢
  have hl : lv_has ls 3 [(0, cr α 0 (some 0)), (1, .int x1), (2, .int x2)] := hl
  unfold fc_X11_tell at h
  refine c_aload_n (t := 0) (x := (some 0)) hx hb dX11_tell_0 rfl (lv_at hl 0 rfl) ?_
  refine lv_iload_n hx hb dX11_tell_1 rfl (lv_at hl 1 rfl) ?_
  obtain ⟨r_1, u_1, hr_1⟩ := xb_some h
  refine c_gox2 (T := (fun (_ : Unit) _ => none)) (T2 := (fun (v : Int32) _ => some (.int v))) h hr_1 (c_rVx (As := [.int x1]) (rest := []) C hM h17 (hM.cst 0 0 rfl) (by decide) (cc_X11_needThing l hst D ca A α σ x1 _ hr_1) cw_X11_148 ⟨rfl, rfl⟩ ⟨Nat.le_of_ble_eq_true rfl, Nat.le_of_ble_eq_true rfl⟩ rfl rfl (cats_le _ (Nat.le_of_ble_eq_true rfl)) hl.1 dX11_tell_2 ⟨Nat.le_of_ble_eq_true rfl, Nat.le_of_ble_eq_true rfl⟩) C hM (fun _ => ⟨rfl, rfl⟩) hout hlk (Nat.le_of_ble_eq_true rfl) (Nat.le_of_ble_eq_true rfl) (fun v_1 H locs α9 hα h hX_1 hM => ?_)
  obtain rfl : α = α9 := (hα rfl).symm
  refine W_st (st' := []) rfl ?_
  refine c_aload_n (t := 0) (x := (some 0)) hx hb dX11_tell_5 rfl (lv_at hl 0 rfl) ?_
  refine lv_iload_n hx hb dX11_tell_6 rfl (lv_at hl 2 rfl) ?_
  obtain ⟨r_2, u_2, hr_2⟩ := xb_some h
  refine c_gox2 (T := (fun (_ : Unit) _ => none)) (T2 := (fun (v : Int32) _ => some (.int v))) h hr_2 (c_rVx (As := [.int x2]) (rest := []) C hM h17 (hM.cst 0 0 rfl) (by decide) (cc_X11_needWord l hst D ca A α u_1 x2 _ hr_2) cw_X11_126 ⟨rfl, rfl⟩ ⟨Nat.le_of_ble_eq_true rfl, Nat.le_of_ble_eq_true rfl⟩ rfl rfl (cats_le _ (Nat.le_of_ble_eq_true rfl)) hl.1 dX11_tell_7 ⟨Nat.le_of_ble_eq_true rfl, Nat.le_of_ble_eq_true rfl⟩) C hM (fun _ => ⟨rfl, rfl⟩) hout hlk (Nat.le_of_ble_eq_true rfl) (Nat.le_of_ble_eq_true rfl) (fun v_2 H locs α9 hα h hX_2 hM => ?_)
  obtain rfl : α = α9 := (hα rfl).symm
  refine W_st (st' := []) rfl ?_
  refine c_aload_n (t := 0) (x := (some 0)) hx hb dX11_tell_10 rfl (lv_at hl 0 rfl) ?_
  obtain ⟨r_3, u_3, hr_3⟩ := xb_some h
  refine c_gox2 (T := (fun (_ : Unit) _ => none)) (T2 := (fun (v : Int32) _ => some (.int v))) h hr_3 (c_rVx (As := []) (rest := []) C hM h17 (hM.cst 0 0 rfl) (by decide) (cc_X11_needNoPlay l hst D ca A α u_2 _ hr_3) cw_X11_110 ⟨rfl, rfl⟩ ⟨Nat.le_of_ble_eq_true rfl, Nat.le_of_ble_eq_true rfl⟩ rfl rfl (cats_le _ (Nat.le_of_ble_eq_true rfl)) hl.1 dX11_tell_11 ⟨Nat.le_of_ble_eq_true rfl, Nat.le_of_ble_eq_true rfl⟩) C hM (fun _ => ⟨rfl, rfl⟩) hout hlk (Nat.le_of_ble_eq_true rfl) (Nat.le_of_ble_eq_true rfl) (fun v_3 H locs α9 hα h hX_3 hM => ?_)
  obtain rfl : α = α9 := (hα rfl).symm
  refine W_st (st' := []) rfl ?_
  refine c_aload_n (t := 0) (x := (some 0)) hx hb dX11_tell_14 rfl (lv_at hl 0 rfl) ?_
  refine c_getb C hM (k := 0) (f := 1) (j := 0) (t := 2) (hM.cst 0 0 rfl) (by decide) fl_X11_25 dX11_tell_15 ?_
  refine c_getb C hM (k := 2) (f := 12) (j := 2) (t := 15) (hM.cst 2 0 rfl) (by decide) fl_X11_190 dX11_tell_18 ?_
  refine lv_iload_n hx hb dX11_tell_21 rfl (lv_at hl 1 rfl) ?_
  refine lv_dup2_11 hx hb dX11_tell_22 rfl cr_cat ?_
  obtain ⟨c_1, h⟩ := ko_of h
  refine c_lald C hM (hM.cst 15 2 rfl) (by rw [hM.ln 15 2 12 (by decide)]; exact c_1) dX11_tell_23 ?_
  refine lv_lconst (v := (1 : Int64)) hx hb dX11_tell_24 (by decide) ?_
  refine lv_iload_n hx hb dX11_tell_25 rfl (lv_at hl 2 rfl) ?_
  refine lv_lshl (v := ((1 : Int64) <<< (x2.toInt64 &&& 63))) hx hb dX11_tell_26 rfl ?_
  refine lv_lor hx hb dX11_tell_27 ?_
  obtain ⟨c_2, h⟩ := ko_of h
  refine c_last C hM (hM.cst 15 2 rfl) (by rw [hM.ln 15 2 12 (by decide)]; exact c_2) dX11_tell_28 (fun H locs hM => ?_)
  refine c_aload_n (t := 0) (x := (some 0)) hx hb dX11_tell_29 rfl (lv_at hl 0 rfl) ?_
  refine c_getb C hM (k := 0) (f := 1) (j := 0) (t := 2) (hM.cst 0 0 rfl) (by decide) fl_X11_25 dX11_tell_30 ?_
  refine c_getb C hM (k := 2) (f := 12) (j := 2) (t := 15) (hM.cst 2 0 rfl) (by decide) fl_X11_190 dX11_tell_33 ?_
  refine lv_iload_n hx hb dX11_tell_36 rfl (lv_at hl 1 rfl) ?_
  obtain ⟨c_3, h⟩ := ko_of h
  refine c_lald C hM (hM.cst 15 2 rfl) (by rw [hM.ln 15 2 12 (by decide)]; exact c_3) dX11_tell_37 ?_
  obtain ⟨r_4, hr_4, h⟩ := bd_of h
  refine c_go0 (c_rS (As := [.long (cJ (uJ u_3 15 2 x1.toNatClampNeg ((cJ u_3 15 2 x1.toNatClampNeg) ||| ((1 : Int64) <<< (x2.toInt64 &&& 63)))) 15 2 x1.toNatClampNeg)]) (rest := []) C hM h17 (cc_J13_bitCount_95d88 l D ca A α (uJ u_3 15 2 x1.toNatClampNeg ((cJ u_3 15 2 x1.toNatClampNeg) ||| ((1 : Int64) <<< (x2.toInt64 &&& 63)))) (cJ (uJ u_3 15 2 x1.toNatClampNeg ((cJ u_3 15 2 x1.toNatClampNeg) ||| ((1 : Int64) <<< (x2.toInt64 &&& 63)))) 15 2 x1.toNatClampNeg) _ hr_4) cw_X11_132 ⟨rfl, rfl⟩ ⟨Nat.le_of_ble_eq_true rfl, Nat.le_of_ble_eq_true rfl⟩ rfl rfl (cats_le _ (Nat.le_of_ble_eq_true rfl)) hl.1 dX11_tell_38 ⟨Nat.le_of_ble_eq_true rfl, Nat.le_of_ble_eq_true rfl⟩) hM (fun H locs hM => ?_)
  refine W_st (st' := [.int r_4.1]) rfl ?_
  exact c_xr h (c_ri (o := (r_4.1, r_4.2)) C hM (fun _ => rfl) hr hlk dX11_tell_41 rfl)
/-! Lorewick.goal(II)I -/
abbrev rc_X11_goal : Room := { frames := 7, cells := 4, slots := 24, locals := 111 }
def fc_X11_goal (σ : cS) (x1 : Int32) (x2 : Int32) : Option ((Nat ⊕ Int32) × cS) :=
  xb (fc_X11_needThing σ x1) fun v_1 u_1 =>
  xb (fc_X11_needRoom u_1 x2) fun v_2 u_2 =>
  xb (fc_X11_needNoPlay u_2) fun v_3 u_3 =>
  if (cI u_3 2 0 16) < (6 : Int32) then
    if (cI u_3 2 0 16) < 0 ∨ 6 ≤ (cI u_3 2 0 16).toNatClampNeg then none else
    if (cI (uI u_3 12 8 (cI u_3 2 0 16).toNatClampNeg x1) 2 0 16) < 0 ∨ 6 ≤ (cI (uI u_3 12 8 (cI u_3 2 0 16).toNatClampNeg x1) 2 0 16).toNatClampNeg then none else
    some (.inr (cI (uI (uI (uI u_3 12 8 (cI u_3 2 0 16).toNatClampNeg x1) 12 9 (cI (uI u_3 12 8 (cI u_3 2 0 16).toNatClampNeg x1) 2 0 16).toNatClampNeg x2) 2 0 16 ((cI (uI (uI u_3 12 8 (cI u_3 2 0 16).toNatClampNeg x1) 12 9 (cI (uI u_3 12 8 (cI u_3 2 0 16).toNatClampNeg x1) 2 0 16).toNatClampNeg x2) 2 0 16) + (1 : Int32))) 2 0 16), (uI (uI (uI u_3 12 8 (cI u_3 2 0 16).toNatClampNeg x1) 12 9 (cI (uI u_3 12 8 (cI u_3 2 0 16).toNatClampNeg x1) 2 0 16).toNatClampNeg x2) 2 0 16 ((cI (uI (uI u_3 12 8 (cI u_3 2 0 16).toNatClampNeg x1) 12 9 (cI (uI u_3 12 8 (cI u_3 2 0 16).toNatClampNeg x1) 2 0 16).toNatClampNeg x2) 2 0 16) + (1 : Int32))))
  else
    some (.inl 2, u_3)
set_option maxHeartbeats 4000000 in
set_option maxRecDepth 100000 in
theorem cc_X11_goal (l : Launch) (hst : l.stackTraces = false) (D : va_G) (ca : Nat → ClassId) (A : Nat → Prop) (α : cAl) (σ : cS) (x1 : Int32) (x2 : Int32) (o : (Nat ⊕ Int32) × cS) (h : fc_X11_goal σ x1 x2 = some o) : cMetX false l yX11_goal cX11_goal 3 ((some FieldType.int)) rc_X11_goal 4 24 D ca true A α σ [cr α 0 (some 0), .int x1, .int x2] (o.1.map id (fun (v : Int32) _ => some (.int v))) o.2 := by
  refine vx_ofW (cc := cX11_goal) (maxL := 3) (ret := (some FieldType.int)) (by decide) rfl ?_
  intro p e s m args below meth c s₁ B hml hout hv
  obtain ⟨rfl, hP, hK, hD0, hSh, hA, hG⟩ := hv
  have C : cC p s m _ c cX11_goal 3 RX11 D ca A α := ⟨B.exec, B.bytes, hml, findClass_of_methodNamed B.named, fun w hw => atoms_spec (ws := mWs yX11_goal cX11_goal 3 ((some FieldType.int))) B.pre w (List.mem_cons_of_mem _ hw), hK, hG⟩
  have hM : cM D ca true A s.heap σ α σ α s.heap [] := ⟨hP, hD0, hSh, va_S.rf, hA, cX.rf⟩
  have h17 : 0 < cn σ 17 := c_17 hM
  have hr := B.returns
  have hlk := B.notSynchronized
  have hx := C.1
  have hb := C.2.1
  have hl := lv_entry ([cr α 0 (some 0), .int x1, .int x2]) (n := 3) (Nat.le_of_ble_eq_true rfl)
  rw [lg_entry_eq]
  generalize (lg_sl ([cr α 0 (some 0), .int x1, .int x2]) ++ List.replicate (3 - (lg_sl ([cr α 0 (some 0), .int x1, .int x2])).length) Slot.unset).toArray = ls at hl ⊢
  have hl : lv_has ls 3 [(0, cr α 0 (some 0)), (1, .int x1), (2, .int x2)] := hl
  unfold fc_X11_goal at h
  refine c_aload_n (t := 0) (x := (some 0)) hx hb dX11_goal_0 rfl (lv_at hl 0 rfl) ?_
  refine lv_iload_n hx hb dX11_goal_1 rfl (lv_at hl 1 rfl) ?_
  obtain ⟨r_1, u_1, hr_1⟩ := xb_some h
  refine c_gox2 (T := (fun (_ : Unit) _ => none)) (T2 := (fun (v : Int32) _ => some (.int v))) h hr_1 (c_rVx (As := [.int x1]) (rest := []) C hM h17 (hM.cst 0 0 rfl) (by decide) (cc_X11_needThing l hst D ca A α σ x1 _ hr_1) cw_X11_148 ⟨rfl, rfl⟩ ⟨Nat.le_of_ble_eq_true rfl, Nat.le_of_ble_eq_true rfl⟩ rfl rfl (cats_le _ (Nat.le_of_ble_eq_true rfl)) hl.1 dX11_goal_2 ⟨Nat.le_of_ble_eq_true rfl, Nat.le_of_ble_eq_true rfl⟩) C hM (fun _ => ⟨rfl, rfl⟩) hout hlk (Nat.le_of_ble_eq_true rfl) (Nat.le_of_ble_eq_true rfl) (fun v_1 H locs α9 hα h hX_1 hM => ?_)
  obtain rfl : α = α9 := (hα rfl).symm
  refine W_st (st' := []) rfl ?_
  refine c_aload_n (t := 0) (x := (some 0)) hx hb dX11_goal_5 rfl (lv_at hl 0 rfl) ?_
  refine lv_iload_n hx hb dX11_goal_6 rfl (lv_at hl 2 rfl) ?_
  obtain ⟨r_2, u_2, hr_2⟩ := xb_some h
  refine c_gox2 (T := (fun (_ : Unit) _ => none)) (T2 := (fun (v : Int32) _ => some (.int v))) h hr_2 (c_rVx (As := [.int x2]) (rest := []) C hM h17 (hM.cst 0 0 rfl) (by decide) (cc_X11_needRoom l hst D ca A α u_1 x2 _ hr_2) cw_X11_122 ⟨rfl, rfl⟩ ⟨Nat.le_of_ble_eq_true rfl, Nat.le_of_ble_eq_true rfl⟩ rfl rfl (cats_le _ (Nat.le_of_ble_eq_true rfl)) hl.1 dX11_goal_7 ⟨Nat.le_of_ble_eq_true rfl, Nat.le_of_ble_eq_true rfl⟩) C hM (fun _ => ⟨rfl, rfl⟩) hout hlk (Nat.le_of_ble_eq_true rfl) (Nat.le_of_ble_eq_true rfl) (fun v_2 H locs α9 hα h hX_2 hM => ?_)
  obtain rfl : α = α9 := (hα rfl).symm
  refine W_st (st' := []) rfl ?_
  refine c_aload_n (t := 0) (x := (some 0)) hx hb dX11_goal_10 rfl (lv_at hl 0 rfl) ?_
  obtain ⟨r_3, u_3, hr_3⟩ := xb_some h
  refine c_gox2 (T := (fun (_ : Unit) _ => none)) (T2 := (fun (v : Int32) _ => some (.int v))) h hr_3 (c_rVx (As := []) (rest := []) C hM h17 (hM.cst 0 0 rfl) (by decide) (cc_X11_needNoPlay l hst D ca A α u_2 _ hr_3) cw_X11_110 ⟨rfl, rfl⟩ ⟨Nat.le_of_ble_eq_true rfl, Nat.le_of_ble_eq_true rfl⟩ rfl rfl (cats_le _ (Nat.le_of_ble_eq_true rfl)) hl.1 dX11_goal_11 ⟨Nat.le_of_ble_eq_true rfl, Nat.le_of_ble_eq_true rfl⟩) C hM (fun _ => ⟨rfl, rfl⟩) hout hlk (Nat.le_of_ble_eq_true rfl) (Nat.le_of_ble_eq_true rfl) (fun v_3 H locs α9 hα h hX_3 hM => ?_)
  obtain rfl : α = α9 := (hα rfl).symm
  refine W_st (st' := []) rfl ?_
  refine c_aload_n (t := 0) (x := (some 0)) hx hb dX11_goal_14 rfl (lv_at hl 0 rfl) ?_
  refine c_getb C hM (k := 0) (f := 1) (j := 0) (t := 2) (hM.cst 0 0 rfl) (by decide) fl_X11_25 dX11_goal_15 ?_
  refine c_geti C hM (k := 2) (f := 16) (hM.cst 2 0 rfl) rfl fl_X11_193 dX11_goal_18 ?_
  refine lv_bipush (v := (6 : Int32)) hx hb dX11_goal_21 (by decide) ?_
  refine lv_icmp_lt (tgt := 36) hx hb dX11_goal_23 (by decide) (fun c_1 => ?_) (fun c_1 => ?_)
  · have h := br_T c_1 h
    refine c_aload_n (t := 0) (x := (some 0)) hx hb dX11_goal_36 rfl (lv_at hl 0 rfl) ?_
    refine c_getb C hM (k := 0) (f := 1) (j := 0) (t := 2) (hM.cst 0 0 rfl) (by decide) fl_X11_25 dX11_goal_37 ?_
    refine c_getb C hM (k := 2) (f := 14) (j := 8) (t := 12) (hM.cst 2 0 rfl) (by decide) fl_X11_198 dX11_goal_40 ?_
    refine c_aload_n (t := 0) (x := (some 0)) hx hb dX11_goal_43 rfl (lv_at hl 0 rfl) ?_
    refine c_getb C hM (k := 0) (f := 1) (j := 0) (t := 2) (hM.cst 0 0 rfl) (by decide) fl_X11_25 dX11_goal_44 ?_
    refine c_geti C hM (k := 2) (f := 16) (hM.cst 2 0 rfl) rfl fl_X11_193 dX11_goal_47 ?_
    refine lv_iload_n hx hb dX11_goal_50 rfl (lv_at hl 1 rfl) ?_
    obtain ⟨c_2, h⟩ := ko_of h
    refine c_iast C hM (hM.cst 12 8 rfl) (by rw [hM.ln 12 8 6 (by decide)]; exact c_2) dX11_goal_51 (fun H locs hM => ?_)
    refine c_aload_n (t := 0) (x := (some 0)) hx hb dX11_goal_52 rfl (lv_at hl 0 rfl) ?_
    refine c_getb C hM (k := 0) (f := 1) (j := 0) (t := 2) (hM.cst 0 0 rfl) (by decide) fl_X11_25 dX11_goal_53 ?_
    refine c_getb C hM (k := 2) (f := 15) (j := 9) (t := 12) (hM.cst 2 0 rfl) (by decide) fl_X11_201 dX11_goal_56 ?_
    refine c_aload_n (t := 0) (x := (some 0)) hx hb dX11_goal_59 rfl (lv_at hl 0 rfl) ?_
    refine c_getb C hM (k := 0) (f := 1) (j := 0) (t := 2) (hM.cst 0 0 rfl) (by decide) fl_X11_25 dX11_goal_60 ?_
    refine c_geti C hM (k := 2) (f := 16) (hM.cst 2 0 rfl) rfl fl_X11_193 dX11_goal_63 ?_
    refine lv_iload_n hx hb dX11_goal_66 rfl (lv_at hl 2 rfl) ?_
    obtain ⟨c_3, h⟩ := ko_of h
    refine c_iast C hM (hM.cst 12 9 rfl) (by rw [hM.ln 12 9 6 (by decide)]; exact c_3) dX11_goal_67 (fun H locs hM => ?_)
    refine c_aload_n (t := 0) (x := (some 0)) hx hb dX11_goal_68 rfl (lv_at hl 0 rfl) ?_
    refine c_getb C hM (k := 0) (f := 1) (j := 0) (t := 2) (hM.cst 0 0 rfl) (by decide) fl_X11_25 dX11_goal_69 ?_
    refine lv_dup hx hb dX11_goal_72 cr_cat ?_
    refine c_geti C hM (k := 2) (f := 16) (hM.cst 2 0 rfl) rfl fl_X11_193 dX11_goal_73 ?_
    refine lv_iconst (v := (1 : Int32)) hx hb dX11_goal_76 (by decide) ?_
    refine lv_iadd hx hb dX11_goal_77 ?_
    refine c_puti C hM (k := 2) (f := 16) (hM.cst 2 0 rfl) rfl fl_X11_193 (Or.inl rfl) dX11_goal_78 (fun H locs hM => ?_)
    refine c_aload_n (t := 0) (x := (some 0)) hx hb dX11_goal_81 rfl (lv_at hl 0 rfl) ?_
    refine c_getb C hM (k := 0) (f := 1) (j := 0) (t := 2) (hM.cst 0 0 rfl) (by decide) fl_X11_25 dX11_goal_82 ?_
    refine c_geti C hM (k := 2) (f := 16) (hM.cst 2 0 rfl) rfl fl_X11_193 dX11_goal_85 ?_
    refine W.widen (k := 4) (n := 24) (Nat.le_of_ble_eq_true rfl) (Nat.le_of_ble_eq_true rfl) ?_
    exact c_xr h (c_ri (o := ((cI (uI (uI (uI u_3 12 8 (cI u_3 2 0 16).toNatClampNeg x1) 12 9 (cI (uI u_3 12 8 (cI u_3 2 0 16).toNatClampNeg x1) 2 0 16).toNatClampNeg x2) 2 0 16 ((cI (uI (uI u_3 12 8 (cI u_3 2 0 16).toNatClampNeg x1) 12 9 (cI (uI u_3 12 8 (cI u_3 2 0 16).toNatClampNeg x1) 2 0 16).toNatClampNeg x2) 2 0 16) + (1 : Int32))) 2 0 16), (uI (uI (uI u_3 12 8 (cI u_3 2 0 16).toNatClampNeg x1) 12 9 (cI (uI u_3 12 8 (cI u_3 2 0 16).toNatClampNeg x1) 2 0 16).toNatClampNeg x2) 2 0 16 ((cI (uI (uI u_3 12 8 (cI u_3 2 0 16).toNatClampNeg x1) 12 9 (cI (uI u_3 12 8 (cI u_3 2 0 16).toNatClampNeg x1) 2 0 16).toNatClampNeg x2) 2 0 16) + (1 : Int32))))) C hM (fun _ => rfl) hr hlk dX11_goal_88 rfl)
  · have h := br_F c_1 h
    exact c_throw (k := 2) (text := "there are 6 goals") C hM (fun _ => rfl) hst hout hlk (by decide +kernel) cx_at2 cx_ot2 (wl_in (i := 597) (by decide +kernel)) (wl_in (i := 21) (by decide +kernel)) rfl dX11_goal_26 dX11_goal_29 dX11_goal_30 dX11_goal_32 dX11_goal_35 hl.1 (Nat.le_of_ble_eq_true rfl) (Nat.le_of_ble_eq_true rfl) (Nat.le_of_ble_eq_true rfl) (Nat.le_of_ble_eq_true rfl) (Nat.le_of_ble_eq_true rfl) (Nat.le_of_ble_eq_true rfl) h
/-! Lorewick.hint(I)I -/
abbrev rc_X11_hint : Room := { frames := 6, cells := 1, slots := 6, locals := 90 }
def fc_X11_hint_11 (σ : cS) : Option ((Nat ⊕ Int32) × cS) :=
    some (.inl 1, σ)
set_option maxHeartbeats 4000000 in
set_option maxRecDepth 100000 in
theorem gc_X11_hint_11 {p : Program} {l : Launch} {e : Env} {s : State} {m : MethodId} {args : Array Value} {below : List Frame} {meth : Method} {c : Code} {D : va_G} {ca : Nat → ClassId} {A : Nat → Prop} {σ0 : cS} {α : cAl} {o : (Nat ⊕ Int32) × cS} (C : cC p s m args c cX11_hint 2 RX11 D ca A α) (hr : meth.sig.returnType = (some FieldType.int)) (hlk : meth.locks = false) (h17 : 0 < cn σ0 17) (hst : l.stackTraces = false) (hout : ∀ x ∈ c.exceptionTable.toList, False) : ∀ (σ : cS) (H : Heap) (locs : List Loc) (ls : Array Slot), cM D ca true A s.heap σ0 α σ α H locs → lv_has ls 2 [] → fc_X11_hint_11 σ = some o → W p l e rc_X11_hint s m args below meth c H locs 0 0 (vx_MQ below (cQx false D ca true A α σ0 (o.1.map id (fun (v : Int32) _ => some (.int v))) o.2) (cXC false D ca true A α σ0 (o.1.map id (fun (v : Int32) _ => some (.int v))) o.2) args s 1 6 A) (F0 m 11 ls []) := by
  have hx := C.1
  have hb := C.2.1
  intro σ H locs ls hM hl h
  unfold fc_X11_hint_11 at h
  exact c_throw (k := 1) (text := "the base is out of range") C hM (fun _ => rfl) hst hout hlk (by decide +kernel) cx_at1 cx_ot1 (wl_in (i := 525) (by decide +kernel)) (wl_in (i := 20) (by decide +kernel)) rfl dX11_hint_11 dX11_hint_14 dX11_hint_15 dX11_hint_17 dX11_hint_20 hl.1 (Nat.le_of_ble_eq_true rfl) (Nat.le_of_ble_eq_true rfl) (Nat.le_of_ble_eq_true rfl) (Nat.le_of_ble_eq_true rfl) (Nat.le_of_ble_eq_true rfl) (Nat.le_of_ble_eq_true rfl) h
def fc_X11_hint (σ : cS) (x1 : Int32) : Option ((Nat ⊕ Int32) × cS) :=
  if x1 < (1 : Int32) then
    fc_X11_hint_11 σ
  else
    if x1 ≤ (50 : Int32) then
      if (cI σ 5 0 2) < (12 : Int32) then
        if (cI σ 5 0 2) < 0 ∨ 12 ≤ (cI σ 5 0 2).toNatClampNeg then none else
        some (.inr ((cI (uI (uI σ 12 12 (cI σ 5 0 2).toNatClampNeg x1) 5 0 2 ((cI (uI σ 12 12 (cI σ 5 0 2).toNatClampNeg x1) 5 0 2) + (1 : Int32))) 5 0 2) - (1 : Int32)), (uI (uI σ 12 12 (cI σ 5 0 2).toNatClampNeg x1) 5 0 2 ((cI (uI σ 12 12 (cI σ 5 0 2).toNatClampNeg x1) 5 0 2) + (1 : Int32))))
      else
        some (.inl 2, σ)
    else
      fc_X11_hint_11 σ
set_option maxHeartbeats 4000000 in
set_option maxRecDepth 100000 in
theorem cc_X11_hint (l : Launch) (hst : l.stackTraces = false) (D : va_G) (ca : Nat → ClassId) (A : Nat → Prop) (α : cAl) (σ : cS) (x1 : Int32) (o : (Nat ⊕ Int32) × cS) (h : fc_X11_hint σ x1 = some o) : cMetX false l yX11_hint cX11_hint 2 ((some FieldType.int)) rc_X11_hint 1 6 D ca true A α σ [cr α 0 (some 0), .int x1] (o.1.map id (fun (v : Int32) _ => some (.int v))) o.2 := by
  refine vx_ofW (cc := cX11_hint) (maxL := 2) (ret := (some FieldType.int)) (by decide) rfl ?_
  intro p e s m args below meth c s₁ B hml hout hv
  obtain ⟨rfl, hP, hK, hD0, hSh, hA, hG⟩ := hv
  have C : cC p s m _ c cX11_hint 2 RX11 D ca A α := ⟨B.exec, B.bytes, hml, findClass_of_methodNamed B.named, fun w hw => atoms_spec (ws := mWs yX11_hint cX11_hint 2 ((some FieldType.int))) B.pre w (List.mem_cons_of_mem _ hw), hK, hG⟩
  have hM : cM D ca true A s.heap σ α σ α s.heap [] := ⟨hP, hD0, hSh, va_S.rf, hA, cX.rf⟩
  have h17 : 0 < cn σ 17 := c_17 hM
  have hr := B.returns
  have hlk := B.notSynchronized
  have hx := C.1
  have hb := C.2.1
  have hl := lv_entry ([cr α 0 (some 0), .int x1]) (n := 2) (Nat.le_of_ble_eq_true rfl)
  rw [lg_entry_eq]
  generalize (lg_sl ([cr α 0 (some 0), .int x1]) ++ List.replicate (2 - (lg_sl ([cr α 0 (some 0), .int x1])).length) Slot.unset).toArray = ls at hl ⊢
  have hl : lv_has ls 2 [(0, cr α 0 (some 0)), (1, .int x1)] := hl
  unfold fc_X11_hint at h
  refine lv_iload_n hx hb dX11_hint_0 rfl (lv_at hl 1 rfl) ?_
  refine lv_iconst (v := (1 : Int32)) hx hb dX11_hint_1 (by decide) ?_
  refine lv_icmp_lt (tgt := 11) hx hb dX11_hint_2 (by decide) (fun c_1 => ?_) (fun c_1 => ?_)
  · have h := br_T c_1 h
    exact gc_X11_hint_11 C hr hlk h17 hst hout  _ _ _ _ hM (lv_sub hl [] rfl) h
  · have h := br_F c_1 h
    refine lv_iload_n hx hb dX11_hint_5 rfl (lv_at hl 1 rfl) ?_
    refine lv_bipush (v := (50 : Int32)) hx hb dX11_hint_6 (by decide) ?_
    refine lv_icmp_le (tgt := 21) hx hb dX11_hint_8 (by decide) (fun c_2 => ?_) (fun c_2 => ?_)
    · have h := br_T c_2 h
      refine c_aload_n (t := 0) (x := (some 0)) hx hb dX11_hint_21 rfl (lv_at hl 0 rfl) ?_
      refine c_getb C hM (k := 0) (f := 4) (j := 0) (t := 5) (hM.cst 0 0 rfl) (by decide) fl_X11_48 dX11_hint_22 ?_
      refine c_geti C hM (k := 5) (f := 2) (hM.cst 5 0 rfl) rfl fl_X11_206 dX11_hint_25 ?_
      refine lv_bipush (v := (12 : Int32)) hx hb dX11_hint_28 (by decide) ?_
      refine lv_icmp_lt (tgt := 43) hx hb dX11_hint_30 (by decide) (fun c_3 => ?_) (fun c_3 => ?_)
      · have h := br_T c_3 h
        refine c_aload_n (t := 0) (x := (some 0)) hx hb dX11_hint_43 rfl (lv_at hl 0 rfl) ?_
        refine c_getb C hM (k := 0) (f := 4) (j := 0) (t := 5) (hM.cst 0 0 rfl) (by decide) fl_X11_48 dX11_hint_44 ?_
        refine c_getb C hM (k := 5) (f := 0) (j := 12) (t := 12) (hM.cst 5 0 rfl) (by decide) fl_X11_211 dX11_hint_47 ?_
        refine c_aload_n (t := 0) (x := (some 0)) hx hb dX11_hint_50 rfl (lv_at hl 0 rfl) ?_
        refine c_getb C hM (k := 0) (f := 4) (j := 0) (t := 5) (hM.cst 0 0 rfl) (by decide) fl_X11_48 dX11_hint_51 ?_
        refine c_geti C hM (k := 5) (f := 2) (hM.cst 5 0 rfl) rfl fl_X11_206 dX11_hint_54 ?_
        refine lv_iload_n hx hb dX11_hint_57 rfl (lv_at hl 1 rfl) ?_
        obtain ⟨c_4, h⟩ := ko_of h
        refine c_iast C hM (hM.cst 12 12 rfl) (by rw [hM.ln 12 12 12 (by decide)]; exact c_4) dX11_hint_58 (fun H locs hM => ?_)
        refine c_aload_n (t := 0) (x := (some 0)) hx hb dX11_hint_59 rfl (lv_at hl 0 rfl) ?_
        refine c_getb C hM (k := 0) (f := 4) (j := 0) (t := 5) (hM.cst 0 0 rfl) (by decide) fl_X11_48 dX11_hint_60 ?_
        refine lv_dup hx hb dX11_hint_63 cr_cat ?_
        refine c_geti C hM (k := 5) (f := 2) (hM.cst 5 0 rfl) rfl fl_X11_206 dX11_hint_64 ?_
        refine lv_iconst (v := (1 : Int32)) hx hb dX11_hint_67 (by decide) ?_
        refine lv_iadd hx hb dX11_hint_68 ?_
        refine c_puti C hM (k := 5) (f := 2) (hM.cst 5 0 rfl) rfl fl_X11_206 (Or.inl rfl) dX11_hint_69 (fun H locs hM => ?_)
        refine c_aload_n (t := 0) (x := (some 0)) hx hb dX11_hint_72 rfl (lv_at hl 0 rfl) ?_
        refine c_getb C hM (k := 0) (f := 4) (j := 0) (t := 5) (hM.cst 0 0 rfl) (by decide) fl_X11_48 dX11_hint_73 ?_
        refine c_geti C hM (k := 5) (f := 2) (hM.cst 5 0 rfl) rfl fl_X11_206 dX11_hint_76 ?_
        refine lv_iconst (v := (1 : Int32)) hx hb dX11_hint_79 (by decide) ?_
        refine lv_isub hx hb dX11_hint_80 ?_
        refine W.widen (k := 1) (n := 6) (Nat.le_of_ble_eq_true rfl) (Nat.le_of_ble_eq_true rfl) ?_
        exact c_xr h (c_ri (o := (((cI (uI (uI σ 12 12 (cI σ 5 0 2).toNatClampNeg x1) 5 0 2 ((cI (uI σ 12 12 (cI σ 5 0 2).toNatClampNeg x1) 5 0 2) + (1 : Int32))) 5 0 2) - (1 : Int32)), (uI (uI σ 12 12 (cI σ 5 0 2).toNatClampNeg x1) 5 0 2 ((cI (uI σ 12 12 (cI σ 5 0 2).toNatClampNeg x1) 5 0 2) + (1 : Int32))))) C hM (fun _ => rfl) hr hlk dX11_hint_81 rfl)
      · have h := br_F c_3 h
        exact c_throw (k := 2) (text := "there are 12 hints") C hM (fun _ => rfl) hst hout hlk (by decide +kernel) cx_at2 cx_ot2 (wl_in (i := 597) (by decide +kernel)) (wl_in (i := 21) (by decide +kernel)) rfl dX11_hint_33 dX11_hint_36 dX11_hint_37 dX11_hint_39 dX11_hint_42 hl.1 (Nat.le_of_ble_eq_true rfl) (Nat.le_of_ble_eq_true rfl) (Nat.le_of_ble_eq_true rfl) (Nat.le_of_ble_eq_true rfl) (Nat.le_of_ble_eq_true rfl) (Nat.le_of_ble_eq_true rfl) h
    · have h := br_F c_2 h
      exact gc_X11_hint_11 C hr hlk h17 hst hout  _ _ _ _ hM (lv_sub hl [] rfl) h
/-! Lorewick.needHint(I)V -/
abbrev rc_X11_needHint : Room := { frames := 6, cells := 1, slots := 6, locals := 90 }
def fc_X11_needHint (σ : cS) (x1 : Int32) : Option ((Nat ⊕ Unit) × cS) :=
  (fc_X5_hasHint σ x1).bind fun r_1 =>
  if r_1.1 = 0 then
    some (.inl 4, r_1.2)
  else
    some (.inr (), r_1.2)
set_option maxHeartbeats 4000000 in
set_option maxRecDepth 100000 in
theorem cc_X11_needHint (l : Launch) (hst : l.stackTraces = false) (D : va_G) (ca : Nat → ClassId) (A : Nat → Prop) (α : cAl) (σ : cS) (x1 : Int32) (o : (Nat ⊕ Unit) × cS) (h : fc_X11_needHint σ x1 = some o) : cMetX false l yX11_needHint cX11_needHint 2 ((none : Option FieldType)) rc_X11_needHint 1 6 D ca true A α σ [cr α 0 (some 0), .int x1] (o.1.map id (fun (_ : Unit) _ => none)) o.2 := by
  refine vx_ofW (cc := cX11_needHint) (maxL := 2) (ret := (none : Option FieldType)) (by decide) rfl ?_
  intro p e s m args below meth c s₁ B hml hout hv
  obtain ⟨rfl, hP, hK, hD0, hSh, hA, hG⟩ := hv
  have C : cC p s m _ c cX11_needHint 2 RX11 D ca A α := ⟨B.exec, B.bytes, hml, findClass_of_methodNamed B.named, fun w hw => atoms_spec (ws := mWs yX11_needHint cX11_needHint 2 ((none : Option FieldType))) B.pre w (List.mem_cons_of_mem _ hw), hK, hG⟩
  have hM : cM D ca true A s.heap σ α σ α s.heap [] := ⟨hP, hD0, hSh, va_S.rf, hA, cX.rf⟩
  have h17 : 0 < cn σ 17 := c_17 hM
  have hr := B.returns
  have hlk := B.notSynchronized
  have hx := C.1
  have hb := C.2.1
  have hl := lv_entry ([cr α 0 (some 0), .int x1]) (n := 2) (Nat.le_of_ble_eq_true rfl)
  rw [lg_entry_eq]
  generalize (lg_sl ([cr α 0 (some 0), .int x1]) ++ List.replicate (2 - (lg_sl ([cr α 0 (some 0), .int x1])).length) Slot.unset).toArray = ls at hl ⊢
  have hl : lv_has ls 2 [(0, cr α 0 (some 0)), (1, .int x1)] := hl
  unfold fc_X11_needHint at h
  refine c_aload_n (t := 0) (x := (some 0)) hx hb dX11_needHint_0 rfl (lv_at hl 0 rfl) ?_
  refine c_getb C hM (k := 0) (f := 4) (j := 0) (t := 5) (hM.cst 0 0 rfl) (by decide) fl_X11_48 dX11_needHint_1 ?_
  refine lv_iload_n hx hb dX11_needHint_4 rfl (lv_at hl 1 rfl) ?_
  obtain ⟨r_1, hr_1, h⟩ := bd_of h
  refine c_go0 (c_rV (As := [.int x1]) (rest := []) C hM h17 (hM.cst 5 0 rfl) (by decide) (cc_X5_hasHint l D ca A α σ x1 _ hr_1) cw_X11_525 ⟨rfl, rfl⟩ ⟨Nat.le_of_ble_eq_true rfl, Nat.le_of_ble_eq_true rfl⟩ rfl rfl (cats_le _ (Nat.le_of_ble_eq_true rfl)) hl.1 dX11_needHint_5 ⟨Nat.le_of_ble_eq_true rfl, Nat.le_of_ble_eq_true rfl⟩) hM (fun H locs hM => ?_)
  refine W_st (st' := [.int r_1.1]) rfl ?_
  refine lv_if_ne (tgt := 22) hx hb dX11_needHint_8 (by decide) (fun c_1 => ?_) (fun c_1 => ?_)
  · have h := br_F c_1 h
    refine W.widen (k := 1) (n := 6) (Nat.le_of_ble_eq_true rfl) (Nat.le_of_ble_eq_true rfl) ?_
    exact c_xr h (c_rv (o := r_1.2) C hM (fun _ => rfl) hr hlk dX11_needHint_22 rfl)
  · have h := br_T c_1 h
    exact c_throwW (k := 4) (text := "no such hint") C hM (fun _ => rfl) hst hout hlk (by decide +kernel) cx_at4 cx_ot4 (wl_in (i := 715) (by decide +kernel)) (wl_in (i := 23) (by decide +kernel)) rfl dX11_needHint_11 dX11_needHint_14 dX11_needHint_15 dX11_needHint_18 dX11_needHint_21 hl.1 (Nat.le_of_ble_eq_true rfl) (Nat.le_of_ble_eq_true rfl) (Nat.le_of_ble_eq_true rfl) (Nat.le_of_ble_eq_true rfl) (Nat.le_of_ble_eq_true rfl) (Nat.le_of_ble_eq_true rfl) h
/-! Lorewick.teach(II)I -/
abbrev rc_X11_teach : Room := { frames := 7, cells := 3, slots := 18, locals := 124 }
def fc_X11_teach (σ : cS) (x1 : Int32) (x2 : Int32) : Option ((Nat ⊕ Int32) × cS) :=
  xb (fc_X11_needHint σ x1) fun v_1 u_1 =>
  xb (fc_X11_needWord u_1 x2) fun v_2 u_2 =>
  if x1 < 0 ∨ 12 ≤ x1.toNatClampNeg then none else
  (fc_X11_includes u_2 (cJ u_2 15 3 x1.toNatClampNeg) x2).bind fun r_3 =>
  if r_3.1 = 0 then
    (fc_X5_wasSold r_3.2 x1).bind fun r_4 =>
    if r_4.1 = 0 then
      (fc_J13_bitCount_95d88 r_4.2 (cJ u_2 15 3 x1.toNatClampNeg)).bind fun r_5 =>
      if r_5.1 < (6 : Int32) then
        if x1 < 0 ∨ 12 ≤ x1.toNatClampNeg then none else
        if x1 < 0 ∨ 12 ≤ x1.toNatClampNeg then none else
        (fc_J13_bitCount_95d88 (uJ r_5.2 15 3 x1.toNatClampNeg ((cJ u_2 15 3 x1.toNatClampNeg) ||| ((1 : Int64) <<< (x2.toInt64 &&& 63)))) (cJ (uJ r_5.2 15 3 x1.toNatClampNeg ((cJ u_2 15 3 x1.toNatClampNeg) ||| ((1 : Int64) <<< (x2.toInt64 &&& 63)))) 15 3 x1.toNatClampNeg)).bind fun r_6 =>
        some (.inr r_6.1, r_6.2)
      else
        some (.inl 2, r_5.2)
    else
      some (.inl 3, r_4.2)
  else
    some (.inl 3, r_3.2)
set_option maxHeartbeats 4000000 in
set_option maxRecDepth 100000 in
theorem cc_X11_teach (l : Launch) (hst : l.stackTraces = false) (D : va_G) (ca : Nat → ClassId) (A : Nat → Prop) (α : cAl) (σ : cS) (x1 : Int32) (x2 : Int32) (o : (Nat ⊕ Int32) × cS) (h : fc_X11_teach σ x1 x2 = some o) : cMetX false l yX11_teach cX11_teach 5 ((some FieldType.int)) rc_X11_teach 3 18 D ca true A α σ [cr α 0 (some 0), .int x1, .int x2] (o.1.map id (fun (v : Int32) _ => some (.int v))) o.2 := by
  refine vx_ofW (cc := cX11_teach) (maxL := 5) (ret := (some FieldType.int)) (by decide) rfl ?_
  intro p e s m args below meth c s₁ B hml hout hv
  obtain ⟨rfl, hP, hK, hD0, hSh, hA, hG⟩ := hv
  have C : cC p s m _ c cX11_teach 5 RX11 D ca A α := ⟨B.exec, B.bytes, hml, findClass_of_methodNamed B.named, fun w hw => atoms_spec (ws := mWs yX11_teach cX11_teach 5 ((some FieldType.int))) B.pre w (List.mem_cons_of_mem _ hw), hK, hG⟩
  have hM : cM D ca true A s.heap σ α σ α s.heap [] := ⟨hP, hD0, hSh, va_S.rf, hA, cX.rf⟩
  have h17 : 0 < cn σ 17 := c_17 hM
  have hr := B.returns
  have hlk := B.notSynchronized
  have hx := C.1
  have hb := C.2.1
  have hl := lv_entry ([cr α 0 (some 0), .int x1, .int x2]) (n := 5) (Nat.le_of_ble_eq_true rfl)
  rw [lg_entry_eq]
  generalize (lg_sl ([cr α 0 (some 0), .int x1, .int x2]) ++ List.replicate (5 - (lg_sl ([cr α 0 (some 0), .int x1, .int x2])).length) Slot.unset).toArray = ls at hl ⊢
  have hl : lv_has ls 5 [(0, cr α 0 (some 0)), (1, .int x1), (2, .int x2)] := hl
  unfold fc_X11_teach at h
  refine c_aload_n (t := 0) (x := (some 0)) hx hb dX11_teach_0 rfl (lv_at hl 0 rfl) ?_
  refine lv_iload_n hx hb dX11_teach_1 rfl (lv_at hl 1 rfl) ?_
  obtain ⟨r_1, u_1, hr_1⟩ := xb_some h
  refine c_gox2 (T := (fun (_ : Unit) _ => none)) (T2 := (fun (v : Int32) _ => some (.int v))) h hr_1 (c_rVx (As := [.int x1]) (rest := []) C hM h17 (hM.cst 0 0 rfl) (by decide) (cc_X11_needHint l hst D ca A α σ x1 _ hr_1) cw_X11_214 ⟨rfl, rfl⟩ ⟨Nat.le_of_ble_eq_true rfl, Nat.le_of_ble_eq_true rfl⟩ rfl rfl (cats_le _ (Nat.le_of_ble_eq_true rfl)) hl.1 dX11_teach_2 ⟨Nat.le_of_ble_eq_true rfl, Nat.le_of_ble_eq_true rfl⟩) C hM (fun _ => ⟨rfl, rfl⟩) hout hlk (Nat.le_of_ble_eq_true rfl) (Nat.le_of_ble_eq_true rfl) (fun v_1 H locs α9 hα h hX_1 hM => ?_)
  obtain rfl : α = α9 := (hα rfl).symm
  refine W_st (st' := []) rfl ?_
  refine c_aload_n (t := 0) (x := (some 0)) hx hb dX11_teach_5 rfl (lv_at hl 0 rfl) ?_
  refine lv_iload_n hx hb dX11_teach_6 rfl (lv_at hl 2 rfl) ?_
  obtain ⟨r_2, u_2, hr_2⟩ := xb_some h
  refine c_gox2 (T := (fun (_ : Unit) _ => none)) (T2 := (fun (v : Int32) _ => some (.int v))) h hr_2 (c_rVx (As := [.int x2]) (rest := []) C hM h17 (hM.cst 0 0 rfl) (by decide) (cc_X11_needWord l hst D ca A α u_1 x2 _ hr_2) cw_X11_126 ⟨rfl, rfl⟩ ⟨Nat.le_of_ble_eq_true rfl, Nat.le_of_ble_eq_true rfl⟩ rfl rfl (cats_le _ (Nat.le_of_ble_eq_true rfl)) hl.1 dX11_teach_7 ⟨Nat.le_of_ble_eq_true rfl, Nat.le_of_ble_eq_true rfl⟩) C hM (fun _ => ⟨rfl, rfl⟩) hout hlk (Nat.le_of_ble_eq_true rfl) (Nat.le_of_ble_eq_true rfl) (fun v_2 H locs α9 hα h hX_2 hM => ?_)
  obtain rfl : α = α9 := (hα rfl).symm
  refine W_st (st' := []) rfl ?_
  refine c_aload_n (t := 0) (x := (some 0)) hx hb dX11_teach_10 rfl (lv_at hl 0 rfl) ?_
  refine c_getb C hM (k := 0) (f := 4) (j := 0) (t := 5) (hM.cst 0 0 rfl) (by decide) fl_X11_48 dX11_teach_11 ?_
  refine c_getb C hM (k := 5) (f := 1) (j := 3) (t := 15) (hM.cst 5 0 rfl) (by decide) fl_X11_217 dX11_teach_14 ?_
  refine lv_iload_n hx hb dX11_teach_17 rfl (lv_at hl 1 rfl) ?_
  obtain ⟨c_1, h⟩ := ko_of h
  refine c_lald C hM (hM.cst 15 3 rfl) (by rw [hM.ln 15 3 12 (by decide)]; exact c_1) dX11_teach_18 ?_
  refine lv_lstore_n (lv' := [(3, .long (cJ u_2 15 3 x1.toNatClampNeg)), (0, cr α 0 (some 0)), (1, .int x1), (2, .int x2)]) hx hb dX11_teach_19 rfl hl (by decide) rfl (fun ls hl => ?_)
  refine lv_lload_n hx hb dX11_teach_20 rfl (lv_at hl 0 rfl) ?_
  refine lv_iload_n hx hb dX11_teach_21 rfl (lv_at hl 3 rfl) ?_
  obtain ⟨r_3, hr_3, h⟩ := bd_of h
  refine c_go0 (c_rS (As := [.long (cJ u_2 15 3 x1.toNatClampNeg), .int x2]) (rest := []) C hM h17 (cc_X11_includes l D ca A α u_2 (cJ u_2 15 3 x1.toNatClampNeg) x2 _ hr_3) cw_X11_220 ⟨rfl, rfl⟩ ⟨Nat.le_of_ble_eq_true rfl, Nat.le_of_ble_eq_true rfl⟩ rfl rfl (cats_le _ (Nat.le_of_ble_eq_true rfl)) hl.1 dX11_teach_22 ⟨Nat.le_of_ble_eq_true rfl, Nat.le_of_ble_eq_true rfl⟩) hM (fun H locs hM => ?_)
  refine W_st (st' := [.int r_3.1]) rfl ?_
  refine lv_if_eq (tgt := 38) hx hb dX11_teach_25 (by decide) (fun c_2 => ?_) (fun c_2 => ?_)
  · have h := br_T c_2 h
    refine c_aload_n (t := 0) (x := (some 0)) hx hb dX11_teach_38 rfl (lv_at hl 1 rfl) ?_
    refine c_getb C hM (k := 0) (f := 4) (j := 0) (t := 5) (hM.cst 0 0 rfl) (by decide) fl_X11_48 dX11_teach_39 ?_
    refine lv_iload_n hx hb dX11_teach_42 rfl (lv_at hl 2 rfl) ?_
    obtain ⟨r_4, hr_4, h⟩ := bd_of h
    refine c_go0 (c_rV (As := [.int x1]) (rest := []) C hM h17 (hM.cst 5 0 rfl) (by decide) (cc_X5_wasSold l D ca A α r_3.2 x1 _ hr_4) cw_X11_226 ⟨rfl, rfl⟩ ⟨Nat.le_of_ble_eq_true rfl, Nat.le_of_ble_eq_true rfl⟩ rfl rfl (cats_le _ (Nat.le_of_ble_eq_true rfl)) hl.1 dX11_teach_43 ⟨Nat.le_of_ble_eq_true rfl, Nat.le_of_ble_eq_true rfl⟩) hM (fun H locs hM => ?_)
    refine W_st (st' := [.int r_4.1]) rfl ?_
    refine lv_if_eq (tgt := 59) hx hb dX11_teach_46 (by decide) (fun c_3 => ?_) (fun c_3 => ?_)
    · have h := br_T c_3 h
      refine lv_lload_n hx hb dX11_teach_59 rfl (lv_at hl 0 rfl) ?_
      obtain ⟨r_5, hr_5, h⟩ := bd_of h
      refine c_go0 (c_rS (As := [.long (cJ u_2 15 3 x1.toNatClampNeg)]) (rest := []) C hM h17 (cc_J13_bitCount_95d88 l D ca A α r_4.2 (cJ u_2 15 3 x1.toNatClampNeg) _ hr_5) cw_X11_132 ⟨rfl, rfl⟩ ⟨Nat.le_of_ble_eq_true rfl, Nat.le_of_ble_eq_true rfl⟩ rfl rfl (cats_le _ (Nat.le_of_ble_eq_true rfl)) hl.1 dX11_teach_60 ⟨Nat.le_of_ble_eq_true rfl, Nat.le_of_ble_eq_true rfl⟩) hM (fun H locs hM => ?_)
      refine W_st (st' := [.int r_5.1]) rfl ?_
      refine lv_bipush (v := (6 : Int32)) hx hb dX11_teach_63 (by decide) ?_
      refine lv_icmp_lt (tgt := 78) hx hb dX11_teach_65 (by decide) (fun c_4 => ?_) (fun c_4 => ?_)
      · have h := br_T c_4 h
        refine c_aload_n (t := 0) (x := (some 0)) hx hb dX11_teach_78 rfl (lv_at hl 1 rfl) ?_
        refine c_getb C hM (k := 0) (f := 4) (j := 0) (t := 5) (hM.cst 0 0 rfl) (by decide) fl_X11_48 dX11_teach_79 ?_
        refine c_getb C hM (k := 5) (f := 1) (j := 3) (t := 15) (hM.cst 5 0 rfl) (by decide) fl_X11_217 dX11_teach_82 ?_
        refine lv_iload_n hx hb dX11_teach_85 rfl (lv_at hl 2 rfl) ?_
        refine lv_lload_n hx hb dX11_teach_86 rfl (lv_at hl 0 rfl) ?_
        refine lv_lconst (v := (1 : Int64)) hx hb dX11_teach_87 (by decide) ?_
        refine lv_iload_n hx hb dX11_teach_88 rfl (lv_at hl 3 rfl) ?_
        refine lv_lshl (v := ((1 : Int64) <<< (x2.toInt64 &&& 63))) hx hb dX11_teach_89 rfl ?_
        refine lv_lor hx hb dX11_teach_90 ?_
        obtain ⟨c_5, h⟩ := ko_of h
        refine c_last C hM (hM.cst 15 3 rfl) (by rw [hM.ln 15 3 12 (by decide)]; exact c_5) dX11_teach_91 (fun H locs hM => ?_)
        refine c_aload_n (t := 0) (x := (some 0)) hx hb dX11_teach_92 rfl (lv_at hl 1 rfl) ?_
        refine c_getb C hM (k := 0) (f := 4) (j := 0) (t := 5) (hM.cst 0 0 rfl) (by decide) fl_X11_48 dX11_teach_93 ?_
        refine c_getb C hM (k := 5) (f := 1) (j := 3) (t := 15) (hM.cst 5 0 rfl) (by decide) fl_X11_217 dX11_teach_96 ?_
        refine lv_iload_n hx hb dX11_teach_99 rfl (lv_at hl 2 rfl) ?_
        obtain ⟨c_6, h⟩ := ko_of h
        refine c_lald C hM (hM.cst 15 3 rfl) (by rw [hM.ln 15 3 12 (by decide)]; exact c_6) dX11_teach_100 ?_
        obtain ⟨r_6, hr_6, h⟩ := bd_of h
        refine c_go0 (c_rS (As := [.long (cJ (uJ r_5.2 15 3 x1.toNatClampNeg ((cJ u_2 15 3 x1.toNatClampNeg) ||| ((1 : Int64) <<< (x2.toInt64 &&& 63)))) 15 3 x1.toNatClampNeg)]) (rest := []) C hM h17 (cc_J13_bitCount_95d88 l D ca A α (uJ r_5.2 15 3 x1.toNatClampNeg ((cJ u_2 15 3 x1.toNatClampNeg) ||| ((1 : Int64) <<< (x2.toInt64 &&& 63)))) (cJ (uJ r_5.2 15 3 x1.toNatClampNeg ((cJ u_2 15 3 x1.toNatClampNeg) ||| ((1 : Int64) <<< (x2.toInt64 &&& 63)))) 15 3 x1.toNatClampNeg) _ hr_6) cw_X11_132 ⟨rfl, rfl⟩ ⟨Nat.le_of_ble_eq_true rfl, Nat.le_of_ble_eq_true rfl⟩ rfl rfl (cats_le _ (Nat.le_of_ble_eq_true rfl)) hl.1 dX11_teach_101 ⟨Nat.le_of_ble_eq_true rfl, Nat.le_of_ble_eq_true rfl⟩) hM (fun H locs hM => ?_)
        refine W_st (st' := [.int r_6.1]) rfl ?_
        refine W.widen (k := 3) (n := 18) (Nat.le_of_ble_eq_true rfl) (Nat.le_of_ble_eq_true rfl) ?_
        exact c_xr h (c_ri (o := (r_6.1, r_6.2)) C hM (fun _ => rfl) hr hlk dX11_teach_104 rfl)
      · have h := br_F c_4 h
        exact c_throw (k := 2) (text := "it has 6 words") C hM (fun _ => rfl) hst hout hlk (by decide +kernel) cx_at2 cx_ot2 (wl_in (i := 597) (by decide +kernel)) (wl_in (i := 21) (by decide +kernel)) rfl dX11_teach_68 dX11_teach_71 dX11_teach_72 dX11_teach_74 dX11_teach_77 hl.1 (Nat.le_of_ble_eq_true rfl) (Nat.le_of_ble_eq_true rfl) (Nat.le_of_ble_eq_true rfl) (Nat.le_of_ble_eq_true rfl) (Nat.le_of_ble_eq_true rfl) (Nat.le_of_ble_eq_true rfl) h
    · have h := br_F c_3 h
      exact c_throw (k := 3) (text := "it was sold") C hM (fun _ => rfl) hst hout hlk (by decide +kernel) cx_at3 cx_ot3 (wl_in (i := 638) (by decide +kernel)) (wl_in (i := 22) (by decide +kernel)) rfl dX11_teach_49 dX11_teach_52 dX11_teach_53 dX11_teach_55 dX11_teach_58 hl.1 (Nat.le_of_ble_eq_true rfl) (Nat.le_of_ble_eq_true rfl) (Nat.le_of_ble_eq_true rfl) (Nat.le_of_ble_eq_true rfl) (Nat.le_of_ble_eq_true rfl) (Nat.le_of_ble_eq_true rfl) h
  · have h := br_F c_2 h
    exact c_throw (k := 3) (text := "it has this word") C hM (fun _ => rfl) hst hout hlk (by decide +kernel) cx_at3 cx_ot3 (wl_in (i := 638) (by decide +kernel)) (wl_in (i := 22) (by decide +kernel)) rfl dX11_teach_28 dX11_teach_31 dX11_teach_32 dX11_teach_34 dX11_teach_37 hl.1 (Nat.le_of_ble_eq_true rfl) (Nat.le_of_ble_eq_true rfl) (Nat.le_of_ble_eq_true rfl) (Nat.le_of_ble_eq_true rfl) (Nat.le_of_ble_eq_true rfl) (Nat.le_of_ble_eq_true rfl) h
/-! Lorewick.wordsKnown()I -/
abbrev rc_X11_wordsKnown : Room := { frames := 5, cells := 0, slots := 0, locals := 122 }
def fc_X11_wordsKnown (σ : cS) : Option (Int32 × cS) :=
  (fc_X8_current σ).bind fun r_1 =>
  (dr r_1.2 7 r_1.1).bind fun i_2 =>
  (fc_X2_wordsOfPath r_1.2 r_1.1).bind fun r_3 =>
  (fc_J13_bitCount_95d88 r_3.2 r_3.1).bind fun r_4 =>
  some (r_4.1, r_4.2)
set_option maxHeartbeats 4000000 in
set_option maxRecDepth 100000 in
theorem cc_X11_wordsKnown (l : Launch) (D : va_G) (ca : Nat → ClassId) (A : Nat → Prop) (α : cAl) (σ : cS) (o : Int32 × cS) (h : fc_X11_wordsKnown σ  = some o) : cMet false l yX11_wordsKnown cX11_wordsKnown 1 ((some FieldType.int)) rc_X11_wordsKnown 0 0 D ca true A α σ [cr α 0 (some 0)] (fun _ => some (.int o.1)) o.2 := by
  refine Met.ofW (cc := cX11_wordsKnown) (maxL := 1) (ret := (some FieldType.int)) (by decide) rfl ?_
  intro p e s m args below meth c s₁ B hml hv
  obtain ⟨rfl, hP, hK, hD0, hSh, hA, hG⟩ := hv
  have C : cC p s m _ c cX11_wordsKnown 1 RX11 D ca A α := ⟨B.exec, B.bytes, hml, findClass_of_methodNamed B.named, fun w hw => atoms_spec (ws := mWs yX11_wordsKnown cX11_wordsKnown 1 ((some FieldType.int))) B.pre w (List.mem_cons_of_mem _ hw), hK, hG⟩
  have hM : cM D ca true A s.heap σ α σ α s.heap [] := ⟨hP, hD0, hSh, va_S.rf, hA, cX.rf⟩
  have h17 : 0 < cn σ 17 := c_17 hM
  have hr := B.returns
  have hlk := B.notSynchronized
  have hx := C.1
  have hb := C.2.1
  have hl := lv_entry ([cr α 0 (some 0)]) (n := 1) (Nat.le_of_ble_eq_true rfl)
  rw [lg_entry_eq]
  generalize (lg_sl ([cr α 0 (some 0)]) ++ List.replicate (1 - (lg_sl ([cr α 0 (some 0)])).length) Slot.unset).toArray = ls at hl ⊢
  have hl : lv_has ls 1 [(0, cr α 0 (some 0))] := hl
  unfold fc_X11_wordsKnown at h
  refine c_aload_n (t := 0) (x := (some 0)) hx hb dX11_wordsKnown_0 rfl (lv_at hl 0 rfl) ?_
  refine c_getb C hM (k := 0) (f := 3) (j := 0) (t := 4) (hM.cst 0 0 rfl) (by decide) fl_X11_41 dX11_wordsKnown_1 ?_
  obtain ⟨r_1, hr_1, h⟩ := bd_of h
  refine c_go0 (c_rV (As := []) (rest := []) C hM h17 (hM.cst 4 0 rfl) (by decide) (cc_X8_current l D ca A α σ _ hr_1) cw_X11_338 ⟨rfl, rfl⟩ ⟨Nat.le_of_ble_eq_true rfl, Nat.le_of_ble_eq_true rfl⟩ rfl rfl (cats_le _ (Nat.le_of_ble_eq_true rfl)) hl.1 dX11_wordsKnown_4 ⟨Nat.le_of_ble_eq_true rfl, Nat.le_of_ble_eq_true rfl⟩) hM (fun H locs hM => ?_)
  refine W_st (st' := [cr α 7 r_1.1]) rfl ?_
  obtain ⟨i_2, hd_2, h⟩ := bd_of h
  obtain ⟨r_3, hr_3, h⟩ := bd_of h
  refine c_go0 (c_rV (As := []) (rest := []) C hM h17 hd_2 (by decide) (cc_X2_wordsOfPath l D ca A α r_1.2 r_1.1 _ hr_3) cw_X11_363 ⟨rfl, rfl⟩ ⟨Nat.le_of_ble_eq_true rfl, Nat.le_of_ble_eq_true rfl⟩ rfl rfl (cats_le _ (Nat.le_of_ble_eq_true rfl)) hl.1 dX11_wordsKnown_7 ⟨Nat.le_of_ble_eq_true rfl, Nat.le_of_ble_eq_true rfl⟩) hM (fun H locs hM => ?_)
  refine W_st (st' := [.long r_3.1]) rfl ?_
  obtain ⟨r_4, hr_4, h⟩ := bd_of h
  refine c_go0 (c_rS (As := [.long r_3.1]) (rest := []) C hM h17 (cc_J13_bitCount_95d88 l D ca A α r_3.2 r_3.1 _ hr_4) cw_X11_132 ⟨rfl, rfl⟩ ⟨Nat.le_of_ble_eq_true rfl, Nat.le_of_ble_eq_true rfl⟩ rfl rfl (cats_le _ (Nat.le_of_ble_eq_true rfl)) hl.1 dX11_wordsKnown_10 ⟨Nat.le_of_ble_eq_true rfl, Nat.le_of_ble_eq_true rfl⟩) hM (fun H locs hM => ?_)
  refine W_st (st' := [.int r_4.1]) rfl ?_
  exact c_ri C hM (fun _ => rfl) hr hlk dX11_wordsKnown_13 h
/-! Lorewick.begin(I)I -/
abbrev rc_X11_begin : Room := { frames := 9, cells := 9, slots := 261, locals := 255 }
def fc_X11_begin (σ : cS) (x1 : Int32) : Option ((Nat ⊕ Int32) × cS) :=
  xb (fc_X11_needRoom σ x1) fun v_1 u_1 =>
  xb (fc_X11_needNoPlay u_1) fun v_2 u_2 =>
  (fc_X3_setUp u_2 (some 0) x1).bind fun r_3 =>
  (dr (uN r_3 8 0 0) 8 (some (cn r_3 8))).bind fun i_8 =>
  (fc_X1_init (uN r_3 8 0 0) (some (cn r_3 8)) (some 0) x1 (-1 : Int32)).bind fun r_7 =>
  (fc_X3_wordsShown r_7 (some 0)).bind fun r_9 =>
  (fc_X8_add r_9.2 (some (cn r_3 8)) (some 0) r_9.1).bind fun r_10 =>
  (fc_X11_wordsKnown r_10.2).bind fun r_12 =>
  some (.inr r_12.1, r_12.2)
set_option maxHeartbeats 4000000 in
set_option maxRecDepth 100000 in
theorem cc_X11_begin (l : Launch) (hst : l.stackTraces = false) (D : va_G) (ca : Nat → ClassId) (A : Nat → Prop) (α : cAl) (σ : cS) (x1 : Int32) (o : (Nat ⊕ Int32) × cS) (h : fc_X11_begin σ x1 = some o) : cMetX true l yX11_begin cX11_begin 2 ((some FieldType.int)) rc_X11_begin 9 261 D ca true A α σ [cr α 0 (some 0), .int x1] (o.1.map id (fun (v : Int32) _ => some (.int v))) o.2 := by
  refine vx_ofW (cc := cX11_begin) (maxL := 2) (ret := (some FieldType.int)) (by decide) rfl ?_
  intro p e s m args below meth c s₁ B hml hout hv
  obtain ⟨rfl, hP, hK, hD0, hSh, hA, hG⟩ := hv
  have C : cC p s m _ c cX11_begin 2 RX11 D ca A α := ⟨B.exec, B.bytes, hml, findClass_of_methodNamed B.named, fun w hw => atoms_spec (ws := mWs yX11_begin cX11_begin 2 ((some FieldType.int))) B.pre w (List.mem_cons_of_mem _ hw), hK, hG⟩
  have hM : cM D ca true A s.heap σ α σ α s.heap [] := ⟨hP, hD0, hSh, va_S.rf, hA, cX.rf⟩
  have h17 : 0 < cn σ 17 := c_17 hM
  have hr := B.returns
  have hlk := B.notSynchronized
  have hx := C.1
  have hb := C.2.1
  have hl := lv_entry ([cr α 0 (some 0), .int x1]) (n := 2) (Nat.le_of_ble_eq_true rfl)
  rw [lg_entry_eq]
  generalize (lg_sl ([cr α 0 (some 0), .int x1]) ++ List.replicate (2 - (lg_sl ([cr α 0 (some 0), .int x1])).length) Slot.unset).toArray = ls at hl ⊢
  have hl : lv_has ls 2 [(0, cr α 0 (some 0)), (1, .int x1)] := hl
  unfold fc_X11_begin at h
  refine c_aload_n (t := 0) (x := (some 0)) hx hb dX11_begin_0 rfl (lv_at hl 0 rfl) ?_
  refine lv_iload_n hx hb dX11_begin_1 rfl (lv_at hl 1 rfl) ?_
  obtain ⟨r_1, u_1, hr_1⟩ := xb_some h
  refine c_gox2 (T := (fun (_ : Unit) _ => none)) (T2 := (fun (v : Int32) _ => some (.int v))) h hr_1 (c_rVx (As := [.int x1]) (rest := []) C hM h17 (hM.cst 0 0 rfl) (by decide) (cc_X11_needRoom l hst D ca A α σ x1 _ hr_1) cw_X11_122 ⟨rfl, rfl⟩ ⟨Nat.le_of_ble_eq_true rfl, Nat.le_of_ble_eq_true rfl⟩ rfl rfl (cats_le _ (Nat.le_of_ble_eq_true rfl)) hl.1 dX11_begin_2 ⟨Nat.le_of_ble_eq_true rfl, Nat.le_of_ble_eq_true rfl⟩) C hM (fun h => by cases h) hout hlk (Nat.le_of_ble_eq_true rfl) (Nat.le_of_ble_eq_true rfl) (fun v_1 H locs α9 hα h hX_1 hM => ?_)
  obtain rfl : α = α9 := (hα rfl).symm
  refine W_st (st' := []) rfl ?_
  refine c_aload_n (t := 0) (x := (some 0)) hx hb dX11_begin_5 rfl (lv_at hl 0 rfl) ?_
  obtain ⟨r_2, u_2, hr_2⟩ := xb_some h
  refine c_gox2 (T := (fun (_ : Unit) _ => none)) (T2 := (fun (v : Int32) _ => some (.int v))) h hr_2 (c_rVx (As := []) (rest := []) C hM h17 (hM.cst 0 0 rfl) (by decide) (cc_X11_needNoPlay l hst D ca A α u_1 _ hr_2) cw_X11_110 ⟨rfl, rfl⟩ ⟨Nat.le_of_ble_eq_true rfl, Nat.le_of_ble_eq_true rfl⟩ rfl rfl (cats_le _ (Nat.le_of_ble_eq_true rfl)) hl.1 dX11_begin_6 ⟨Nat.le_of_ble_eq_true rfl, Nat.le_of_ble_eq_true rfl⟩) C hM (fun h => by cases h) hout hlk (Nat.le_of_ble_eq_true rfl) (Nat.le_of_ble_eq_true rfl) (fun v_2 H locs α9 hα h hX_2 hM => ?_)
  obtain rfl : α = α9 := (hα rfl).symm
  refine W_st (st' := []) rfl ?_
  refine c_aload_n (t := 0) (x := (some 0)) hx hb dX11_begin_9 rfl (lv_at hl 0 rfl) ?_
  refine c_getb C hM (k := 0) (f := 2) (j := 0) (t := 3) (hM.cst 0 0 rfl) (by decide) fl_X11_34 dX11_begin_10 ?_
  refine c_aload_n (t := 0) (x := (some 0)) hx hb dX11_begin_13 rfl (lv_at hl 0 rfl) ?_
  refine c_getb C hM (k := 0) (f := 5) (j := 0) (t := 6) (hM.cst 0 0 rfl) (by decide) fl_X11_55 dX11_begin_14 ?_
  refine lv_iload_n hx hb dX11_begin_17 rfl (lv_at hl 1 rfl) ?_
  obtain ⟨r_3, hr_3, h⟩ := bd_of h
  refine c_go0 (c_rV (As := [cr α 6 (some 0), .int x1]) (rest := []) C hM h17 (hM.cst 3 0 rfl) (by decide) (cc_X3_setUp l D ca A α u_2 (some 0) x1 _ hr_3) cw_X11_234 ⟨rfl, rfl⟩ ⟨Nat.le_of_ble_eq_true rfl, Nat.le_of_ble_eq_true rfl⟩ rfl rfl (cats_le _ (Nat.le_of_ble_eq_true rfl)) hl.1 dX11_begin_18 ⟨Nat.le_of_ble_eq_true rfl, Nat.le_of_ble_eq_true rfl⟩) hM (fun H locs hM => ?_)
  refine W_st (st' := []) rfl ?_
  refine c_aload_n (t := 0) (x := (some 0)) hx hb dX11_begin_21 rfl (lv_at hl 0 rfl) ?_
  refine c_getb C hM (k := 0) (f := 3) (j := 0) (t := 4) (hM.cst 0 0 rfl) (by decide) fl_X11_41 dX11_begin_22 ?_
  have hlv_5 := c_lvc hM 0 0 rfl
  have hlv_6 := c_lvc hM 4 0 rfl
  refine c_new (k := 8) C hM (by decide) ⟨⟨wl_in (i := 934) (by decide +kernel), wl_in (i := 935) (by decide +kernel)⟩, wl_in (i := 32) (by decide +kernel)⟩ (Nat.le_of_ble_eq_true rfl) (Nat.le_of_ble_eq_true rfl) dX11_begin_25 (fun H α_1 hX_4 hM => ?_)
  have e_5 : cr α 0 (some 0) = cr α_1 0 (some 0) := cr_to hX_4 hlv_5
  have e_6 : cr α 4 (some 0) = cr α_1 4 (some 0) := cr_to hX_4 hlv_6
  have hl := lv_to (lv_sub hl [0, 1] rfl) (show ([(0, cr α 0 (some 0)), (1, .int x1)] : List (Nat × Value)) = [(0, cr α_1 0 (some 0)), (1, .int x1)] by rw [e_5])
  refine W_st (st' := [cr α_1 8 (some (cn r_3 8)), cr α_1 4 (some 0)]) (show ([cr α_1 8 (some (cn r_3 8)), cr α 4 (some 0)] : List Value) = _ by rw [e_6]) ?_
  refine lv_dup hx hb dX11_begin_28 cr_cat ?_
  refine c_getV C hM 0 (nm := "START") (by decide) fl_X11_240 dX11_begin_29 ?_
  refine lv_iload_n hx hb dX11_begin_32 rfl (lv_at hl 1 rfl) ?_
  refine lv_iconst (v := (-1 : Int32)) hx hb dX11_begin_33 (by decide) ?_
  obtain ⟨i_8, hd_8, h⟩ := bd_of h
  obtain ⟨r_7, hr_7, h⟩ := bd_of h
  refine c_go0 (c_rI (As := [cr α_1 18 (some 0), .int x1, .int (-1 : Int32)]) (rest := [cr α_1 8 (some (cn r_3 8)), cr α_1 4 (some 0)]) C hM h17 hd_8 (cc_X1_init l D ca A α_1 (uN r_3 8 0 0) (some (cn r_3 8)) (some 0) x1 (-1 : Int32) _ hr_7) cw_X11_246 ⟨rfl, rfl⟩ ⟨Nat.le_of_ble_eq_true rfl, Nat.le_of_ble_eq_true rfl⟩ rfl rfl (cats_le _ (Nat.le_of_ble_eq_true rfl)) hl.1 dX11_begin_34 ⟨Nat.le_of_ble_eq_true rfl, Nat.le_of_ble_eq_true rfl⟩) hM (fun H locs hM => ?_)
  refine W_st (st' := [cr α_1 8 (some (cn r_3 8)), cr α_1 4 (some 0)]) rfl ?_
  refine c_aload_n (t := 0) (x := (some 0)) hx hb dX11_begin_37 rfl (lv_at hl 0 rfl) ?_
  refine c_getb C hM (k := 0) (f := 5) (j := 0) (t := 6) (hM.cst 0 0 rfl) (by decide) fl_X11_55 dX11_begin_38 ?_
  refine c_aload_n (t := 0) (x := (some 0)) hx hb dX11_begin_41 rfl (lv_at hl 0 rfl) ?_
  refine c_getb C hM (k := 0) (f := 2) (j := 0) (t := 3) (hM.cst 0 0 rfl) (by decide) fl_X11_34 dX11_begin_42 ?_
  refine c_aload_n (t := 0) (x := (some 0)) hx hb dX11_begin_45 rfl (lv_at hl 0 rfl) ?_
  refine c_getb C hM (k := 0) (f := 5) (j := 0) (t := 6) (hM.cst 0 0 rfl) (by decide) fl_X11_55 dX11_begin_46 ?_
  obtain ⟨r_9, hr_9, h⟩ := bd_of h
  refine c_go0 (c_rV (As := [cr α_1 6 (some 0)]) (rest := [cr α_1 6 (some 0), cr α_1 8 (some (cn r_3 8)), cr α_1 4 (some 0)]) C hM h17 (hM.cst 3 0 rfl) (by decide) (cc_X3_wordsShown l D ca A α_1 r_7 (some 0) _ hr_9) cw_X11_249 ⟨rfl, rfl⟩ ⟨Nat.le_of_ble_eq_true rfl, Nat.le_of_ble_eq_true rfl⟩ rfl rfl (cats_le _ (Nat.le_of_ble_eq_true rfl)) hl.1 dX11_begin_49 ⟨Nat.le_of_ble_eq_true rfl, Nat.le_of_ble_eq_true rfl⟩) hM (fun H locs hM => ?_)
  refine W_st (st' := [.long r_9.1, cr α_1 6 (some 0), cr α_1 8 (some (cn r_3 8)), cr α_1 4 (some 0)]) rfl ?_
  have hlv_11 := c_lvc hM 0 0 rfl
  obtain ⟨r_10, hr_10, h⟩ := bd_of h
  refine c_go1 (c_rV (As := [cr α_1 8 (some (cn r_3 8)), cr α_1 6 (some 0), .long r_9.1]) (rest := []) C hM h17 (hM.cst 4 0 rfl) (by decide) (cc_X8_add l D ca A α_1 r_9.2 (some (cn r_3 8)) (some 0) r_9.1 _ hr_10) cw_X11_253 ⟨rfl, rfl⟩ ⟨Nat.le_of_ble_eq_true rfl, Nat.le_of_ble_eq_true rfl⟩ rfl rfl (cats_le _ (Nat.le_of_ble_eq_true rfl)) hl.1 dX11_begin_52 ⟨Nat.le_of_ble_eq_true rfl, Nat.le_of_ble_eq_true rfl⟩) hM (fun H locs α_2 hX_10 hM => ?_)
  have e_11 : cr α_1 0 (some 0) = cr α_2 0 (some 0) := cr_to hX_10 hlv_11
  have hl := lv_to (lv_sub hl [0] rfl) (show ([(0, cr α_1 0 (some 0))] : List (Nat × Value)) = [(0, cr α_2 0 (some 0))] by rw [e_11])
  refine W_st (st' := [cr α_2 7 r_10.1]) rfl ?_
  refine lv_pop hx hb dX11_begin_55 cr_cat ?_
  refine c_aload_n (t := 0) (x := (some 0)) hx hb dX11_begin_56 rfl (lv_at hl 0 rfl) ?_
  obtain ⟨r_12, hr_12, h⟩ := bd_of h
  refine c_go0 (c_rV (As := []) (rest := []) C hM h17 (hM.cst 0 0 rfl) (by decide) (cc_X11_wordsKnown l D ca A α_2 r_10.2 _ hr_12) cw_X11_256 ⟨rfl, rfl⟩ ⟨Nat.le_of_ble_eq_true rfl, Nat.le_of_ble_eq_true rfl⟩ rfl rfl (cats_le _ (Nat.le_of_ble_eq_true rfl)) hl.1 dX11_begin_57 ⟨Nat.le_of_ble_eq_true rfl, Nat.le_of_ble_eq_true rfl⟩) hM (fun H locs hM => ?_)
  refine W_st (st' := [.int r_12.1]) rfl ?_
  exact c_xr h (c_ri (o := (r_12.1, r_12.2)) C hM (fun h => by cases h) hr hlk dX11_begin_60 rfl)
/-! Lorewick.needPlay()V -/
abbrev rc_X11_needPlay : Room := { frames := 6, cells := 1, slots := 6, locals := 90 }
def fc_X11_needPlay (σ : cS) : Option ((Nat ⊕ Unit) × cS) :=
  (fc_X8_isEmpty σ).bind fun r_1 =>
  if r_1.1 = 0 then
    some (.inr (), r_1.2)
  else
    some (.inl 2, r_1.2)
set_option maxHeartbeats 4000000 in
set_option maxRecDepth 100000 in
theorem cc_X11_needPlay (l : Launch) (hst : l.stackTraces = false) (D : va_G) (ca : Nat → ClassId) (A : Nat → Prop) (α : cAl) (σ : cS) (o : (Nat ⊕ Unit) × cS) (h : fc_X11_needPlay σ  = some o) : cMetX false l yX11_needPlay cX11_needPlay 1 ((none : Option FieldType)) rc_X11_needPlay 1 6 D ca true A α σ [cr α 0 (some 0)] (o.1.map id (fun (_ : Unit) _ => none)) o.2 := by
  refine vx_ofW (cc := cX11_needPlay) (maxL := 1) (ret := (none : Option FieldType)) (by decide) rfl ?_
  intro p e s m args below meth c s₁ B hml hout hv
  obtain ⟨rfl, hP, hK, hD0, hSh, hA, hG⟩ := hv
  have C : cC p s m _ c cX11_needPlay 1 RX11 D ca A α := ⟨B.exec, B.bytes, hml, findClass_of_methodNamed B.named, fun w hw => atoms_spec (ws := mWs yX11_needPlay cX11_needPlay 1 ((none : Option FieldType))) B.pre w (List.mem_cons_of_mem _ hw), hK, hG⟩
  have hM : cM D ca true A s.heap σ α σ α s.heap [] := ⟨hP, hD0, hSh, va_S.rf, hA, cX.rf⟩
  have h17 : 0 < cn σ 17 := c_17 hM
  have hr := B.returns
  have hlk := B.notSynchronized
  have hx := C.1
  have hb := C.2.1
  have hl := lv_entry ([cr α 0 (some 0)]) (n := 1) (Nat.le_of_ble_eq_true rfl)
  rw [lg_entry_eq]
  generalize (lg_sl ([cr α 0 (some 0)]) ++ List.replicate (1 - (lg_sl ([cr α 0 (some 0)])).length) Slot.unset).toArray = ls at hl ⊢
  have hl : lv_has ls 1 [(0, cr α 0 (some 0))] := hl
  unfold fc_X11_needPlay at h
  refine c_aload_n (t := 0) (x := (some 0)) hx hb dX11_needPlay_0 rfl (lv_at hl 0 rfl) ?_
  refine c_getb C hM (k := 0) (f := 3) (j := 0) (t := 4) (hM.cst 0 0 rfl) (by decide) fl_X11_41 dX11_needPlay_1 ?_
  obtain ⟨r_1, hr_1, h⟩ := bd_of h
  refine c_go0 (c_rV (As := []) (rest := []) C hM h17 (hM.cst 4 0 rfl) (by decide) (cc_X8_isEmpty l D ca A α σ _ hr_1) cw_X11_532 ⟨rfl, rfl⟩ ⟨Nat.le_of_ble_eq_true rfl, Nat.le_of_ble_eq_true rfl⟩ rfl rfl (cats_le _ (Nat.le_of_ble_eq_true rfl)) hl.1 dX11_needPlay_4 ⟨Nat.le_of_ble_eq_true rfl, Nat.le_of_ble_eq_true rfl⟩) hM (fun H locs hM => ?_)
  refine W_st (st' := [.int r_1.1]) rfl ?_
  refine lv_if_eq (tgt := 21) hx hb dX11_needPlay_7 (by decide) (fun c_1 => ?_) (fun c_1 => ?_)
  · have h := br_T c_1 h
    refine W.widen (k := 1) (n := 6) (Nat.le_of_ble_eq_true rfl) (Nat.le_of_ble_eq_true rfl) ?_
    exact c_xr h (c_rv (o := r_1.2) C hM (fun _ => rfl) hr hlk dX11_needPlay_21 rfl)
  · have h := br_F c_1 h
    exact c_throwW (k := 2) (text := "play has not begun") C hM (fun _ => rfl) hst hout hlk (by decide +kernel) cx_at2 cx_ot2 (wl_in (i := 597) (by decide +kernel)) (wl_in (i := 21) (by decide +kernel)) rfl dX11_needPlay_10 dX11_needPlay_13 dX11_needPlay_14 dX11_needPlay_17 dX11_needPlay_20 hl.1 (Nat.le_of_ble_eq_true rfl) (Nat.le_of_ble_eq_true rfl) (Nat.le_of_ble_eq_true rfl) (Nat.le_of_ble_eq_true rfl) (Nat.le_of_ble_eq_true rfl) (Nat.le_of_ble_eq_true rfl) h
/-! Lorewick.completed(LLorewick$Verb;)LLorewick$Command; -/
abbrev rc_X11_completed : Room := { frames := 6, cells := 1, slots := 3, locals := 146 }
def fc_X11_completed_40 (σ : cS) (s0 : Option Nat) : Option (Option Nat × cS) :=
    some (s0, σ)
set_option maxHeartbeats 4000000 in
set_option maxRecDepth 100000 in
theorem gc_X11_completed_40 {p : Program} {l : Launch} {e : Env} {s : State} {m : MethodId} {args : Array Value} {below : List Frame} {meth : Method} {c : Code} {D : va_G} {ca : Nat → ClassId} {A : Nat → Prop} {σ0 : cS} {α0 : cAl} {o : Option Nat × cS} (C : cC p s m args c cX11_completed 4 RX11 D ca A α0) (hr : meth.sig.returnType = (some (FieldType.object "Lorewick$Command"))) (hlk : meth.locks = false) (h17 : 0 < cn σ0 17) : ∀ (α : cAl) (σ : cS) (s0 : Option Nat) (H : Heap) (locs : List Loc) (ls : Array Slot), cM D ca true A s.heap σ0 α0 σ α H locs → lv_has ls 4 [] → fc_X11_completed_40 σ s0 = some o → W p l e rc_X11_completed s m args below meth c H locs 1 3 (MQ below (cQ true D ca true A α0 σ0 (fun α1 => some (cr α1 8 o.1)) o.2) args s 1 3 A) (F0 m 40 ls [cr α 8 s0]) := by
  have hx := C.1
  have hb := C.2.1
  intro α σ s0 H locs ls hM hl h
  unfold fc_X11_completed_40 at h
  exact c_ra (k := 8) (v := s0) C hM (fun h => by cases h) hr rfl hlk dX11_completed_40 h
def fc_X11_completed_118 (σ : cS) (x1 : Option Nat) (x2 : Int32) (s0 : Int32) : Option (Option Nat × cS) :=
    (dr (uN σ 8 0 0) 8 (some (cn σ 8))).bind fun i_4 =>
    (fc_X1_init (uN σ 8 0 0) (some (cn σ 8)) x1 x2 s0).bind fun r_3 =>
    some ((some (cn σ 8)), r_3)
set_option maxHeartbeats 4000000 in
set_option maxRecDepth 100000 in
theorem gc_X11_completed_118 {p : Program} {l : Launch} {e : Env} {s : State} {m : MethodId} {args : Array Value} {below : List Frame} {meth : Method} {c : Code} {D : va_G} {ca : Nat → ClassId} {A : Nat → Prop} {σ0 : cS} {α0 : cAl} {o : Option Nat × cS} (C : cC p s m args c cX11_completed 4 RX11 D ca A α0) (hr : meth.sig.returnType = (some (FieldType.object "Lorewick$Command"))) (hlk : meth.locks = false) (h17 : 0 < cn σ0 17) : ∀ (α : cAl) (σ : cS) (x1 : Option Nat) (x2 : Int32) (s0 : Int32) (H : Heap) (locs : List Loc) (ls : Array Slot), cM D ca true A s.heap σ0 α0 σ α H locs → lv_has ls 4 [(1, cr α 18 x1), (2, .int x2)] → fc_X11_completed_118 σ x1 x2 s0 = some o → W p l e rc_X11_completed s m args below meth c H locs 0 0 (MQ below (cQ true D ca true A α0 σ0 (fun α1 => some (cr α1 8 o.1)) o.2) args s 1 3 A) (F0 m 118 ls [.int s0]) := by
  have hx := C.1
  have hb := C.2.1
  intro α σ x1 x2 s0 H locs ls hM hl h
  unfold fc_X11_completed_118 at h
  refine lv_istore_n (lv' := [(3, .int s0), (1, cr α 18 x1), (2, .int x2)]) hx hb dX11_completed_118 rfl hl (by decide) rfl (fun ls hl => ?_)
  refine c_new (k := 8) C hM (by decide) ⟨⟨wl_in (i := 934) (by decide +kernel), wl_in (i := 935) (by decide +kernel)⟩, wl_in (i := 32) (by decide +kernel)⟩ (Nat.le_of_ble_eq_true rfl) (Nat.le_of_ble_eq_true rfl) dX11_completed_119 (fun H α_1 hX_1 hM => ?_)
  have e_2 : cr α 18 x1 = cr α_1 18 x1 := cr_to18 hX_1 (by decide)
  have hl := lv_to (lv_sub hl [0, 1, 2] rfl) (show ([(3, .int s0), (1, cr α 18 x1), (2, .int x2)] : List (Nat × Value)) = [(3, .int s0), (1, cr α_1 18 x1), (2, .int x2)] by rw [e_2])
  refine W_st (st' := [cr α_1 8 (some (cn σ 8))]) rfl ?_
  refine lv_dup hx hb dX11_completed_122 cr_cat ?_
  refine c_aload_n (t := 18) (x := x1) hx hb dX11_completed_123 rfl (lv_at hl 1 rfl) ?_
  refine lv_iload_n hx hb dX11_completed_124 rfl (lv_at hl 2 rfl) ?_
  refine lv_iload_n hx hb dX11_completed_125 rfl (lv_at hl 0 rfl) ?_
  obtain ⟨i_4, hd_4, h⟩ := bd_of h
  obtain ⟨r_3, hr_3, h⟩ := bd_of h
  refine c_go0 (c_rI (As := [cr α_1 18 x1, .int x2, .int s0]) (rest := [cr α_1 8 (some (cn σ 8))]) C hM h17 hd_4 (cc_X1_init l D ca A α_1 (uN σ 8 0 0) (some (cn σ 8)) x1 x2 s0 _ hr_3) cw_X11_246 ⟨rfl, rfl⟩ ⟨Nat.le_of_ble_eq_true rfl, Nat.le_of_ble_eq_true rfl⟩ rfl rfl (cats_le _ (Nat.le_of_ble_eq_true rfl)) hl.1 dX11_completed_126 ⟨Nat.le_of_ble_eq_true rfl, Nat.le_of_ble_eq_true rfl⟩) hM (fun H locs hM => ?_)
  refine W_st (st' := [cr α_1 8 (some (cn σ 8))]) rfl ?_
  exact c_ra (k := 8) (v := (some (cn σ 8))) C hM (fun h => by cases h) hr rfl hlk dX11_completed_129 h
def fc_X11_completed_90 (σ : cS) (x1 : Option Nat) (s0 : Int32) : Option (Option Nat × cS) :=
    (dv x1).bind fun i_1 =>
    if (vQ.getD i_1 0) ≤ (1 : Int32) then
      fc_X11_completed_118 σ x1 s0 (-1 : Int32)
    else
      (fc_X7_lettersOfPart σ (3 : Int32)).bind fun r_2 =>
      (fc_X10_wordOf r_2.2 r_2.1).bind fun r_3 =>
      fc_X11_completed_118 r_3.2 x1 s0 r_3.1
set_option maxHeartbeats 4000000 in
set_option maxRecDepth 100000 in
theorem gc_X11_completed_90 {p : Program} {l : Launch} {e : Env} {s : State} {m : MethodId} {args : Array Value} {below : List Frame} {meth : Method} {c : Code} {D : va_G} {ca : Nat → ClassId} {A : Nat → Prop} {σ0 : cS} {α0 : cAl} {o : Option Nat × cS} (C : cC p s m args c cX11_completed 4 RX11 D ca A α0) (hr : meth.sig.returnType = (some (FieldType.object "Lorewick$Command"))) (hlk : meth.locks = false) (h17 : 0 < cn σ0 17) : ∀ (α : cAl) (σ : cS) (x1 : Option Nat) (s0 : Int32) (H : Heap) (locs : List Loc) (ls : Array Slot), cM D ca true A s.heap σ0 α0 σ α H locs → lv_has ls 4 [(0, cr α 0 (some 0)), (1, cr α 18 x1)] → fc_X11_completed_90 σ x1 s0 = some o → W p l e rc_X11_completed s m args below meth c H locs 0 0 (MQ below (cQ true D ca true A α0 σ0 (fun α1 => some (cr α1 8 o.1)) o.2) args s 1 3 A) (F0 m 90 ls [.int s0]) := by
  have hx := C.1
  have hb := C.2.1
  intro α σ x1 s0 H locs ls hM hl h
  unfold fc_X11_completed_90 at h
  refine lv_istore_n (lv' := [(2, .int s0), (0, cr α 0 (some 0)), (1, cr α 18 x1)]) hx hb dX11_completed_90 rfl hl (by decide) (by first | rfl | (simp only [List.filter, cr_cat]; rfl)) (fun ls hl => ?_)
  refine c_aload_n (t := 18) (x := x1) hx hb dX11_completed_91 rfl (lv_at hl 2 rfl) ?_
  obtain ⟨i_1, hv_1, h⟩ := bd_of h
  refine c_vnounsd C hM hv_1 fl_X11_592 dX11_completed_92 ?_
  refine lv_iconst (v := (1 : Int32)) hx hb dX11_completed_95 (by decide) ?_
  refine lv_icmp_le (tgt := 117) hx hb dX11_completed_96 (by decide) (fun c_1 => ?_) (fun c_1 => ?_)
  · have h := br_T c_1 h
    refine lv_iconst (v := (-1 : Int32)) hx hb dX11_completed_117 (by decide) ?_
    exact gc_X11_completed_118 C hr hlk h17  α _ _ _ _ _ _ _ hM (lv_sub hl [2, 0] rfl) h
  · have h := br_F c_1 h
    refine c_aload_n (t := 0) (x := (some 0)) hx hb dX11_completed_99 rfl (lv_at hl 1 rfl) ?_
    refine c_getb C hM (k := 0) (f := 1) (j := 0) (t := 2) (hM.cst 0 0 rfl) (by decide) fl_X11_25 dX11_completed_100 ?_
    refine c_aload_n (t := 0) (x := (some 0)) hx hb dX11_completed_103 rfl (lv_at hl 1 rfl) ?_
    refine c_getb C hM (k := 0) (f := 0) (j := 0) (t := 1) (hM.cst 0 0 rfl) (by decide) fl_X11_18 dX11_completed_104 ?_
    refine lv_iconst (v := (3 : Int32)) hx hb dX11_completed_107 (by decide) ?_
    obtain ⟨r_2, hr_2, h⟩ := bd_of h
    refine c_go0 (c_rV (As := [.int (3 : Int32)]) (rest := [cr α 2 (some 0)]) C hM h17 (hM.cst 1 0 rfl) (by decide) (cc_X7_lettersOfPart l D ca A α σ (3 : Int32) _ hr_2) cw_X11_594 ⟨rfl, rfl⟩ ⟨Nat.le_of_ble_eq_true rfl, Nat.le_of_ble_eq_true rfl⟩ rfl rfl (cats_le _ (Nat.le_of_ble_eq_true rfl)) hl.1 dX11_completed_108 ⟨Nat.le_of_ble_eq_true rfl, Nat.le_of_ble_eq_true rfl⟩) hM (fun H locs hM => ?_)
    refine W_st (st' := [.long r_2.1, cr α 2 (some 0)]) rfl ?_
    obtain ⟨r_3, hr_3, h⟩ := bd_of h
    refine c_go0 (c_rV (As := [.long r_2.1]) (rest := []) C hM h17 (hM.cst 2 0 rfl) (by decide) (cc_X10_wordOf l D ca A α r_2.2 r_2.1 _ hr_3) cw_X11_92 ⟨rfl, rfl⟩ ⟨Nat.le_of_ble_eq_true rfl, Nat.le_of_ble_eq_true rfl⟩ rfl rfl (cats_le _ (Nat.le_of_ble_eq_true rfl)) hl.1 dX11_completed_111 ⟨Nat.le_of_ble_eq_true rfl, Nat.le_of_ble_eq_true rfl⟩) hM (fun H locs hM => ?_)
    refine W_st (st' := [.int r_3.1]) rfl ?_
    refine lv_goto (tgt := 118) hx hb dX11_completed_114 (by decide) ?_
    exact gc_X11_completed_118 C hr hlk h17  α _ _ _ _ _ _ _ hM (lv_sub hl [2, 0] rfl) h
def fc_X11_completed_64 (σ : cS) (x1 : Option Nat) : Option (Option Nat × cS) :=
    (dv x1).bind fun i_1 =>
    if (vQ.getD i_1 0) ≤ 0 then
      fc_X11_completed_90 σ x1 (-1 : Int32)
    else
      (fc_X7_lettersOfPart σ (1 : Int32)).bind fun r_2 =>
      (fc_X10_wordOf r_2.2 r_2.1).bind fun r_3 =>
      fc_X11_completed_90 r_3.2 x1 r_3.1
set_option maxHeartbeats 4000000 in
set_option maxRecDepth 100000 in
theorem gc_X11_completed_64 {p : Program} {l : Launch} {e : Env} {s : State} {m : MethodId} {args : Array Value} {below : List Frame} {meth : Method} {c : Code} {D : va_G} {ca : Nat → ClassId} {A : Nat → Prop} {σ0 : cS} {α0 : cAl} {o : Option Nat × cS} (C : cC p s m args c cX11_completed 4 RX11 D ca A α0) (hr : meth.sig.returnType = (some (FieldType.object "Lorewick$Command"))) (hlk : meth.locks = false) (h17 : 0 < cn σ0 17) : ∀ (α : cAl) (σ : cS) (x1 : Option Nat) (H : Heap) (locs : List Loc) (ls : Array Slot), cM D ca true A s.heap σ0 α0 σ α H locs → lv_has ls 4 [(0, cr α 0 (some 0)), (1, cr α 18 x1)] → fc_X11_completed_64 σ x1 = some o → W p l e rc_X11_completed s m args below meth c H locs 0 0 (MQ below (cQ true D ca true A α0 σ0 (fun α1 => some (cr α1 8 o.1)) o.2) args s 1 3 A) (F0 m 64 ls []) := by
  have hx := C.1
  have hb := C.2.1
  intro α σ x1 H locs ls hM hl h
  unfold fc_X11_completed_64 at h
  refine c_aload_n (t := 18) (x := x1) hx hb dX11_completed_64 rfl (lv_at hl 1 rfl) ?_
  obtain ⟨i_1, hv_1, h⟩ := bd_of h
  refine c_vnounsd C hM hv_1 fl_X11_592 dX11_completed_65 ?_
  refine lv_if_le (tgt := 89) hx hb dX11_completed_68 (by decide) (fun c_1 => ?_) (fun c_1 => ?_)
  · have h := br_T c_1 h
    refine lv_iconst (v := (-1 : Int32)) hx hb dX11_completed_89 (by decide) ?_
    exact gc_X11_completed_90 C hr hlk h17  α _ _ _ _ _ _ hM (lv_sub hl [0, 1] rfl) h
  · have h := br_F c_1 h
    refine c_aload_n (t := 0) (x := (some 0)) hx hb dX11_completed_71 rfl (lv_at hl 0 rfl) ?_
    refine c_getb C hM (k := 0) (f := 1) (j := 0) (t := 2) (hM.cst 0 0 rfl) (by decide) fl_X11_25 dX11_completed_72 ?_
    refine c_aload_n (t := 0) (x := (some 0)) hx hb dX11_completed_75 rfl (lv_at hl 0 rfl) ?_
    refine c_getb C hM (k := 0) (f := 0) (j := 0) (t := 1) (hM.cst 0 0 rfl) (by decide) fl_X11_18 dX11_completed_76 ?_
    refine lv_iconst (v := (1 : Int32)) hx hb dX11_completed_79 (by decide) ?_
    obtain ⟨r_2, hr_2, h⟩ := bd_of h
    refine c_go0 (c_rV (As := [.int (1 : Int32)]) (rest := [cr α 2 (some 0)]) C hM h17 (hM.cst 1 0 rfl) (by decide) (cc_X7_lettersOfPart l D ca A α σ (1 : Int32) _ hr_2) cw_X11_594 ⟨rfl, rfl⟩ ⟨Nat.le_of_ble_eq_true rfl, Nat.le_of_ble_eq_true rfl⟩ rfl rfl (cats_le _ (Nat.le_of_ble_eq_true rfl)) hl.1 dX11_completed_80 ⟨Nat.le_of_ble_eq_true rfl, Nat.le_of_ble_eq_true rfl⟩) hM (fun H locs hM => ?_)
    refine W_st (st' := [.long r_2.1, cr α 2 (some 0)]) rfl ?_
    obtain ⟨r_3, hr_3, h⟩ := bd_of h
    refine c_go0 (c_rV (As := [.long r_2.1]) (rest := []) C hM h17 (hM.cst 2 0 rfl) (by decide) (cc_X10_wordOf l D ca A α r_2.2 r_2.1 _ hr_3) cw_X11_92 ⟨rfl, rfl⟩ ⟨Nat.le_of_ble_eq_true rfl, Nat.le_of_ble_eq_true rfl⟩ rfl rfl (cats_le _ (Nat.le_of_ble_eq_true rfl)) hl.1 dX11_completed_83 ⟨Nat.le_of_ble_eq_true rfl, Nat.le_of_ble_eq_true rfl⟩) hM (fun H locs hM => ?_)
    refine W_st (st' := [.int r_3.1]) rfl ?_
    refine lv_goto (tgt := 90) hx hb dX11_completed_86 (by decide) ?_
    exact gc_X11_completed_90 C hr hlk h17  α _ _ _ _ _ _ hM (lv_sub hl [0, 1] rfl) h
def fc_X11_completed (σ : cS) (x1 : Option Nat) : Option (Option Nat × cS) :=
  if ¬ (lvv x1 = true) then none else
  if x1 = (some 1) then
    (fc_X7_onlySign σ (1 : Int32)).bind fun r_2 =>
    (fc_J0_indexOf_0f7a4 r_2.2 (some 14) r_2.1).bind fun r_3 =>
    if 0 ≤ r_3.1 then
      (dr (uN r_3.2 8 0 0) 8 (some (cn r_3.2 8))).bind fun i_7 =>
      (fc_X1_init (uN r_3.2 8 0 0) (some (cn r_3.2 8)) x1 r_3.1 (-1 : Int32)).bind fun r_6 =>
      fc_X11_completed_40 r_6 (some (cn r_3.2 8))
    else
      fc_X11_completed_40 r_3.2 none
  else
    if ¬ (lvv x1 = true) then none else
    if x1 = (some 9) then
      (fc_X7_isPart σ (2 : Int32) (some 15)).bind fun r_1 =>
      if r_1.1 = 0 then
        some (none, r_1.2)
      else
        fc_X11_completed_64 r_1.2 x1
    else
      fc_X11_completed_64 σ x1
set_option maxHeartbeats 4000000 in
set_option maxRecDepth 100000 in
theorem cc_X11_completed (l : Launch) (D : va_G) (ca : Nat → ClassId) (A : Nat → Prop) (α : cAl) (σ : cS) (x1 : Option Nat) (o : Option Nat × cS) (h : fc_X11_completed σ x1 = some o) : cMet true l yX11_completed cX11_completed 4 ((some (FieldType.object "Lorewick$Command"))) rc_X11_completed 1 3 D ca true A α σ [cr α 0 (some 0), cr α 18 x1] (fun α1 => some (cr α1 8 o.1)) o.2 := by
  refine Met.ofW (cc := cX11_completed) (maxL := 4) (ret := (some (FieldType.object "Lorewick$Command"))) (by decide) rfl ?_
  intro p e s m args below meth c s₁ B hml hv
  obtain ⟨rfl, hP, hK, hD0, hSh, hA, hG⟩ := hv
  have C : cC p s m _ c cX11_completed 4 RX11 D ca A α := ⟨B.exec, B.bytes, hml, findClass_of_methodNamed B.named, fun w hw => atoms_spec (ws := mWs yX11_completed cX11_completed 4 ((some (FieldType.object "Lorewick$Command")))) B.pre w (List.mem_cons_of_mem _ hw), hK, hG⟩
  have hM : cM D ca true A s.heap σ α σ α s.heap [] := ⟨hP, hD0, hSh, va_S.rf, hA, cX.rf⟩
  have h17 : 0 < cn σ 17 := c_17 hM
  have hr := B.returns
  have hlk := B.notSynchronized
  have hx := C.1
  have hb := C.2.1
  have hl := lv_entry ([cr α 0 (some 0), cr α 18 x1]) (n := 4) (by simp [lg_r, lg_i, lg_l, lg_n])
  rw [lg_entry_eq]
  generalize (lg_sl ([cr α 0 (some 0), cr α 18 x1]) ++ List.replicate (4 - (lg_sl ([cr α 0 (some 0), cr α 18 x1])).length) Slot.unset).toArray = ls at hl ⊢
  have hl : lv_has ls 4 [(0, cr α 0 (some 0)), (1, cr α 18 x1)] := (lv_to hl (by simp only [la_r, la_i, la_l, la_n]))
  unfold fc_X11_completed at h
  refine c_aload_n (t := 18) (x := x1) hx hb dX11_completed_0 rfl (lv_at hl 1 rfl) ?_
  refine c_getV C hM 1 (nm := "GO") (by decide) fl_X11_581 dX11_completed_1 ?_
  obtain ⟨c_1, h⟩ := ko_of h
  refine c_vcmp_ne (tgt := 41) C hM (Classical.not_not.mp c_1) rfl dX11_completed_4 (by decide) (fun c_2 => ?_) (fun c_2 => ?_)
  · have h := br_F c_2 h
    refine c_aload_n (t := 18) (x := x1) hx hb dX11_completed_41 rfl (lv_at hl 1 rfl) ?_
    refine c_getV C hM 9 (nm := "PUT") (by decide) fl_X11_587 dX11_completed_42 ?_
    obtain ⟨c_3, h⟩ := ko_of h
    refine c_vcmp_ne (tgt := 64) C hM (Classical.not_not.mp c_3) rfl dX11_completed_45 (by decide) (fun c_4 => ?_) (fun c_4 => ?_)
    · have h := br_F c_4 h
      exact gc_X11_completed_64 C hr hlk h17  α _ _ _ _ _ hM (lv_sub hl [0, 1] rfl) h
    · have h := br_T c_4 h
      refine c_aload_n (t := 0) (x := (some 0)) hx hb dX11_completed_48 rfl (lv_at hl 0 rfl) ?_
      refine c_getb C hM (k := 0) (f := 0) (j := 0) (t := 1) (hM.cst 0 0 rfl) (by decide) fl_X11_18 dX11_completed_49 ?_
      refine lv_iconst (v := (2 : Int32)) hx hb dX11_completed_52 (by decide) ?_
      refine c_ldct (t := 15) C hM (by decide) dX11_completed_53 ?_
      obtain ⟨r_1, hr_1, h⟩ := bd_of h
      refine c_go0 (c_rV (As := [.int (2 : Int32), cr α 19 (some 15)]) (rest := []) C hM h17 (hM.cst 1 0 rfl) (by decide) (cc_X7_isPart l D ca A α σ (2 : Int32) (some 15) _ hr_1) cw_X11_573 ⟨rfl, rfl⟩ ⟨Nat.le_of_ble_eq_true rfl, Nat.le_of_ble_eq_true rfl⟩ rfl rfl (cats_le _ (Nat.le_of_ble_eq_true rfl)) hl.1 dX11_completed_56 ⟨Nat.le_of_ble_eq_true rfl, Nat.le_of_ble_eq_true rfl⟩) hM (fun H locs hM => ?_)
      refine W_st (st' := [.int r_1.1]) rfl ?_
      refine lv_if_ne (tgt := 64) hx hb dX11_completed_59 (by decide) (fun c_5 => ?_) (fun c_5 => ?_)
      · have h := br_F c_5 h
        exact gc_X11_completed_64 C hr hlk h17  α _ _ _ _ _ hM (lv_sub hl [0, 1] rfl) h
      · have h := br_T c_5 h
        refine lv_null hx hb dX11_completed_62 ?_
        refine W.widen (k := 1) (n := 3) (Nat.le_of_ble_eq_true rfl) (Nat.le_of_ble_eq_true rfl) ?_
        exact c_ra (k := 8) (v := none) C hM (fun h => by cases h) hr rfl hlk dX11_completed_63 h
  · have h := br_T c_2 h
    refine c_ldct (t := 14) C hM (by decide) dX11_completed_7 ?_
    refine c_aload_n (t := 0) (x := (some 0)) hx hb dX11_completed_10 rfl (lv_at hl 0 rfl) ?_
    refine c_getb C hM (k := 0) (f := 0) (j := 0) (t := 1) (hM.cst 0 0 rfl) (by decide) fl_X11_18 dX11_completed_11 ?_
    refine lv_iconst (v := (1 : Int32)) hx hb dX11_completed_14 (by decide) ?_
    obtain ⟨r_2, hr_2, h⟩ := bd_of h
    refine c_go0 (c_rV (As := [.int (1 : Int32)]) (rest := [cr α 19 (some 14)]) C hM h17 (hM.cst 1 0 rfl) (by decide) (cc_X7_onlySign l D ca A α σ (1 : Int32) _ hr_2) cw_X11_584 ⟨rfl, rfl⟩ ⟨Nat.le_of_ble_eq_true rfl, Nat.le_of_ble_eq_true rfl⟩ rfl rfl (cats_le _ (Nat.le_of_ble_eq_true rfl)) hl.1 dX11_completed_15 ⟨Nat.le_of_ble_eq_true rfl, Nat.le_of_ble_eq_true rfl⟩) hM (fun H locs hM => ?_)
    refine W_st (st' := [.int r_2.1, cr α 19 (some 14)]) rfl ?_
    obtain ⟨r_3, hr_3, h⟩ := bd_of h
    refine c_go0 (c_rT (As := [.int r_2.1]) (rest := []) C hM h17 (show dt (some 14) = some 14 from rfl) (cc_J0_indexOf_0f7a4 l D ca A α r_2.2 (some 14) r_2.1 _ hr_3) cw_X11_547 ⟨rfl, rfl⟩ ⟨Nat.le_of_ble_eq_true rfl, Nat.le_of_ble_eq_true rfl⟩ rfl rfl (cats_le _ (Nat.le_of_ble_eq_true rfl)) hl.1 dX11_completed_18 ⟨Nat.le_of_ble_eq_true rfl, Nat.le_of_ble_eq_true rfl⟩) hM (fun H locs hM => ?_)
    refine W_st (st' := [.int r_3.1]) rfl ?_
    refine lv_istore_n (lv' := [(2, .int r_3.1), (0, cr α 0 (some 0)), (1, cr α 18 x1)]) hx hb dX11_completed_21 rfl hl (by decide) (by first | rfl | (simp only [List.filter, cr_cat]; rfl)) (fun ls hl => ?_)
    refine lv_iload_n hx hb dX11_completed_22 rfl (lv_at hl 0 rfl) ?_
    refine lv_if_ge (tgt := 30) hx hb dX11_completed_23 (by decide) (fun c_6 => ?_) (fun c_6 => ?_)
    · have h := br_T c_6 h
      refine c_new (k := 8) C hM (by decide) ⟨⟨wl_in (i := 934) (by decide +kernel), wl_in (i := 935) (by decide +kernel)⟩, wl_in (i := 32) (by decide +kernel)⟩ (Nat.le_of_ble_eq_true rfl) (Nat.le_of_ble_eq_true rfl) dX11_completed_30 (fun H α_1 hX_4 hM => ?_)
      have e_5 : cr α 18 x1 = cr α_1 18 x1 := cr_to18 hX_4 (by decide)
      have hl := lv_to (lv_sub hl [0, 2] rfl) (show ([(2, .int r_3.1), (1, cr α 18 x1)] : List (Nat × Value)) = [(2, .int r_3.1), (1, cr α_1 18 x1)] by rw [e_5])
      refine W_st (st' := [cr α_1 8 (some (cn r_3.2 8))]) rfl ?_
      refine lv_dup hx hb dX11_completed_33 cr_cat ?_
      refine c_aload_n (t := 18) (x := x1) hx hb dX11_completed_34 rfl (lv_at hl 1 rfl) ?_
      refine lv_iload_n hx hb dX11_completed_35 rfl (lv_at hl 0 rfl) ?_
      refine lv_iconst (v := (-1 : Int32)) hx hb dX11_completed_36 (by decide) ?_
      obtain ⟨i_7, hd_7, h⟩ := bd_of h
      obtain ⟨r_6, hr_6, h⟩ := bd_of h
      refine c_go0 (c_rI (As := [cr α_1 18 x1, .int r_3.1, .int (-1 : Int32)]) (rest := [cr α_1 8 (some (cn r_3.2 8))]) C hM h17 hd_7 (cc_X1_init l D ca A α_1 (uN r_3.2 8 0 0) (some (cn r_3.2 8)) x1 r_3.1 (-1 : Int32) _ hr_6) cw_X11_246 ⟨rfl, rfl⟩ ⟨Nat.le_of_ble_eq_true rfl, Nat.le_of_ble_eq_true rfl⟩ rfl rfl (cats_le _ (Nat.le_of_ble_eq_true rfl)) hl.1 dX11_completed_37 ⟨Nat.le_of_ble_eq_true rfl, Nat.le_of_ble_eq_true rfl⟩) hM (fun H locs hM => ?_)
      refine W_st (st' := [cr α_1 8 (some (cn r_3.2 8))]) rfl ?_
      exact gc_X11_completed_40 C hr hlk h17  α_1 _ _ _ _ _ hM (lv_sub hl [] rfl) h
    · have h := br_F c_6 h
      refine lv_null hx hb dX11_completed_26 ?_
      refine lv_goto (tgt := 40) hx hb dX11_completed_27 (by decide) ?_
      refine W.widen (k := 1) (n := 3) (Nat.le_of_ble_eq_true rfl) (Nat.le_of_ble_eq_true rfl) ?_
      exact gc_X11_completed_40 C hr hlk h17  α _ _ _ _ _ hM (lv_sub hl [] rfl) h
/-! Lorewick.understood()LLorewick$Command; -/
abbrev rc_X11_understood : Room := { frames := 7, cells := 1, slots := 3, locals := 169 }
def fc_X11_understood_57 (k_10 : cS → Int32 → Int32 → Option (Option Nat × cS)) (σ : cS) (x1 : Int32) (x2 : Int32) : Option (Option Nat × cS) :=
    k_10 σ x1 (x2 + (1 : Int32))
set_option maxHeartbeats 4000000 in
set_option maxRecDepth 100000 in
theorem gc_X11_understood_57 {p : Program} {l : Launch} {e : Env} {s : State} {m : MethodId} {args : Array Value} {below : List Frame} {meth : Method} {c : Code} {D : va_G} {ca : Nat → ClassId} {A : Nat → Prop} {σ0 : cS} {α0 : cAl} {o : Option Nat × cS} {k_10 : cS → Int32 → Int32 → Option (Option Nat × cS)} (C : cC p s m args c cX11_understood 4 RX11 D ca A α0) (hr : meth.sig.returnType = (some (FieldType.object "Lorewick$Command"))) (hlk : meth.locks = false) (h17 : 0 < cn σ0 17) (hk_10 : ∀ (α : cAl) (σ : cS) (x1 : Int32) (x2 : Int32) (H : Heap) (locs : List Loc) (ls : Array Slot), cM D ca true A s.heap σ0 α0 σ α H locs → lv_has ls 4 [(0, cr α 0 (some 0)), (1, .int x1), (2, .int x2)] → k_10 σ x1 x2 = some o → W p l e rc_X11_understood s m args below meth c H locs 0 0 (MQ below (cQ true D ca true A α0 σ0 (fun α1 => some (cr α1 8 o.1)) o.2) args s 1 3 A) (F0 m 10 ls [])) : ∀ (α : cAl) (σ : cS) (x1 : Int32) (x2 : Int32) (H : Heap) (locs : List Loc) (ls : Array Slot), cM D ca true A s.heap σ0 α0 σ α H locs → lv_has ls 4 [(0, cr α 0 (some 0)), (1, .int x1), (2, .int x2)] → fc_X11_understood_57 k_10 σ x1 x2 = some o → W p l e rc_X11_understood s m args below meth c H locs 0 0 (MQ below (cQ true D ca true A α0 σ0 (fun α1 => some (cr α1 8 o.1)) o.2) args s 1 3 A) (F0 m 57 ls []) := by
  have hx := C.1
  have hb := C.2.1
  intro α σ x1 x2 H locs ls hM hl h
  unfold fc_X11_understood_57 at h
  refine lv_iinc (v := (x2 + (1 : Int32))) (lv' := [(2, .int (x2 + (1 : Int32))), (0, cr α 0 (some 0)), (1, .int x1)]) hx hb dX11_understood_57 hl (k := 2) rfl rfl (by decide) rfl (fun ls hl => ?_)
  refine lv_goto (tgt := 10) hx hb dX11_understood_60 (by decide) ?_
  exact hk_10 α _ _ _ _ _ _ hM (lv_sub hl [1, 2, 0] rfl) h
def fc_X11_understood_10 : Nat → cS → Int32 → Int32 → Option (Option Nat × cS)
  | 0, _, _, _ => none
  | n + 1, σ, x1, x2 =>
    if (15 : Int32) ≤ x2 then
      some (none, σ)
    else
      if ¬ (¬ (x2 < 0 ∨ 15 ≤ x2.toNatClampNeg)) then none else
      if x1 ≤ 0 then
        fc_X11_understood_57 (fc_X11_understood_10 n) σ x1 x2
      else
        (dv (some x2.toNatClampNeg)).bind fun i_1 =>
        if (vP.getD i_1 0) = x1 then
          (dv (some x2.toNatClampNeg)).bind fun i_2 =>
          (fc_X7_isPart σ (0 : Int32) (some (vT.getD i_2 0))).bind fun r_3 =>
          if r_3.1 = 0 then
            fc_X11_understood_57 (fc_X11_understood_10 n) r_3.2 x1 x2
          else
            (fc_X11_completed r_3.2 (some x2.toNatClampNeg)).bind fun r_4 =>
            some (r_4.1, r_4.2)
        else
          fc_X11_understood_57 (fc_X11_understood_10 n) σ x1 x2
set_option maxHeartbeats 4000000 in
set_option maxRecDepth 100000 in
theorem gc_X11_understood_10 {p : Program} {l : Launch} {e : Env} {s : State} {m : MethodId} {args : Array Value} {below : List Frame} {meth : Method} {c : Code} {D : va_G} {ca : Nat → ClassId} {A : Nat → Prop} {σ0 : cS} {α0 : cAl} {o : Option Nat × cS} (C : cC p s m args c cX11_understood 4 RX11 D ca A α0) (hr : meth.sig.returnType = (some (FieldType.object "Lorewick$Command"))) (hlk : meth.locks = false) (h17 : 0 < cn σ0 17) : ∀ (n : Nat) (α : cAl) (σ : cS) (x1 : Int32) (x2 : Int32) (H : Heap) (locs : List Loc) (ls : Array Slot), cM D ca true A s.heap σ0 α0 σ α H locs → lv_has ls 4 [(0, cr α 0 (some 0)), (1, .int x1), (2, .int x2)] → fc_X11_understood_10 n σ x1 x2 = some o → W p l e rc_X11_understood s m args below meth c H locs 0 0 (MQ below (cQ true D ca true A α0 σ0 (fun α1 => some (cr α1 8 o.1)) o.2) args s 1 3 A) (F0 m 10 ls []) := by
  have hx := C.1
  have hb := C.2.1
  intro n
  induction n with
  | zero =>
    intro α σ x1 x2 H locs ls hM hl h
    cases h
  | succ n ih =>
    intro α σ x1 x2 H locs ls hM hl h
    rw [fc_X11_understood_10] at h
    refine lv_iload_n hx hb dX11_understood_10 rfl (lv_at hl 2 rfl) ?_
    refine c_getVs C hM fl_X11_562 dX11_understood_11 ?_
    refine c_Vslen C hM dX11_understood_14 ?_
    refine lv_icmp_ge (tgt := 63) hx hb dX11_understood_15 (by decide) (fun c_1 => ?_) (fun c_1 => ?_)
    · have h := br_T c_1 h
      refine lv_null hx hb dX11_understood_63 ?_
      refine W.widen (k := 1) (n := 3) (Nat.le_of_ble_eq_true rfl) (Nat.le_of_ble_eq_true rfl) ?_
      exact c_ra (k := 8) (v := none) C hM (fun h => by cases h) hr rfl hlk dX11_understood_64 h
    · have h := br_F c_1 h
      refine c_getVs C hM fl_X11_562 dX11_understood_18 ?_
      refine lv_iload_n hx hb dX11_understood_21 rfl (lv_at hl 2 rfl) ?_
      obtain ⟨c_2, h⟩ := ko_of h
      refine c_Vsat C hM (Classical.not_not.mp c_2) dX11_understood_22 ?_
      refine c_astore_n (t := 18) (x := (some x2.toNatClampNeg)) (lv' := [(3, cr α 18 (some x2.toNatClampNeg)), (0, cr α 0 (some 0)), (1, .int x1), (2, .int x2)]) hx hb dX11_understood_23 rfl hl (by decide) rfl (fun ls hl => ?_)
      refine lv_iload_n hx hb dX11_understood_24 rfl (lv_at hl 2 rfl) ?_
      refine lv_if_le (tgt := 57) hx hb dX11_understood_25 (by decide) (fun c_3 => ?_) (fun c_3 => ?_)
      · have h := br_T c_3 h
        exact gc_X11_understood_57 C hr hlk h17 ih α _ _ _ _ _ _ hM (lv_sub hl [1, 2, 3] rfl) h
      · have h := br_F c_3 h
        refine c_aload_n (t := 18) (x := (some x2.toNatClampNeg)) hx hb dX11_understood_28 rfl (lv_at hl 0 rfl) ?_
        obtain ⟨i_1, hv_1, h⟩ := bd_of h
        refine c_vpartsd C hM hv_1 fl_X11_566 dX11_understood_29 ?_
        refine lv_iload_n hx hb dX11_understood_32 rfl (lv_at hl 2 rfl) ?_
        refine lv_icmp_ne (tgt := 57) hx hb dX11_understood_33 (by decide) (fun c_4 => ?_) (fun c_4 => ?_)
        · have h := br_F c_4 h
          exact gc_X11_understood_57 C hr hlk h17 ih α _ _ _ _ _ _ hM (lv_sub hl [1, 2, 3] rfl) h
        · have h := br_T c_4 h
          refine c_aload_n (t := 0) (x := (some 0)) hx hb dX11_understood_36 rfl (lv_at hl 1 rfl) ?_
          refine c_getb C hM (k := 0) (f := 0) (j := 0) (t := 1) (hM.cst 0 0 rfl) (by decide) fl_X11_18 dX11_understood_37 ?_
          refine lv_iconst (v := (0 : Int32)) hx hb dX11_understood_40 (by decide) ?_
          refine c_aload_n (t := 18) (x := (some x2.toNatClampNeg)) hx hb dX11_understood_41 rfl (lv_at hl 0 rfl) ?_
          obtain ⟨i_2, hv_2, h⟩ := bd_of h
          refine c_vtextd C hM hv_2 fl_X11_569 dX11_understood_42 ?_
          obtain ⟨r_3, hr_3, h⟩ := bd_of h
          refine c_go0 (c_rV (As := [.int (0 : Int32), cr α 19 (some (vT.getD i_2 0))]) (rest := []) C hM h17 (hM.cst 1 0 rfl) (by decide) (cc_X7_isPart l D ca A α σ (0 : Int32) (some (vT.getD i_2 0)) _ hr_3) cw_X11_573 ⟨rfl, rfl⟩ ⟨Nat.le_of_ble_eq_true rfl, Nat.le_of_ble_eq_true rfl⟩ rfl rfl (cats_le _ (Nat.le_of_ble_eq_true rfl)) hl.1 dX11_understood_45 ⟨Nat.le_of_ble_eq_true rfl, Nat.le_of_ble_eq_true rfl⟩) hM (fun H locs hM => ?_)
          refine W_st (st' := [.int r_3.1]) rfl ?_
          refine lv_if_eq (tgt := 57) hx hb dX11_understood_48 (by decide) (fun c_5 => ?_) (fun c_5 => ?_)
          · have h := br_T c_5 h
            exact gc_X11_understood_57 C hr hlk h17 ih α _ _ _ _ _ _ hM (lv_sub hl [1, 2, 3] rfl) h
          · have h := br_F c_5 h
            refine c_aload_n (t := 0) (x := (some 0)) hx hb dX11_understood_51 rfl (lv_at hl 1 rfl) ?_
            refine c_aload_n (t := 18) (x := (some x2.toNatClampNeg)) hx hb dX11_understood_52 rfl (lv_at hl 0 rfl) ?_
            obtain ⟨r_4, hr_4, h⟩ := bd_of h
            refine c_go1 (c_rV (As := [cr α 18 (some x2.toNatClampNeg)]) (rest := []) C hM h17 (hM.cst 0 0 rfl) (by decide) (cc_X11_completed l D ca A α r_3.2 (some x2.toNatClampNeg) _ hr_4) cw_X11_577 ⟨rfl, rfl⟩ ⟨Nat.le_of_ble_eq_true rfl, Nat.le_of_ble_eq_true rfl⟩ rfl rfl (cats_le _ (Nat.le_of_ble_eq_true rfl)) hl.1 dX11_understood_53 ⟨Nat.le_of_ble_eq_true rfl, Nat.le_of_ble_eq_true rfl⟩) hM (fun H locs α_1 hX_4 hM => ?_)
            have hl := lv_to (lv_sub hl [] rfl) (show ([] : List (Nat × Value)) = [] by rfl)
            refine W_st (st' := [cr α_1 8 r_4.1]) rfl ?_
            exact c_ra (k := 8) (v := r_4.1) C hM (fun h => by cases h) hr rfl hlk dX11_understood_56 h
def fc_X11_understood (σ : cS) : Option (Option Nat × cS) :=
  (fc_X7_divide σ).bind fun r_1 =>
  fc_X11_understood_10 3000 r_1.2 r_1.1 (0 : Int32)
set_option maxHeartbeats 4000000 in
set_option maxRecDepth 100000 in
theorem cc_X11_understood (l : Launch) (D : va_G) (ca : Nat → ClassId) (A : Nat → Prop) (α : cAl) (σ : cS) (o : Option Nat × cS) (h : fc_X11_understood σ  = some o) : cMet true l yX11_understood cX11_understood 4 ((some (FieldType.object "Lorewick$Command"))) rc_X11_understood 1 3 D ca true A α σ [cr α 0 (some 0)] (fun α1 => some (cr α1 8 o.1)) o.2 := by
  refine Met.ofW (cc := cX11_understood) (maxL := 4) (ret := (some (FieldType.object "Lorewick$Command"))) (by decide) rfl ?_
  intro p e s m args below meth c s₁ B hml hv
  obtain ⟨rfl, hP, hK, hD0, hSh, hA, hG⟩ := hv
  have C : cC p s m _ c cX11_understood 4 RX11 D ca A α := ⟨B.exec, B.bytes, hml, findClass_of_methodNamed B.named, fun w hw => atoms_spec (ws := mWs yX11_understood cX11_understood 4 ((some (FieldType.object "Lorewick$Command")))) B.pre w (List.mem_cons_of_mem _ hw), hK, hG⟩
  have hM : cM D ca true A s.heap σ α σ α s.heap [] := ⟨hP, hD0, hSh, va_S.rf, hA, cX.rf⟩
  have h17 : 0 < cn σ 17 := c_17 hM
  have hr := B.returns
  have hlk := B.notSynchronized
  have hx := C.1
  have hb := C.2.1
  have hl := lv_entry ([cr α 0 (some 0)]) (n := 4) (Nat.le_of_ble_eq_true rfl)
  rw [lg_entry_eq]
  generalize (lg_sl ([cr α 0 (some 0)]) ++ List.replicate (4 - (lg_sl ([cr α 0 (some 0)])).length) Slot.unset).toArray = ls at hl ⊢
  have hl : lv_has ls 4 [(0, cr α 0 (some 0))] := hl
  unfold fc_X11_understood at h
  refine c_aload_n (t := 0) (x := (some 0)) hx hb dX11_understood_0 rfl (lv_at hl 0 rfl) ?_
  refine c_getb C hM (k := 0) (f := 0) (j := 0) (t := 1) (hM.cst 0 0 rfl) (by decide) fl_X11_18 dX11_understood_1 ?_
  obtain ⟨r_1, hr_1, h⟩ := bd_of h
  refine c_go0 (c_rV (As := []) (rest := []) C hM h17 (hM.cst 1 0 rfl) (by decide) (cc_X7_divide l D ca A α σ _ hr_1) cw_X11_559 ⟨rfl, rfl⟩ ⟨Nat.le_of_ble_eq_true rfl, Nat.le_of_ble_eq_true rfl⟩ rfl rfl (cats_le _ (Nat.le_of_ble_eq_true rfl)) hl.1 dX11_understood_4 ⟨Nat.le_of_ble_eq_true rfl, Nat.le_of_ble_eq_true rfl⟩) hM (fun H locs hM => ?_)
  refine W_st (st' := [.int r_1.1]) rfl ?_
  refine lv_istore_n (lv' := [(1, .int r_1.1), (0, cr α 0 (some 0))]) hx hb dX11_understood_7 rfl hl (by decide) rfl (fun ls hl => ?_)
  refine lv_iconst (v := (0 : Int32)) hx hb dX11_understood_8 (by decide) ?_
  refine lv_istore_n (lv' := [(2, .int (0 : Int32)), (1, .int r_1.1), (0, cr α 0 (some 0))]) hx hb dX11_understood_9 rfl hl (by decide) rfl (fun ls hl => ?_)
  exact gc_X11_understood_10 C hr hlk h17  _ α _ _ _ _ _ _ hM (lv_sub hl [2, 1, 0] rfl) h
/-! Lorewick.usesKnownWords(LLorewick$Command;LLorewick$Node;)Z -/
abbrev rc_X11_usesKnownWords : Room := { frames := 1, cells := 0, slots := 0, locals := 23 }
def fc_X11_usesKnownWords_53 (σ : cS) (s0 : Int32) : Option (Int32 × cS) :=
    if s0 &&& 1 = s0 then some (s0, σ) else none
set_option maxHeartbeats 4000000 in
set_option maxRecDepth 100000 in
theorem gc_X11_usesKnownWords_53 {p : Program} {l : Launch} {e : Env} {s : State} {m : MethodId} {args : Array Value} {below : List Frame} {meth : Method} {c : Code} {D : va_G} {ca : Nat → ClassId} {A : Nat → Prop} {σ0 : cS} {α : cAl} {o : Int32 × cS} (C : cC p s m args c cX11_usesKnownWords 5 RX11 D ca A α) (hr : meth.sig.returnType = (some FieldType.boolean)) (hlk : meth.locks = false) (h17 : 0 < cn σ0 17) : ∀ (σ : cS) (s0 : Int32) (H : Heap) (locs : List Loc) (ls : Array Slot), cM D ca true A s.heap σ0 α σ α H locs → lv_has ls 5 [] → fc_X11_usesKnownWords_53 σ s0 = some o → W p l e rc_X11_usesKnownWords s m args below meth c H locs 0 0 (MQ below (cQ false D ca true A α σ0 (fun _ => some (.int o.1)) o.2) args s 0 0 A) (F0 m 53 ls [.int s0]) := by
  have hx := C.1
  have hb := C.2.1
  intro σ s0 H locs ls hM hl h
  unfold fc_X11_usesKnownWords_53 at h
  exact c_rz C hM (fun _ => rfl) hr hlk dX11_usesKnownWords_53 h
def fc_X11_usesKnownWords_48 (σ : cS) : Option (Int32 × cS) :=
    fc_X11_usesKnownWords_53 σ (1 : Int32)
set_option maxHeartbeats 4000000 in
set_option maxRecDepth 100000 in
theorem gc_X11_usesKnownWords_48 {p : Program} {l : Launch} {e : Env} {s : State} {m : MethodId} {args : Array Value} {below : List Frame} {meth : Method} {c : Code} {D : va_G} {ca : Nat → ClassId} {A : Nat → Prop} {σ0 : cS} {α : cAl} {o : Int32 × cS} (C : cC p s m args c cX11_usesKnownWords 5 RX11 D ca A α) (hr : meth.sig.returnType = (some FieldType.boolean)) (hlk : meth.locks = false) (h17 : 0 < cn σ0 17) : ∀ (σ : cS) (H : Heap) (locs : List Loc) (ls : Array Slot), cM D ca true A s.heap σ0 α σ α H locs → lv_has ls 5 [] → fc_X11_usesKnownWords_48 σ = some o → W p l e rc_X11_usesKnownWords s m args below meth c H locs 0 0 (MQ below (cQ false D ca true A α σ0 (fun _ => some (.int o.1)) o.2) args s 0 0 A) (F0 m 48 ls []) := by
  have hx := C.1
  have hb := C.2.1
  intro σ H locs ls hM hl h
  unfold fc_X11_usesKnownWords_48 at h
  refine lv_iconst (v := (1 : Int32)) hx hb dX11_usesKnownWords_48 (by decide) ?_
  refine lv_goto (tgt := 53) hx hb dX11_usesKnownWords_49 (by decide) ?_
  exact gc_X11_usesKnownWords_53 C hr hlk h17  _ _ _ _ _ hM (lv_sub hl [] rfl) h
def fc_X11_usesKnownWords_52 (σ : cS) : Option (Int32 × cS) :=
    fc_X11_usesKnownWords_53 σ (0 : Int32)
set_option maxHeartbeats 4000000 in
set_option maxRecDepth 100000 in
theorem gc_X11_usesKnownWords_52 {p : Program} {l : Launch} {e : Env} {s : State} {m : MethodId} {args : Array Value} {below : List Frame} {meth : Method} {c : Code} {D : va_G} {ca : Nat → ClassId} {A : Nat → Prop} {σ0 : cS} {α : cAl} {o : Int32 × cS} (C : cC p s m args c cX11_usesKnownWords 5 RX11 D ca A α) (hr : meth.sig.returnType = (some FieldType.boolean)) (hlk : meth.locks = false) (h17 : 0 < cn σ0 17) : ∀ (σ : cS) (H : Heap) (locs : List Loc) (ls : Array Slot), cM D ca true A s.heap σ0 α σ α H locs → lv_has ls 5 [] → fc_X11_usesKnownWords_52 σ = some o → W p l e rc_X11_usesKnownWords s m args below meth c H locs 0 0 (MQ below (cQ false D ca true A α σ0 (fun _ => some (.int o.1)) o.2) args s 0 0 A) (F0 m 52 ls []) := by
  have hx := C.1
  have hb := C.2.1
  intro σ H locs ls hM hl h
  unfold fc_X11_usesKnownWords_52 at h
  refine lv_iconst (v := (0 : Int32)) hx hb dX11_usesKnownWords_52 (by decide) ?_
  exact gc_X11_usesKnownWords_53 C hr hlk h17  _ _ _ _ _ hM (lv_sub hl [] rfl) h
def fc_X11_usesKnownWords_31 (σ : cS) (x0 : Option Nat) (x2 : Int64) (x4 : Int32) : Option (Int32 × cS) :=
    if x4 < (2 : Int32) then
      fc_X11_usesKnownWords_48 σ
    else
      (dr σ 8 x0).bind fun i_1 =>
      (fc_X11_includes σ x2 (cI σ 8 i_1 2)).bind fun r_2 =>
      if r_2.1 = 0 then
        fc_X11_usesKnownWords_52 r_2.2
      else
        fc_X11_usesKnownWords_48 r_2.2
set_option maxHeartbeats 4000000 in
set_option maxRecDepth 100000 in
theorem gc_X11_usesKnownWords_31 {p : Program} {l : Launch} {e : Env} {s : State} {m : MethodId} {args : Array Value} {below : List Frame} {meth : Method} {c : Code} {D : va_G} {ca : Nat → ClassId} {A : Nat → Prop} {σ0 : cS} {α : cAl} {o : Int32 × cS} (C : cC p s m args c cX11_usesKnownWords 5 RX11 D ca A α) (hr : meth.sig.returnType = (some FieldType.boolean)) (hlk : meth.locks = false) (h17 : 0 < cn σ0 17) : ∀ (σ : cS) (x0 : Option Nat) (x2 : Int64) (x4 : Int32) (H : Heap) (locs : List Loc) (ls : Array Slot), cM D ca true A s.heap σ0 α σ α H locs → lv_has ls 5 [(0, cr α 8 x0), (2, .long x2), (4, .int x4)] → fc_X11_usesKnownWords_31 σ x0 x2 x4 = some o → W p l e rc_X11_usesKnownWords s m args below meth c H locs 0 0 (MQ below (cQ false D ca true A α σ0 (fun _ => some (.int o.1)) o.2) args s 0 0 A) (F0 m 31 ls []) := by
  have hx := C.1
  have hb := C.2.1
  intro σ x0 x2 x4 H locs ls hM hl h
  unfold fc_X11_usesKnownWords_31 at h
  refine lv_iload hx hb dX11_usesKnownWords_31 (lv_at hl 2 rfl) ?_
  refine lv_iconst (v := (2 : Int32)) hx hb dX11_usesKnownWords_33 (by decide) ?_
  refine lv_icmp_lt (tgt := 48) hx hb dX11_usesKnownWords_34 (by decide) (fun c_1 => ?_) (fun c_1 => ?_)
  · have h := br_T c_1 h
    exact gc_X11_usesKnownWords_48 C hr hlk h17  _ _ _ _ hM (lv_sub hl [] rfl) h
  · have h := br_F c_1 h
    refine lv_lload_n hx hb dX11_usesKnownWords_37 rfl (lv_at hl 1 rfl) ?_
    refine c_aload_n (t := 8) (x := x0) hx hb dX11_usesKnownWords_38 rfl (lv_at hl 0 rfl) ?_
    obtain ⟨i_1, hd_1, h⟩ := bd_of h
    refine c_geti C hM (k := 8) (f := 2) hd_1 rfl fl_X11_612 dX11_usesKnownWords_39 ?_
    obtain ⟨r_2, hr_2, h⟩ := bd_of h
    refine c_go0 (c_rS (As := [.long x2, .int (cI σ 8 i_1 2)]) (rest := []) C hM h17 (cc_X11_includes l D ca A α σ x2 (cI σ 8 i_1 2) _ hr_2) cw_X11_220 ⟨rfl, rfl⟩ ⟨Nat.le_of_ble_eq_true rfl, Nat.le_of_ble_eq_true rfl⟩ rfl rfl (cats_le _ (Nat.le_of_ble_eq_true rfl)) hl.1 dX11_usesKnownWords_42 ⟨Nat.le_of_ble_eq_true rfl, Nat.le_of_ble_eq_true rfl⟩) hM (fun H locs hM => ?_)
    refine W_st (st' := [.int r_2.1]) rfl ?_
    refine lv_if_eq (tgt := 52) hx hb dX11_usesKnownWords_45 (by decide) (fun c_2 => ?_) (fun c_2 => ?_)
    · have h := br_T c_2 h
      exact gc_X11_usesKnownWords_52 C hr hlk h17  _ _ _ _ hM (lv_sub hl [] rfl) h
    · have h := br_F c_2 h
      exact gc_X11_usesKnownWords_48 C hr hlk h17  _ _ _ _ hM (lv_sub hl [] rfl) h
def fc_X11_usesKnownWords (σ : cS) (x0 : Option Nat) (x1 : Option Nat) : Option (Int32 × cS) :=
  (dr σ 7 x1).bind fun i_1 =>
  (fc_X2_wordsOfPath σ x1).bind fun r_2 =>
  (dr r_2.2 8 x0).bind fun i_3 =>
  (dv (cR r_2.2 8 i_3 0)).bind fun i_4 =>
  if (vQ.getD i_4 0) < (1 : Int32) then
    fc_X11_usesKnownWords_31 r_2.2 x0 r_2.1 (vQ.getD i_4 0)
  else
    (fc_X11_includes r_2.2 r_2.1 (cI r_2.2 8 i_3 1)).bind fun r_5 =>
    if r_5.1 = 0 then
      fc_X11_usesKnownWords_52 r_5.2
    else
      fc_X11_usesKnownWords_31 r_5.2 x0 r_2.1 (vQ.getD i_4 0)
set_option maxHeartbeats 4000000 in
set_option maxRecDepth 100000 in
theorem cc_X11_usesKnownWords (l : Launch) (D : va_G) (ca : Nat → ClassId) (A : Nat → Prop) (α : cAl) (σ : cS) (x0 : Option Nat) (x1 : Option Nat) (o : Int32 × cS) (h : fc_X11_usesKnownWords σ x0 x1 = some o) : cMet false l yX11_usesKnownWords cX11_usesKnownWords 5 ((some FieldType.boolean)) rc_X11_usesKnownWords 0 0 D ca true A α σ [cr α 8 x0, cr α 7 x1] (fun _ => some (.int o.1)) o.2 := by
  refine Met.ofW (cc := cX11_usesKnownWords) (maxL := 5) (ret := (some FieldType.boolean)) (by decide) rfl ?_
  intro p e s m args below meth c s₁ B hml hv
  obtain ⟨rfl, hP, hK, hD0, hSh, hA, hG⟩ := hv
  have C : cC p s m _ c cX11_usesKnownWords 5 RX11 D ca A α := ⟨B.exec, B.bytes, hml, findClass_of_methodNamed B.named, fun w hw => atoms_spec (ws := mWs yX11_usesKnownWords cX11_usesKnownWords 5 ((some FieldType.boolean))) B.pre w (List.mem_cons_of_mem _ hw), hK, hG⟩
  have hM : cM D ca true A s.heap σ α σ α s.heap [] := ⟨hP, hD0, hSh, va_S.rf, hA, cX.rf⟩
  have h17 : 0 < cn σ 17 := c_17 hM
  have hr := B.returns
  have hlk := B.notSynchronized
  have hx := C.1
  have hb := C.2.1
  have hl := lv_entry ([cr α 8 x0, cr α 7 x1]) (n := 5) (by simp [lg_r, lg_i, lg_l, lg_n])
  rw [lg_entry_eq]
  generalize (lg_sl ([cr α 8 x0, cr α 7 x1]) ++ List.replicate (5 - (lg_sl ([cr α 8 x0, cr α 7 x1])).length) Slot.unset).toArray = ls at hl ⊢
  have hl : lv_has ls 5 [(0, cr α 8 x0), (1, cr α 7 x1)] := (lv_to hl (by simp only [la_r, la_i, la_l, la_n]))
  unfold fc_X11_usesKnownWords at h
  refine c_aload_n (t := 7) (x := x1) hx hb dX11_usesKnownWords_0 rfl (lv_at hl 1 rfl) ?_
  obtain ⟨i_1, hd_1, h⟩ := bd_of h
  obtain ⟨r_2, hr_2, h⟩ := bd_of h
  refine c_go0 (c_rV (As := []) (rest := []) C hM h17 hd_1 (by decide) (cc_X2_wordsOfPath l D ca A α σ x1 _ hr_2) cw_X11_363 ⟨rfl, rfl⟩ ⟨Nat.le_of_ble_eq_true rfl, Nat.le_of_ble_eq_true rfl⟩ rfl rfl (cats_le _ (Nat.le_of_ble_eq_true rfl)) hl.1 dX11_usesKnownWords_1 ⟨Nat.le_of_ble_eq_true rfl, Nat.le_of_ble_eq_true rfl⟩) hM (fun H locs hM => ?_)
  refine W_st (st' := [.long r_2.1]) rfl ?_
  refine lv_lstore_n (lv' := [(2, .long r_2.1), (0, cr α 8 x0), (1, cr α 7 x1)]) hx hb dX11_usesKnownWords_4 rfl hl (by decide) (by first | rfl | (simp only [List.filter, cr_cat]; rfl)) (fun ls hl => ?_)
  refine c_aload_n (t := 8) (x := x0) hx hb dX11_usesKnownWords_5 rfl (lv_at hl 1 rfl) ?_
  obtain ⟨i_3, hd_3, h⟩ := bd_of h
  refine c_getrt C hM (k := 8) (f := 0) (t := 18) hd_3 (by decide) fl_X11_606 dX11_usesKnownWords_6 ?_
  obtain ⟨i_4, hv_4, h⟩ := bd_of h
  refine c_vnounsd C hM hv_4 fl_X11_592 dX11_usesKnownWords_9 ?_
  refine lv_istore (lv' := [(4, .int (vQ.getD i_4 0)), (2, .long r_2.1), (0, cr α 8 x0), (1, cr α 7 x1)]) hx hb dX11_usesKnownWords_12 hl (by decide) rfl (fun ls hl => ?_)
  refine lv_iload hx hb dX11_usesKnownWords_14 (lv_at hl 0 rfl) ?_
  refine lv_iconst (v := (1 : Int32)) hx hb dX11_usesKnownWords_16 (by decide) ?_
  refine lv_icmp_lt (tgt := 31) hx hb dX11_usesKnownWords_17 (by decide) (fun c_1 => ?_) (fun c_1 => ?_)
  · have h := br_T c_1 h
    exact gc_X11_usesKnownWords_31 C hr hlk h17  _ _ _ _ _ _ _ hM (lv_sub hl [2, 1, 0] rfl) h
  · have h := br_F c_1 h
    refine lv_lload_n hx hb dX11_usesKnownWords_20 rfl (lv_at hl 1 rfl) ?_
    refine c_aload_n (t := 8) (x := x0) hx hb dX11_usesKnownWords_21 rfl (lv_at hl 2 rfl) ?_
    refine c_geti C hM (k := 8) (f := 1) hd_3 rfl fl_X11_609 dX11_usesKnownWords_22 ?_
    obtain ⟨r_5, hr_5, h⟩ := bd_of h
    refine c_go0 (c_rS (As := [.long r_2.1, .int (cI r_2.2 8 i_3 1)]) (rest := []) C hM h17 (cc_X11_includes l D ca A α r_2.2 r_2.1 (cI r_2.2 8 i_3 1) _ hr_5) cw_X11_220 ⟨rfl, rfl⟩ ⟨Nat.le_of_ble_eq_true rfl, Nat.le_of_ble_eq_true rfl⟩ rfl rfl (cats_le _ (Nat.le_of_ble_eq_true rfl)) hl.1 dX11_usesKnownWords_25 ⟨Nat.le_of_ble_eq_true rfl, Nat.le_of_ble_eq_true rfl⟩) hM (fun H locs hM => ?_)
    refine W_st (st' := [.int r_5.1]) rfl ?_
    refine lv_if_eq (tgt := 52) hx hb dX11_usesKnownWords_28 (by decide) (fun c_2 => ?_) (fun c_2 => ?_)
    · have h := br_T c_2 h
      exact gc_X11_usesKnownWords_52 C hr hlk h17  _ _ _ _ hM (lv_sub hl [] rfl) h
    · have h := br_F c_2 h
      exact gc_X11_usesKnownWords_31 C hr hlk h17  _ _ _ _ _ _ _ hM (lv_sub hl [2, 1, 0] rfl) h
/-! Lorewick.tried(LLorewick$Command;)C -/
abbrev rc_X11_tried : Room := { frames := 5, cells := 0, slots := 0, locals := 122 }
def fc_X11_tried_56 (σ : cS) (s0 : Int32) : Option (Int32 × cS) :=
    if s0.toUInt32.toUInt16.toUInt32.toInt32 = s0 then some (s0, σ) else none
set_option maxHeartbeats 4000000 in
set_option maxRecDepth 100000 in
theorem gc_X11_tried_56 {p : Program} {l : Launch} {e : Env} {s : State} {m : MethodId} {args : Array Value} {below : List Frame} {meth : Method} {c : Code} {D : va_G} {ca : Nat → ClassId} {A : Nat → Prop} {σ0 : cS} {α : cAl} {o : Int32 × cS} (C : cC p s m args c cX11_tried 2 RX11 D ca A α) (hr : meth.sig.returnType = (some FieldType.char)) (hlk : meth.locks = false) (h17 : 0 < cn σ0 17) : ∀ (σ : cS) (s0 : Int32) (H : Heap) (locs : List Loc) (ls : Array Slot), cM D ca true A s.heap σ0 α σ α H locs → lv_has ls 2 [] → fc_X11_tried_56 σ s0 = some o → W p l e rc_X11_tried s m args below meth c H locs 0 0 (MQ below (cQ false D ca true A α σ0 (fun _ => some (.int o.1)) o.2) args s 0 0 A) (F0 m 56 ls [.int s0]) := by
  have hx := C.1
  have hb := C.2.1
  intro σ s0 H locs ls hM hl h
  unfold fc_X11_tried_56 at h
  exact c_rc C hM (fun _ => rfl) hr hlk dX11_tried_56 h
def fc_X11_tried (σ : cS) (x1 : Option Nat) : Option (Int32 × cS) :=
  (fc_X8_current σ).bind fun r_1 =>
  (fc_X11_usesKnownWords r_1.2 x1 r_1.1).bind fun r_2 =>
  if r_2.1 = 0 then
    if (119 : Int32).toUInt32.toUInt16.toUInt32.toInt32 = (119 : Int32) then some ((119 : Int32), r_2.2) else none
  else
    (fc_X8_current r_2.2).bind fun r_3 =>
    (dr r_3.2 7 r_3.1).bind fun i_4 =>
    (fc_X6_copy r_3.2 (some 0) (cR r_3.2 7 i_4 3)).bind fun r_5 =>
    (fc_X3_perform r_5 (some 0) x1).bind fun r_6 =>
    if r_6.1 = 0 then
      fc_X11_tried_56 r_6.2 (110 : Int32)
    else
      fc_X11_tried_56 r_6.2 (111 : Int32)
set_option maxHeartbeats 4000000 in
set_option maxRecDepth 100000 in
theorem cc_X11_tried (l : Launch) (D : va_G) (ca : Nat → ClassId) (A : Nat → Prop) (α : cAl) (σ : cS) (x1 : Option Nat) (o : Int32 × cS) (h : fc_X11_tried σ x1 = some o) : cMet false l yX11_tried cX11_tried 2 ((some FieldType.char)) rc_X11_tried 0 0 D ca true A α σ [cr α 0 (some 0), cr α 8 x1] (fun _ => some (.int o.1)) o.2 := by
  refine Met.ofW (cc := cX11_tried) (maxL := 2) (ret := (some FieldType.char)) (by decide) rfl ?_
  intro p e s m args below meth c s₁ B hml hv
  obtain ⟨rfl, hP, hK, hD0, hSh, hA, hG⟩ := hv
  have C : cC p s m _ c cX11_tried 2 RX11 D ca A α := ⟨B.exec, B.bytes, hml, findClass_of_methodNamed B.named, fun w hw => atoms_spec (ws := mWs yX11_tried cX11_tried 2 ((some FieldType.char))) B.pre w (List.mem_cons_of_mem _ hw), hK, hG⟩
  have hM : cM D ca true A s.heap σ α σ α s.heap [] := ⟨hP, hD0, hSh, va_S.rf, hA, cX.rf⟩
  have h17 : 0 < cn σ 17 := c_17 hM
  have hr := B.returns
  have hlk := B.notSynchronized
  have hx := C.1
  have hb := C.2.1
  have hl := lv_entry ([cr α 0 (some 0), cr α 8 x1]) (n := 2) (by simp [lg_r, lg_i, lg_l, lg_n])
  rw [lg_entry_eq]
  generalize (lg_sl ([cr α 0 (some 0), cr α 8 x1]) ++ List.replicate (2 - (lg_sl ([cr α 0 (some 0), cr α 8 x1])).length) Slot.unset).toArray = ls at hl ⊢
  have hl : lv_has ls 2 [(0, cr α 0 (some 0)), (1, cr α 8 x1)] := (lv_to hl (by simp only [la_r, la_i, la_l, la_n]))
  unfold fc_X11_tried at h
  refine c_aload_n (t := 8) (x := x1) hx hb dX11_tried_0 rfl (lv_at hl 1 rfl) ?_
  refine c_aload_n (t := 0) (x := (some 0)) hx hb dX11_tried_1 rfl (lv_at hl 0 rfl) ?_
  refine c_getb C hM (k := 0) (f := 3) (j := 0) (t := 4) (hM.cst 0 0 rfl) (by decide) fl_X11_41 dX11_tried_2 ?_
  obtain ⟨r_1, hr_1, h⟩ := bd_of h
  refine c_go0 (c_rV (As := []) (rest := [cr α 8 x1]) C hM h17 (hM.cst 4 0 rfl) (by decide) (cc_X8_current l D ca A α σ _ hr_1) cw_X11_338 ⟨rfl, rfl⟩ ⟨Nat.le_of_ble_eq_true rfl, Nat.le_of_ble_eq_true rfl⟩ rfl rfl (cats_le _ (Nat.le_of_ble_eq_true rfl)) hl.1 dX11_tried_5 ⟨Nat.le_of_ble_eq_true rfl, Nat.le_of_ble_eq_true rfl⟩) hM (fun H locs hM => ?_)
  refine W_st (st' := [cr α 7 r_1.1, cr α 8 x1]) rfl ?_
  obtain ⟨r_2, hr_2, h⟩ := bd_of h
  refine c_go0 (c_rS (As := [cr α 8 x1, cr α 7 r_1.1]) (rest := []) C hM h17 (cc_X11_usesKnownWords l D ca A α r_1.2 x1 r_1.1 _ hr_2) cw_X11_598 ⟨rfl, rfl⟩ ⟨Nat.le_of_ble_eq_true rfl, Nat.le_of_ble_eq_true rfl⟩ rfl rfl (cats_le _ (Nat.le_of_ble_eq_true rfl)) hl.1 dX11_tried_8 ⟨Nat.le_of_ble_eq_true rfl, Nat.le_of_ble_eq_true rfl⟩) hM (fun H locs hM => ?_)
  refine W_st (st' := [.int r_2.1]) rfl ?_
  refine lv_if_ne (tgt := 17) hx hb dX11_tried_11 (by decide) (fun c_1 => ?_) (fun c_1 => ?_)
  · have h := br_F c_1 h
    refine c_aload_n (t := 0) (x := (some 0)) hx hb dX11_tried_17 rfl (lv_at hl 0 rfl) ?_
    refine c_getb C hM (k := 0) (f := 5) (j := 0) (t := 6) (hM.cst 0 0 rfl) (by decide) fl_X11_55 dX11_tried_18 ?_
    refine c_aload_n (t := 0) (x := (some 0)) hx hb dX11_tried_21 rfl (lv_at hl 0 rfl) ?_
    refine c_getb C hM (k := 0) (f := 3) (j := 0) (t := 4) (hM.cst 0 0 rfl) (by decide) fl_X11_41 dX11_tried_22 ?_
    obtain ⟨r_3, hr_3, h⟩ := bd_of h
    refine c_go0 (c_rV (As := []) (rest := [cr α 6 (some 0)]) C hM h17 (hM.cst 4 0 rfl) (by decide) (cc_X8_current l D ca A α r_2.2 _ hr_3) cw_X11_338 ⟨rfl, rfl⟩ ⟨Nat.le_of_ble_eq_true rfl, Nat.le_of_ble_eq_true rfl⟩ rfl rfl (cats_le _ (Nat.le_of_ble_eq_true rfl)) hl.1 dX11_tried_25 ⟨Nat.le_of_ble_eq_true rfl, Nat.le_of_ble_eq_true rfl⟩) hM (fun H locs hM => ?_)
    refine W_st (st' := [cr α 7 r_3.1, cr α 6 (some 0)]) rfl ?_
    obtain ⟨i_4, hd_4, h⟩ := bd_of h
    refine c_getrt C hM (k := 7) (f := 3) (t := 6) hd_4 (by decide) fl_X11_408 dX11_tried_28 ?_
    obtain ⟨r_5, hr_5, h⟩ := bd_of h
    refine c_go0 (c_rV (As := [cr α 6 (cR r_3.2 7 i_4 3)]) (rest := []) C hM h17 (hM.cst 6 0 rfl) (by decide) (cc_X6_copy l D ca A α r_3.2 (some 0) (cR r_3.2 7 i_4 3) _ hr_5) cw_X11_411 ⟨rfl, rfl⟩ ⟨Nat.le_of_ble_eq_true rfl, Nat.le_of_ble_eq_true rfl⟩ rfl rfl (cats_le _ (Nat.le_of_ble_eq_true rfl)) hl.1 dX11_tried_31 ⟨Nat.le_of_ble_eq_true rfl, Nat.le_of_ble_eq_true rfl⟩) hM (fun H locs hM => ?_)
    refine W_st (st' := []) rfl ?_
    refine c_aload_n (t := 0) (x := (some 0)) hx hb dX11_tried_34 rfl (lv_at hl 0 rfl) ?_
    refine c_getb C hM (k := 0) (f := 2) (j := 0) (t := 3) (hM.cst 0 0 rfl) (by decide) fl_X11_34 dX11_tried_35 ?_
    refine c_aload_n (t := 0) (x := (some 0)) hx hb dX11_tried_38 rfl (lv_at hl 0 rfl) ?_
    refine c_getb C hM (k := 0) (f := 5) (j := 0) (t := 6) (hM.cst 0 0 rfl) (by decide) fl_X11_55 dX11_tried_39 ?_
    refine c_aload_n (t := 8) (x := x1) hx hb dX11_tried_42 rfl (lv_at hl 1 rfl) ?_
    obtain ⟨r_6, hr_6, h⟩ := bd_of h
    refine c_go0 (c_rV (As := [cr α 6 (some 0), cr α 8 x1]) (rest := []) C hM h17 (hM.cst 3 0 rfl) (by decide) (cc_X3_perform l D ca A α r_5 (some 0) x1 _ hr_6) cw_X11_602 ⟨rfl, rfl⟩ ⟨Nat.le_of_ble_eq_true rfl, Nat.le_of_ble_eq_true rfl⟩ rfl rfl (cats_le _ (Nat.le_of_ble_eq_true rfl)) hl.1 dX11_tried_43 ⟨Nat.le_of_ble_eq_true rfl, Nat.le_of_ble_eq_true rfl⟩) hM (fun H locs hM => ?_)
    refine W_st (st' := [.int r_6.1]) rfl ?_
    refine lv_if_eq (tgt := 54) hx hb dX11_tried_46 (by decide) (fun c_2 => ?_) (fun c_2 => ?_)
    · have h := br_T c_2 h
      refine lv_bipush (v := (110 : Int32)) hx hb dX11_tried_54 (by decide) ?_
      exact gc_X11_tried_56 C hr hlk h17  _ _ _ _ _ hM (lv_sub hl [] rfl) h
    · have h := br_F c_2 h
      refine lv_bipush (v := (111 : Int32)) hx hb dX11_tried_49 (by decide) ?_
      refine lv_goto (tgt := 56) hx hb dX11_tried_51 (by decide) ?_
      exact gc_X11_tried_56 C hr hlk h17  _ _ _ _ _ hM (lv_sub hl [] rfl) h
  · have h := br_T c_1 h
    refine lv_bipush (v := (119 : Int32)) hx hb dX11_tried_14 (by decide) ?_
    exact c_rc C hM (fun _ => rfl) hr hlk dX11_tried_16 h
/-! Lorewick.needNodeFor(LLorewick$Command;)V -/
abbrev rc_X11_needNodeFor : Room := { frames := 6, cells := 1, slots := 6, locals := 146 }
def fc_X11_needNodeFor_33 (σ : cS) : Option ((Nat ⊕ Unit) × cS) :=
    some (.inr (), σ)
set_option maxHeartbeats 4000000 in
set_option maxRecDepth 100000 in
theorem gc_X11_needNodeFor_33 {p : Program} {l : Launch} {e : Env} {s : State} {m : MethodId} {args : Array Value} {below : List Frame} {meth : Method} {c : Code} {D : va_G} {ca : Nat → ClassId} {A : Nat → Prop} {σ0 : cS} {α : cAl} {o : (Nat ⊕ Unit) × cS} (C : cC p s m args c cX11_needNodeFor 2 RX11 D ca A α) (hr : meth.sig.returnType = (none : Option FieldType)) (hlk : meth.locks = false) (h17 : 0 < cn σ0 17) (hst : l.stackTraces = false) (hout : ∀ x ∈ c.exceptionTable.toList, False) : ∀ (σ : cS) (H : Heap) (locs : List Loc) (ls : Array Slot), cM D ca true A s.heap σ0 α σ α H locs → lv_has ls 2 [] → fc_X11_needNodeFor_33 σ = some o → W p l e rc_X11_needNodeFor s m args below meth c H locs 0 0 (vx_MQ below (cQx false D ca true A α σ0 (o.1.map id (fun (_ : Unit) _ => none)) o.2) (cXC false D ca true A α σ0 (o.1.map id (fun (_ : Unit) _ => none)) o.2) args s 1 6 A) (F0 m 33 ls []) := by
  have hx := C.1
  have hb := C.2.1
  intro σ H locs ls hM hl h
  unfold fc_X11_needNodeFor_33 at h
  refine W.widen (k := 1) (n := 6) (Nat.le_of_ble_eq_true rfl) (Nat.le_of_ble_eq_true rfl) ?_
  exact c_xr h (c_rv (o := σ) C hM (fun _ => rfl) hr hlk dX11_needNodeFor_33 rfl)
def fc_X11_needNodeFor (σ : cS) (x1 : Option Nat) : Option ((Nat ⊕ Unit) × cS) :=
  (fc_X8_isFull σ).bind fun r_1 =>
  if r_1.1 = 0 then
    fc_X11_needNodeFor_33 r_1.2
  else
    (fc_X8_childBy r_1.2 x1).bind fun r_2 =>
    if r_2.1 = (-1 : Int32) then
      some (.inl 2, r_2.2)
    else
      fc_X11_needNodeFor_33 r_2.2
set_option maxHeartbeats 4000000 in
set_option maxRecDepth 100000 in
theorem cc_X11_needNodeFor (l : Launch) (hst : l.stackTraces = false) (D : va_G) (ca : Nat → ClassId) (A : Nat → Prop) (α : cAl) (σ : cS) (x1 : Option Nat) (o : (Nat ⊕ Unit) × cS) (h : fc_X11_needNodeFor σ x1 = some o) : cMetX false l yX11_needNodeFor cX11_needNodeFor 2 ((none : Option FieldType)) rc_X11_needNodeFor 1 6 D ca true A α σ [cr α 0 (some 0), cr α 8 x1] (o.1.map id (fun (_ : Unit) _ => none)) o.2 := by
  refine vx_ofW (cc := cX11_needNodeFor) (maxL := 2) (ret := (none : Option FieldType)) (by decide) rfl ?_
  intro p e s m args below meth c s₁ B hml hout hv
  obtain ⟨rfl, hP, hK, hD0, hSh, hA, hG⟩ := hv
  have C : cC p s m _ c cX11_needNodeFor 2 RX11 D ca A α := ⟨B.exec, B.bytes, hml, findClass_of_methodNamed B.named, fun w hw => atoms_spec (ws := mWs yX11_needNodeFor cX11_needNodeFor 2 ((none : Option FieldType))) B.pre w (List.mem_cons_of_mem _ hw), hK, hG⟩
  have hM : cM D ca true A s.heap σ α σ α s.heap [] := ⟨hP, hD0, hSh, va_S.rf, hA, cX.rf⟩
  have h17 : 0 < cn σ 17 := c_17 hM
  have hr := B.returns
  have hlk := B.notSynchronized
  have hx := C.1
  have hb := C.2.1
  have hl := lv_entry ([cr α 0 (some 0), cr α 8 x1]) (n := 2) (by simp [lg_r, lg_i, lg_l, lg_n])
  rw [lg_entry_eq]
  generalize (lg_sl ([cr α 0 (some 0), cr α 8 x1]) ++ List.replicate (2 - (lg_sl ([cr α 0 (some 0), cr α 8 x1])).length) Slot.unset).toArray = ls at hl ⊢
  have hl : lv_has ls 2 [(0, cr α 0 (some 0)), (1, cr α 8 x1)] := (lv_to hl (by simp only [la_r, la_i, la_l, la_n]))
  unfold fc_X11_needNodeFor at h
  refine c_aload_n (t := 0) (x := (some 0)) hx hb dX11_needNodeFor_0 rfl (lv_at hl 0 rfl) ?_
  refine c_getb C hM (k := 0) (f := 3) (j := 0) (t := 4) (hM.cst 0 0 rfl) (by decide) fl_X11_41 dX11_needNodeFor_1 ?_
  obtain ⟨r_1, hr_1, h⟩ := bd_of h
  refine c_go0 (c_rV (As := []) (rest := []) C hM h17 (hM.cst 4 0 rfl) (by decide) (cc_X8_isFull l D ca A α σ _ hr_1) cw_X11_393 ⟨rfl, rfl⟩ ⟨Nat.le_of_ble_eq_true rfl, Nat.le_of_ble_eq_true rfl⟩ rfl rfl (cats_le _ (Nat.le_of_ble_eq_true rfl)) hl.1 dX11_needNodeFor_4 ⟨Nat.le_of_ble_eq_true rfl, Nat.le_of_ble_eq_true rfl⟩) hM (fun H locs hM => ?_)
  refine W_st (st' := [.int r_1.1]) rfl ?_
  refine lv_if_eq (tgt := 33) hx hb dX11_needNodeFor_7 (by decide) (fun c_1 => ?_) (fun c_1 => ?_)
  · have h := br_T c_1 h
    exact gc_X11_needNodeFor_33 C hr hlk h17 hst hout  _ _ _ _ hM (lv_sub hl [] rfl) h
  · have h := br_F c_1 h
    refine c_aload_n (t := 0) (x := (some 0)) hx hb dX11_needNodeFor_10 rfl (lv_at hl 0 rfl) ?_
    refine c_getb C hM (k := 0) (f := 3) (j := 0) (t := 4) (hM.cst 0 0 rfl) (by decide) fl_X11_41 dX11_needNodeFor_11 ?_
    refine c_aload_n (t := 8) (x := x1) hx hb dX11_needNodeFor_14 rfl (lv_at hl 1 rfl) ?_
    obtain ⟨r_2, hr_2, h⟩ := bd_of h
    refine c_go0 (c_rV (As := [cr α 8 x1]) (rest := []) C hM h17 (hM.cst 4 0 rfl) (by decide) (cc_X8_childBy l D ca A α r_1.2 x1 _ hr_2) cw_X11_539 ⟨rfl, rfl⟩ ⟨Nat.le_of_ble_eq_true rfl, Nat.le_of_ble_eq_true rfl⟩ rfl rfl (cats_le _ (Nat.le_of_ble_eq_true rfl)) hl.1 dX11_needNodeFor_15 ⟨Nat.le_of_ble_eq_true rfl, Nat.le_of_ble_eq_true rfl⟩) hM (fun H locs hM => ?_)
    refine W_st (st' := [.int r_2.1]) rfl ?_
    refine lv_iconst (v := (-1 : Int32)) hx hb dX11_needNodeFor_18 (by decide) ?_
    refine lv_icmp_ne (tgt := 33) hx hb dX11_needNodeFor_19 (by decide) (fun c_2 => ?_) (fun c_2 => ?_)
    · have h := br_F c_2 h
      exact gc_X11_needNodeFor_33 C hr hlk h17 hst hout  _ _ _ _ hM (lv_sub hl [] rfl) h
    · have h := br_T c_2 h
      exact c_throwW (k := 2) (text := "there are 80 nodes") C hM (fun _ => rfl) hst hout hlk (by decide +kernel) cx_at2 cx_ot2 (wl_in (i := 597) (by decide +kernel)) (wl_in (i := 21) (by decide +kernel)) rfl dX11_needNodeFor_22 dX11_needNodeFor_25 dX11_needNodeFor_26 dX11_needNodeFor_29 dX11_needNodeFor_32 hl.1 (Nat.le_of_ble_eq_true rfl) (Nat.le_of_ble_eq_true rfl) (Nat.le_of_ble_eq_true rfl) (Nat.le_of_ble_eq_true rfl) (Nat.le_of_ble_eq_true rfl) (Nat.le_of_ble_eq_true rfl) h
