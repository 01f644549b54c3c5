/-! The class's methods: what each makes of the state (fc_..), as the bytecode has it; and that it does (cc_..). -/
theorem fl_X11_622 : Cond.fieldLink RX11 622 "Lorewick$1" "$SwitchMap$Lorewick$Verb" "[I" ∈ wl := wl_in (i := 405) (by decide +kernel)
theorem ol_X11_627 : Cond.methodLink RX11 627 ⟨"Lorewick$Verb", "ordinal", "()I"⟩ ∈ wl := wl_in (i := 407) (by decide +kernel)
theorem fl_X11_300 : Cond.fieldLink RX11 300 (cTt 4 2).1 (cTt 4 2).2.1 (cTt 4 2).2.2.1 ∈ wl := wl_in (i := 218) (by decide +kernel)
theorem cw_X11_615 : cCallV RX11 615 (cRn 3) yX3_burn cX3_burn 3 ((none : Option FieldType)) 1 := ⟨⟨wl_in (i := 494) (by decide +kernel), wl_in (i := 495) (by decide +kernel), wl_in (i := 496) (by decide +kernel), wl_in (i := 5) (by decide +kernel), wl_in (i := 497) (by decide +kernel)⟩, rfl, by decide, by decide, by decide +kernel⟩
theorem cw_X11_618 : cCallV RX11 618 (cRn 0) yX11_wordsBeside cX11_wordsBeside 3 ((some FieldType.long)) 1 := ⟨⟨wl_in (i := 1165) (by decide +kernel), wl_in (i := 1167) (by decide +kernel), wl_inp (i := 20) (by decide +kernel), wl_in (i := 1) (by decide +kernel), wl_in (i := 1168) (by decide +kernel)⟩, rfl, by decide, by decide, by decide +kernel⟩
theorem fl_X11_325 : Cond.fieldLink RX11 325 (cTt 7 0).1 (cTt 7 0).2.1 (cTt 7 0).2.2.1 ∈ wl := wl_in (i := 981) (by decide +kernel)
theorem cw_X11_271 : cCallV RX11 271 (cRn 0) yX11_needNodeFor cX11_needNodeFor 2 ((none : Option FieldType)) 1 := ⟨⟨wl_in (i := 1144) (by decide +kernel), wl_in (i := 1146) (by decide +kernel), wl_inp (i := 18) (by decide +kernel), wl_in (i := 1) (by decide +kernel), wl_in (i := 1147) (by decide +kernel)⟩, rfl, by decide, by decide, by decide +kernel⟩
theorem cw_X11_275 : cCallV RX11 275 (cRn 0) yX11_follow cX11_follow 3 ((none : Option FieldType)) 1 := ⟨⟨wl_in (i := 1161) (by decide +kernel), wl_in (i := 1163) (by decide +kernel), wl_inp (i := 19) (by decide +kernel), wl_in (i := 1) (by decide +kernel), wl_in (i := 1164) (by decide +kernel)⟩, rfl, by decide, by decide, by decide +kernel⟩
theorem cw_X11_260 : cCallV RX11 260 (cRn 0) yX11_needPlay cX11_needPlay 1 ((none : Option FieldType)) 0 := ⟨⟨wl_in (i := 1086) (by decide +kernel), wl_in (i := 1088) (by decide +kernel), wl_inp (i := 14) (by decide +kernel), wl_in (i := 1) (by decide +kernel), wl_in (i := 1089) (by decide +kernel)⟩, rfl, by decide, by decide, by decide +kernel⟩
theorem cw_X11_263 : cCallV RX11 263 (cRn 0) yX11_understood cX11_understood 4 ((some (FieldType.object "Lorewick$Command"))) 0 := ⟨⟨wl_in (i := 1091) (by decide +kernel), wl_in (i := 1093) (by decide +kernel), wl_inp (i := 15) (by decide +kernel), wl_in (i := 1) (by decide +kernel), wl_in (i := 1094) (by decide +kernel)⟩, rfl, by decide, by decide, by decide +kernel⟩
theorem cw_X11_267 : cCallV RX11 267 (cRn 0) yX11_tried cX11_tried 2 ((some FieldType.char)) 1 := ⟨⟨wl_in (i := 1140) (by decide +kernel), wl_in (i := 1142) (by decide +kernel), wl_inp (i := 17) (by decide +kernel), wl_in (i := 1) (by decide +kernel), wl_in (i := 1143) (by decide +kernel)⟩, rfl, by decide, by decide, by decide +kernel⟩
theorem cw_X11_278 : cCallV RX11 278 (cRn 0) yX11_stateHere cX11_stateHere 1 ((some (FieldType.object "Lorewick$State"))) 0 := ⟨⟨wl_in (i := 1176) (by decide +kernel), wl_in (i := 1178) (by decide +kernel), wl_inp (i := 21) (by decide +kernel), wl_in (i := 1) (by decide +kernel), wl_in (i := 1179) (by decide +kernel)⟩, rfl, by decide, by decide, by decide +kernel⟩
theorem fl_X11_282 : Cond.fieldLink RX11 282 (cTt 6 0).1 (cTt 6 0).2.1 (cTt 6 0).2.2.1 ∈ wl := wl_in (i := 266) (by decide +kernel)
theorem fl_X11_285 : Cond.fieldLink RX11 285 (cTt 6 1).1 (cTt 6 1).2.1 (cTt 6 1).2.2.1 ∈ wl := wl_in (i := 269) (by decide +kernel)
theorem fl_X11_288 : Cond.fieldLink RX11 288 (cTt 6 3).1 (cTt 6 3).2.1 (cTt 6 3).2.2.1 ∈ wl := wl_in (i := 275) (by decide +kernel)
theorem fl_X11_291 : Cond.fieldLink RX11 291 (cTt 6 2).1 (cTt 6 2).2.1 (cTt 6 2).2.2.1 ∈ wl := wl_in (i := 272) (by decide +kernel)
theorem cw_X11_292 : cCallV RX11 292 (cRn 3) yX3_hasLight cX3_hasLight 3 ((some FieldType.boolean)) 1 := ⟨⟨wl_in (i := 1208) (by decide +kernel), wl_in (i := 423) (by decide +kernel), wl_in (i := 424) (by decide +kernel), wl_in (i := 5) (by decide +kernel), wl_in (i := 425) (by decide +kernel)⟩, rfl, by decide, by decide, by decide +kernel⟩
theorem cw_X11_296 : cCallV RX11 296 (cRn 3) yX3_carriedWeight cX3_carriedWeight 5 ((some FieldType.int)) 1 := ⟨⟨wl_in (i := 1216) (by decide +kernel), wl_in (i := 439) (by decide +kernel), wl_in (i := 440) (by decide +kernel), wl_in (i := 5) (by decide +kernel), wl_in (i := 441) (by decide +kernel)⟩, rfl, by decide, by decide, by decide +kernel⟩
theorem fl_X11_303 : Cond.fieldLink RX11 303 (cTt 4 0).1 (cTt 4 0).2.1 (cTt 4 0).2.2.1 ∈ wl := wl_in (i := 214) (by decide +kernel)
theorem cw_X11_307 : cCallV RX11 307 (cRn 10) yJx4a65c_size_8abf5 cJx4a65c_size_8abf5 1 ((some FieldType.int)) 0 := ⟨⟨wl_in (i := 352) (by decide +kernel), wl_in (i := 353) (by decide +kernel), wl_in (i := 354) (by decide +kernel), wl_in (i := 9) (by decide +kernel), wl_in (i := 355) (by decide +kernel)⟩, rfl, by decide, by decide, by decide +kernel⟩
theorem cw_X11_554 : cCallV RX11 554 (cRn 4) yX8_has cX8_has 2 ((some FieldType.boolean)) 1 := ⟨⟨wl_in (i := 413) (by decide +kernel), wl_in (i := 414) (by decide +kernel), wl_in (i := 415) (by decide +kernel), wl_in (i := 6) (by decide +kernel), wl_in (i := 416) (by decide +kernel)⟩, rfl, by decide, by decide, by decide +kernel⟩
theorem cw_X11_448 : cCallV RX11 448 (cRn 10) yJx4a65c_get_915e3 cJx4a65c_get_915e3 2 ((some (FieldType.object "java/lang/Object"))) 1 := ⟨⟨wl_in (i := 360) (by decide +kernel), wl_in (i := 361) (by decide +kernel), wl_in (i := 362) (by decide +kernel), wl_in (i := 9) (by decide +kernel), wl_in (i := 363) (by decide +kernel)⟩, rfl, by decide, by decide, by decide +kernel⟩
theorem kl_X11_2 : Cond.classLink RX11 2 (cRn 7) ∈ wl := wl_in (i := 374) (by decide +kernel)
theorem cw_X11_312 : cCallV RX11 312 (cRn 0) yX11_nodeOf cX11_nodeOf 2 ((some (FieldType.object "Lorewick$Node"))) 1 := ⟨⟨wl_in (i := 1239) (by decide +kernel), wl_in (i := 1241) (by decide +kernel), wl_inp (i := 22) (by decide +kernel), wl_in (i := 1) (by decide +kernel), wl_in (i := 1242) (by decide +kernel)⟩, rfl, by decide, by decide, by decide +kernel⟩
theorem fl_X11_316 : Cond.fieldLink RX11 316 (cTt 7 1).1 (cTt 7 1).2.1 (cTt 7 1).2.2.1 ∈ wl := wl_in (i := 984) (by decide +kernel)
theorem cw_X11_328 : cCallV RX11 328 (cRn 7) yX2_pathLength cX2_pathLength 3 ((some FieldType.int)) 0 := ⟨⟨wl_in (i := 1267) (by decide +kernel), wl_in (i := 1268) (by decide +kernel), wl_in (i := 1269) (by decide +kernel), wl_in (i := 35) (by decide +kernel), wl_in (i := 1270) (by decide +kernel)⟩, rfl, by decide, by decide, by decide +kernel⟩
theorem cw_X11_331 : cCallV RX11 331 (cRn 4) yX8_childCount cX8_childCount 5 ((some FieldType.int)) 1 := ⟨⟨wl_in (i := 1278) (by decide +kernel), wl_in (i := 1279) (by decide +kernel), wl_in (i := 1280) (by decide +kernel), wl_in (i := 6) (by decide +kernel), wl_in (i := 1281) (by decide +kernel)⟩, rfl, by decide, by decide, by decide +kernel⟩
theorem cw_X11_334 : cCallV RX11 334 (cRn 7) yX2_lastInCommon cX2_lastInCommon 3 ((some FieldType.int)) 1 := ⟨⟨wl_in (i := 1289) (by decide +kernel), wl_in (i := 1290) (by decide +kernel), wl_in (i := 1291) (by decide +kernel), wl_in (i := 35) (by decide +kernel), wl_in (i := 1292) (by decide +kernel)⟩, rfl, by decide, by decide, by decide +kernel⟩
theorem cw_X11_344 : cCallV RX11 344 (cRn 4) yX8_childAt cX8_childAt 5 ((some FieldType.int)) 1 := ⟨⟨wl_in (i := 1309) (by decide +kernel), wl_in (i := 1310) (by decide +kernel), wl_in (i := 1311) (by decide +kernel), wl_in (i := 6) (by decide +kernel), wl_in (i := 1312) (by decide +kernel)⟩, rfl, by decide, by decide, by decide +kernel⟩
theorem fl_X11_354 : Cond.fieldLink RX11 354 (cTt 7 5).1 (cTt 7 5).2.1 (cTt 7 5).2.2.1 ∈ wl := wl_in (i := 993) (by decide +kernel)
theorem cw_X11_358 : cCallV RX11 358 (cRn 4) yX8_labelCount cX8_labelCount 3 ((some FieldType.int)) 0 := ⟨⟨wl_in (i := 1326) (by decide +kernel), wl_in (i := 1327) (by decide +kernel), wl_in (i := 1328) (by decide +kernel), wl_in (i := 6) (by decide +kernel), wl_in (i := 1329) (by decide +kernel)⟩, rfl, by decide, by decide, by decide +kernel⟩
theorem cw_X11_349 : cCallV RX11 349 (cRn 4) yX8_nodeLabelled cX8_nodeLabelled 4 ((some FieldType.int)) 1 := ⟨⟨wl_in (i := 1321) (by decide +kernel), wl_in (i := 1322) (by decide +kernel), wl_in (i := 1323) (by decide +kernel), wl_in (i := 6) (by decide +kernel), wl_in (i := 1324) (by decide +kernel)⟩, rfl, by decide, by decide, by decide +kernel⟩
theorem cw_X11_366 : cCallV RX11 366 (cRn 7) yX2_firstToShow cX2_firstToShow 4 ((some FieldType.int)) 1 := ⟨⟨wl_in (i := 1359) (by decide +kernel), wl_in (i := 1360) (by decide +kernel), wl_in (i := 1361) (by decide +kernel), wl_in (i := 35) (by decide +kernel), wl_in (i := 1362) (by decide +kernel)⟩, rfl, by decide, by decide, by decide +kernel⟩
/-! Lorewick.wordsBeside(LLorewick$Command;)J -/
abbrev rc_X11_wordsBeside : Room := { frames := 1, cells := 0, slots := 0, locals := 22 }
def fc_X11_wordsBeside_66 (σ : cS) (s0 : Int64) : Option (Int64 × cS) :=
    some (s0, σ)
set_option maxHeartbeats 4000000 in
set_option maxRecDepth 100000 in
theorem gc_X11_wordsBeside_66 {p : Program} {l : Launch} {e : Env} {s : State} {m : MethodId} {args : Array Value} {below : List Frame} {meth : Method} {c : Code} {D : va_G} {ca : Nat → ClassId} {A : Nat → Prop} {σ0 : cS} {α : cAl} {o : Int64 × cS} (C : cC p s m args c cX11_wordsBeside 3 RX11 D ca A α) (hr : meth.sig.returnType = (some FieldType.long)) (hlk : meth.locks = false) (h17 : 0 < cn σ0 17) : ∀ (σ : cS) (s0 : Int64) (H : Heap) (locs : List Loc) (ls : Array Slot), cM D ca true A s.heap σ0 α σ α H locs → lv_has ls 3 [] → fc_X11_wordsBeside_66 σ s0 = some o → W p l e rc_X11_wordsBeside s m args below meth c H locs 0 0 (MQ below (cQ false D ca true A α σ0 (fun _ => some (.long o.1)) o.2) args s 0 0 A) (F0 m 66 ls [.long s0]) := by
  have hx := C.1
  have hb := C.2.1
  intro σ s0 H locs ls hM hl h
  unfold fc_X11_wordsBeside_66 at h
  exact c_rl C hM (fun _ => rfl) hr hlk dX11_wordsBeside_66 h
def fc_X11_wordsBeside (σ : cS) (x1 : Option Nat) : Option (Int64 × cS) :=
  (dr σ 8 x1).bind fun i_1 =>
  (dv (cR σ 8 i_1 0)).bind fun i_2 =>
  if ¬ (¬ ((nI i_2) < 0 ∨ 15 ≤ (nI i_2).toNatClampNeg)) then none else
  if (vM.getD (nI i_2).toNatClampNeg 0) = (7 : Int32) then
    (fc_X10_thingOf σ (cI σ 8 i_1 1)).bind fun r_3 =>
    if r_3.1 = (-1 : Int32) then
      fc_X11_wordsBeside_66 r_3.2 (0 : Int64)
    else
      if r_3.1 < 0 ∨ 12 ≤ r_3.1.toNatClampNeg then none else
      fc_X11_wordsBeside_66 r_3.2 (cJ r_3.2 15 2 r_3.1.toNatClampNeg)
  else
  if (vM.getD (nI i_2).toNatClampNeg 0) = (8 : Int32) then
    if (cI σ 8 i_1 1) < 0 ∨ 12 ≤ (cI σ 8 i_1 1).toNatClampNeg then none else
    some ((cJ σ 15 3 (cI σ 8 i_1 1).toNatClampNeg), σ)
  else
  if (vM.getD (nI i_2).toNatClampNeg 0) = (9 : Int32) then
    if (cI σ 8 i_1 1) < 0 ∨ 12 ≤ (cI σ 8 i_1 1).toNatClampNeg then none else
    some ((cJ σ 15 3 (cI σ 8 i_1 1).toNatClampNeg), σ)
  else
    some ((0 : Int64), σ)
set_option maxHeartbeats 4000000 in
set_option maxRecDepth 100000 in
theorem cc_X11_wordsBeside (l : Launch) (D : va_G) (ca : Nat → ClassId) (A : Nat → Prop) (α : cAl) (σ : cS) (x1 : Option Nat) (o : Int64 × cS) (h : fc_X11_wordsBeside σ x1 = some o) : cMet false l yX11_wordsBeside cX11_wordsBeside 3 ((some FieldType.long)) rc_X11_wordsBeside 0 0 D ca true A α σ [cr α 0 (some 0), cr α 8 x1] (fun _ => some (.long o.1)) o.2 := by
  refine Met.ofW (cc := cX11_wordsBeside) (maxL := 3) (ret := (some FieldType.long)) (by decide) rfl ?_
  intro p e s m args below meth c s₁ B hml hv
  obtain ⟨rfl, hP, hK, hD0, hSh, hA, hG⟩ := hv
  have C : cC p s m _ c cX11_wordsBeside 3 RX11 D ca A α := ⟨B.exec, B.bytes, hml, findClass_of_methodNamed B.named, fun w hw => atoms_spec (ws := mWs yX11_wordsBeside cX11_wordsBeside 3 ((some FieldType.long))) B.pre w (List.mem_cons_of_mem _ hw), hK, hG⟩
  have hM : cM D ca true A s.heap σ α σ α s.heap [] := ⟨hP, hD0, hSh, va_S.rf, hA, cX.rf⟩
  have h17 : 0 < cn σ 17 := c_17 hM
  have hr := B.returns
  have hlk := B.notSynchronized
  have hx := C.1
  have hb := C.2.1
  have hl := lv_entry ([cr α 0 (some 0), cr α 8 x1]) (n := 3) (by simp [lg_r, lg_i, lg_l, lg_n])
  rw [lg_entry_eq]
  generalize (lg_sl ([cr α 0 (some 0), cr α 8 x1]) ++ List.replicate (3 - (lg_sl ([cr α 0 (some 0), cr α 8 x1])).length) Slot.unset).toArray = ls at hl ⊢
  have hl : lv_has ls 3 [(0, cr α 0 (some 0)), (1, cr α 8 x1)] := (lv_to hl (by simp only [la_r, la_i, la_l, la_n]))
  unfold fc_X11_wordsBeside at h
  refine c_getSM C hM fl_X11_622 dX11_wordsBeside_0 ?_
  refine c_aload_n (t := 8) (x := x1) hx hb dX11_wordsBeside_3 rfl (lv_at hl 1 rfl) ?_
  obtain ⟨i_1, hd_1, h⟩ := bd_of h
  refine c_getrt C hM (k := 8) (f := 0) (t := 18) hd_1 (by decide) fl_X11_606 dX11_wordsBeside_4 ?_
  obtain ⟨i_2, hv_2, h⟩ := bd_of h
  refine c_ordinal C hM h17 hv_2 ol_X11_627 (rest := [cr α 20 (some 1)]) (cats_le _ (Nat.le_of_ble_eq_true rfl)) (Nat.le_of_ble_eq_true rfl) (Nat.le_of_ble_eq_true rfl) ⟨Nat.le_of_ble_eq_true rfl, Nat.le_of_ble_eq_true rfl⟩ hl.1 dX11_wordsBeside_7 (fun H locs hM => ?_)
  obtain ⟨c_1, h⟩ := ko_of h
  refine c_SMat C hM (Classical.not_not.mp c_1) dX11_wordsBeside_10 ?_
  by_cases c_2 : (vM.getD (nI i_2).toNatClampNeg 0) = (7 : Int32)
  · have h := br_T c_2 h
    refine xr_int c_2 ?_
    refine lv_tableIn (tgt := 36) hx hb dX11_wordsBeside_11 (by decide) (by decide) rfl (by decide) ?_
    refine c_aload_n (t := 0) (x := (some 0)) hx hb dX11_wordsBeside_36 rfl (lv_at hl 0 rfl) ?_
    refine c_getb C hM (k := 0) (f := 1) (j := 0) (t := 2) (hM.cst 0 0 rfl) (by decide) fl_X11_25 dX11_wordsBeside_37 ?_
    refine c_aload_n (t := 8) (x := x1) hx hb dX11_wordsBeside_40 rfl (lv_at hl 1 rfl) ?_
    refine c_geti C hM (k := 8) (f := 1) hd_1 rfl fl_X11_609 dX11_wordsBeside_41 ?_
    obtain ⟨r_3, hr_3, h⟩ := bd_of h
    refine c_go0 (c_rV (As := [.int (cI σ 8 i_1 1)]) (rest := []) C hM h17 (hM.cst 2 0 rfl) (by decide) (cc_X10_thingOf l D ca A α σ (cI σ 8 i_1 1) _ hr_3) cw_X11_157 ⟨rfl, rfl⟩ ⟨Nat.le_of_ble_eq_true rfl, Nat.le_of_ble_eq_true rfl⟩ rfl rfl (cats_le _ (Nat.le_of_ble_eq_true rfl)) hl.1 dX11_wordsBeside_44 ⟨Nat.le_of_ble_eq_true rfl, Nat.le_of_ble_eq_true rfl⟩) hM (fun H locs hM => ?_)
    refine W_st (st' := [.int r_3.1]) rfl ?_
    refine lv_istore_n (lv' := [(2, .int r_3.1), (0, cr α 0 (some 0)), (1, cr α 8 x1)]) hx hb dX11_wordsBeside_47 rfl hl (by decide) (by first | rfl | (simp only [List.filter, cr_cat]; rfl)) (fun ls hl => ?_)
    refine lv_iload_n hx hb dX11_wordsBeside_48 rfl (lv_at hl 0 rfl) ?_
    refine lv_iconst (v := (-1 : Int32)) hx hb dX11_wordsBeside_49 (by decide) ?_
    refine lv_icmp_ne (tgt := 57) hx hb dX11_wordsBeside_50 (by decide) (fun c_3 => ?_) (fun c_3 => ?_)
    · have h := br_F c_3 h
      refine c_aload_n (t := 0) (x := (some 0)) hx hb dX11_wordsBeside_57 rfl (lv_at hl 1 rfl) ?_
      refine c_getb C hM (k := 0) (f := 1) (j := 0) (t := 2) (hM.cst 0 0 rfl) (by decide) fl_X11_25 dX11_wordsBeside_58 ?_
      refine c_getb C hM (k := 2) (f := 12) (j := 2) (t := 15) (hM.cst 2 0 rfl) (by decide) fl_X11_190 dX11_wordsBeside_61 ?_
      refine lv_iload_n hx hb dX11_wordsBeside_64 rfl (lv_at hl 0 rfl) ?_
      obtain ⟨c_4, h⟩ := ko_of h
      refine c_lald C hM (hM.cst 15 2 rfl) (by rw [hM.ln 15 2 12 (by decide)]; exact c_4) dX11_wordsBeside_65 ?_
      exact gc_X11_wordsBeside_66 C hr hlk h17  _ _ _ _ _ hM (lv_sub hl [] rfl) h
    · have h := br_T c_3 h
      refine lv_lconst (v := (0 : Int64)) hx hb dX11_wordsBeside_53 (by decide) ?_
      refine lv_goto (tgt := 66) hx hb dX11_wordsBeside_54 (by decide) ?_
      exact gc_X11_wordsBeside_66 C hr hlk h17  _ _ _ _ _ hM (lv_sub hl [] rfl) h
  · have h := br_F c_2 h
    by_cases c_5 : (vM.getD (nI i_2).toNatClampNeg 0) = (8 : Int32)
    · have h := br_T c_5 h
      refine xr_int c_5 ?_
      refine lv_tableIn (tgt := 67) hx hb dX11_wordsBeside_11 (by decide) (by decide) rfl (by decide) ?_
      refine c_aload_n (t := 0) (x := (some 0)) hx hb dX11_wordsBeside_67 rfl (lv_at hl 0 rfl) ?_
      refine c_getb C hM (k := 0) (f := 4) (j := 0) (t := 5) (hM.cst 0 0 rfl) (by decide) fl_X11_48 dX11_wordsBeside_68 ?_
      refine c_getb C hM (k := 5) (f := 1) (j := 3) (t := 15) (hM.cst 5 0 rfl) (by decide) fl_X11_217 dX11_wordsBeside_71 ?_
      refine c_aload_n (t := 8) (x := x1) hx hb dX11_wordsBeside_74 rfl (lv_at hl 1 rfl) ?_
      refine c_geti C hM (k := 8) (f := 1) hd_1 rfl fl_X11_609 dX11_wordsBeside_75 ?_
      obtain ⟨c_6, h⟩ := ko_of h
      refine c_lald C hM (hM.cst 15 3 rfl) (by rw [hM.ln 15 3 12 (by decide)]; exact c_6) dX11_wordsBeside_78 ?_
      exact c_rl C hM (fun _ => rfl) hr hlk dX11_wordsBeside_79 h
    · have h := br_F c_5 h
      by_cases c_7 : (vM.getD (nI i_2).toNatClampNeg 0) = (9 : Int32)
      · have h := br_T c_7 h
        refine xr_int c_7 ?_
        refine lv_tableIn (tgt := 67) hx hb dX11_wordsBeside_11 (by decide) (by decide) rfl (by decide) ?_
        refine c_aload_n (t := 0) (x := (some 0)) hx hb dX11_wordsBeside_67 rfl (lv_at hl 0 rfl) ?_
        refine c_getb C hM (k := 0) (f := 4) (j := 0) (t := 5) (hM.cst 0 0 rfl) (by decide) fl_X11_48 dX11_wordsBeside_68 ?_
        refine c_getb C hM (k := 5) (f := 1) (j := 3) (t := 15) (hM.cst 5 0 rfl) (by decide) fl_X11_217 dX11_wordsBeside_71 ?_
        refine c_aload_n (t := 8) (x := x1) hx hb dX11_wordsBeside_74 rfl (lv_at hl 1 rfl) ?_
        refine c_geti C hM (k := 8) (f := 1) hd_1 rfl fl_X11_609 dX11_wordsBeside_75 ?_
        obtain ⟨c_8, h⟩ := ko_of h
        refine c_lald C hM (hM.cst 15 3 rfl) (by rw [hM.ln 15 3 12 (by decide)]; exact c_8) dX11_wordsBeside_78 ?_
        exact c_rl C hM (fun _ => rfl) hr hlk dX11_wordsBeside_79 h
      · have h := br_F c_7 h
        have c_2n : ((vM.getD (nI i_2).toNatClampNeg 0)).toInt ≠ 7 := c_ne c_2
        have c_5n : ((vM.getD (nI i_2).toNatClampNeg 0)).toInt ≠ 8 := c_ne c_5
        have c_7n : ((vM.getD (nI i_2).toNatClampNeg 0)).toInt ≠ 9 := c_ne c_7
        refine lv_tableOut (tgt := 80) hx hb dX11_wordsBeside_11 (by omega) (by decide) ?_
        refine lv_lconst (v := (0 : Int64)) hx hb dX11_wordsBeside_80 (by decide) ?_
        exact c_rl C hM (fun _ => rfl) hr hlk dX11_wordsBeside_81 h
/-! Lorewick.follow(LLorewick$Command;)V -/
abbrev rc_X11_follow : Room := { frames := 9, cells := 6, slots := 246, locals := 255 }
def fc_X11_follow_58 (σ : cS) (x2 : Int32) : Option (cS) :=
    some (uI σ 4 0 2 x2)
set_option maxHeartbeats 4000000 in
set_option maxRecDepth 100000 in
theorem gc_X11_follow_58 {p : Program} {l : Launch} {e : Env} {s : State} {m : MethodId} {args : Array Value} {below : List Frame} {meth : Method} {c : Code} {D : va_G} {ca : Nat → ClassId} {A : Nat → Prop} {σ0 : cS} {α0 : cAl} {o : cS} (C : cC p s m args c cX11_follow 3 RX11 D ca A α0) (hr : meth.sig.returnType = (none : Option FieldType)) (hlk : meth.locks = false) (h17 : 0 < cn σ0 17) : ∀ (α : cAl) (σ : cS) (x2 : Int32) (H : Heap) (locs : List Loc) (ls : Array Slot), cM D ca true A s.heap σ0 α0 σ α H locs → lv_has ls 3 [(0, cr α 0 (some 0)), (2, .int x2)] → fc_X11_follow_58 σ x2 = some o → W p l e rc_X11_follow s m args below meth c H locs 6 246 (MQ below (cQ true D ca true A α0 σ0 (fun _ => none) o) args s 6 246 A) (F0 m 58 ls []) := by
  have hx := C.1
  have hb := C.2.1
  intro α σ x2 H locs ls hM hl h
  unfold fc_X11_follow_58 at h
  refine c_aload_n (t := 0) (x := (some 0)) hx hb dX11_follow_58 rfl (lv_at hl 0 rfl) ?_
  refine c_getb C hM (k := 0) (f := 3) (j := 0) (t := 4) (hM.cst 0 0 rfl) (by decide) fl_X11_41 dX11_follow_59 ?_
  refine lv_iload_n hx hb dX11_follow_62 rfl (lv_at hl 1 rfl) ?_
  refine c_puti C hM (k := 4) (f := 2) (hM.cst 4 0 rfl) rfl fl_X11_300 (Or.inl rfl) dX11_follow_63 (fun H locs hM => ?_)
  exact c_rv C hM (fun h => by cases h) hr hlk dX11_follow_66 h
def fc_X11_follow (σ : cS) (x1 : Option Nat) : Option (cS) :=
  (fc_X8_childBy σ x1).bind fun r_1 =>
  if r_1.1 = (-1 : Int32) then
    (fc_X3_burn r_1.2 (some 0)).bind fun r_2 =>
    (fc_X3_wordsShown r_2 (some 0)).bind fun r_3 =>
    (fc_X11_wordsBeside r_3.2 x1).bind fun r_4 =>
    (fc_X8_add r_4.2 x1 (some 0) (r_3.1 ||| r_4.1)).bind fun r_5 =>
    (dr r_5.2 7 r_5.1).bind fun i_7 =>
    fc_X11_follow_58 r_5.2 (cI r_5.2 7 i_7 0)
  else
    fc_X11_follow_58 r_1.2 r_1.1
set_option maxHeartbeats 4000000 in
set_option maxRecDepth 100000 in
theorem cc_X11_follow (l : Launch) (D : va_G) (ca : Nat → ClassId) (A : Nat → Prop) (α : cAl) (σ : cS) (x1 : Option Nat) (o : cS) (h : fc_X11_follow σ x1 = some o) : cMet true l yX11_follow cX11_follow 3 ((none : Option FieldType)) rc_X11_follow 6 246 D ca true A α σ [cr α 0 (some 0), cr α 8 x1] (fun _ => none) o := by
  refine Met.ofW (cc := cX11_follow) (maxL := 3) (ret := (none : Option FieldType)) (by decide) rfl ?_
  intro p e s m args below meth c s₁ B hml hv
  obtain ⟨rfl, hP, hK, hD0, hSh, hA, hG⟩ := hv
  have C : cC p s m _ c cX11_follow 3 RX11 D ca A α := ⟨B.exec, B.bytes, hml, findClass_of_methodNamed B.named, fun w hw => atoms_spec (ws := mWs yX11_follow cX11_follow 3 ((none : Option FieldType))) B.pre w (List.mem_cons_of_mem _ hw), hK, hG⟩
  have hM : cM D ca true A s.heap σ α σ α s.heap [] := ⟨hP, hD0, hSh, va_S.rf, hA, cX.rf⟩
  have h17 : 0 < cn σ 17 := c_17 hM
  have hr := B.returns
  have hlk := B.notSynchronized
  have hx := C.1
  have hb := C.2.1
  have hl := lv_entry ([cr α 0 (some 0), cr α 8 x1]) (n := 3) (by simp [lg_r, lg_i, lg_l, lg_n])
  rw [lg_entry_eq]
  generalize (lg_sl ([cr α 0 (some 0), cr α 8 x1]) ++ List.replicate (3 - (lg_sl ([cr α 0 (some 0), cr α 8 x1])).length) Slot.unset).toArray = ls at hl ⊢
  have hl : lv_has ls 3 [(0, cr α 0 (some 0)), (1, cr α 8 x1)] := (lv_to hl (by simp only [la_r, la_i, la_l, la_n]))
  unfold fc_X11_follow at h
  refine c_aload_n (t := 0) (x := (some 0)) hx hb dX11_follow_0 rfl (lv_at hl 0 rfl) ?_
  refine c_getb C hM (k := 0) (f := 3) (j := 0) (t := 4) (hM.cst 0 0 rfl) (by decide) fl_X11_41 dX11_follow_1 ?_
  refine c_aload_n (t := 8) (x := x1) hx hb dX11_follow_4 rfl (lv_at hl 1 rfl) ?_
  obtain ⟨r_1, hr_1, h⟩ := bd_of h
  refine c_go0 (c_rV (As := [cr α 8 x1]) (rest := []) C hM h17 (hM.cst 4 0 rfl) (by decide) (cc_X8_childBy l D ca A α σ x1 _ hr_1) cw_X11_539 ⟨rfl, rfl⟩ ⟨Nat.le_of_ble_eq_true rfl, Nat.le_of_ble_eq_true rfl⟩ rfl rfl (cats_le _ (Nat.le_of_ble_eq_true rfl)) hl.1 dX11_follow_5 ⟨Nat.le_of_ble_eq_true rfl, Nat.le_of_ble_eq_true rfl⟩) hM (fun H locs hM => ?_)
  refine W_st (st' := [.int r_1.1]) rfl ?_
  refine lv_istore_n (lv' := [(2, .int r_1.1), (0, cr α 0 (some 0)), (1, cr α 8 x1)]) hx hb dX11_follow_8 rfl hl (by decide) (by first | rfl | (simp only [List.filter, cr_cat]; rfl)) (fun ls hl => ?_)
  refine lv_iload_n hx hb dX11_follow_9 rfl (lv_at hl 0 rfl) ?_
  refine lv_iconst (v := (-1 : Int32)) hx hb dX11_follow_10 (by decide) ?_
  refine lv_icmp_ne (tgt := 58) hx hb dX11_follow_11 (by decide) (fun c_1 => ?_) (fun c_1 => ?_)
  · have h := br_F c_1 h
    refine W.widen (k := 6) (n := 246) (Nat.le_of_ble_eq_true rfl) (Nat.le_of_ble_eq_true rfl) ?_
    exact gc_X11_follow_58 C hr hlk h17  α _ _ _ _ _ hM (lv_sub hl [1, 0] rfl) h
  · have h := br_T c_1 h
    refine c_aload_n (t := 0) (x := (some 0)) hx hb dX11_follow_14 rfl (lv_at hl 1 rfl) ?_
    refine c_getb C hM (k := 0) (f := 2) (j := 0) (t := 3) (hM.cst 0 0 rfl) (by decide) fl_X11_34 dX11_follow_15 ?_
    refine c_aload_n (t := 0) (x := (some 0)) hx hb dX11_follow_18 rfl (lv_at hl 1 rfl) ?_
    refine c_getb C hM (k := 0) (f := 5) (j := 0) (t := 6) (hM.cst 0 0 rfl) (by decide) fl_X11_55 dX11_follow_19 ?_
    obtain ⟨r_2, hr_2, h⟩ := bd_of h
    refine c_go0 (c_rV (As := [cr α 6 (some 0)]) (rest := []) C hM h17 (hM.cst 3 0 rfl) (by decide) (cc_X3_burn l D ca A α r_1.2 (some 0) _ hr_2) cw_X11_615 ⟨rfl, rfl⟩ ⟨Nat.le_of_ble_eq_true rfl, Nat.le_of_ble_eq_true rfl⟩ rfl rfl (cats_le _ (Nat.le_of_ble_eq_true rfl)) hl.1 dX11_follow_22 ⟨Nat.le_of_ble_eq_true rfl, Nat.le_of_ble_eq_true rfl⟩) hM (fun H locs hM => ?_)
    refine W_st (st' := []) rfl ?_
    refine c_aload_n (t := 0) (x := (some 0)) hx hb dX11_follow_25 rfl (lv_at hl 1 rfl) ?_
    refine c_getb C hM (k := 0) (f := 3) (j := 0) (t := 4) (hM.cst 0 0 rfl) (by decide) fl_X11_41 dX11_follow_26 ?_
    refine c_aload_n (t := 8) (x := x1) hx hb dX11_follow_29 rfl (lv_at hl 2 rfl) ?_
    refine c_aload_n (t := 0) (x := (some 0)) hx hb dX11_follow_30 rfl (lv_at hl 1 rfl) ?_
    refine c_getb C hM (k := 0) (f := 5) (j := 0) (t := 6) (hM.cst 0 0 rfl) (by decide) fl_X11_55 dX11_follow_31 ?_
    refine c_aload_n (t := 0) (x := (some 0)) hx hb dX11_follow_34 rfl (lv_at hl 1 rfl) ?_
    refine c_getb C hM (k := 0) (f := 2) (j := 0) (t := 3) (hM.cst 0 0 rfl) (by decide) fl_X11_34 dX11_follow_35 ?_
    refine c_aload_n (t := 0) (x := (some 0)) hx hb dX11_follow_38 rfl (lv_at hl 1 rfl) ?_
    refine c_getb C hM (k := 0) (f := 5) (j := 0) (t := 6) (hM.cst 0 0 rfl) (by decide) fl_X11_55 dX11_follow_39 ?_
    obtain ⟨r_3, hr_3, h⟩ := bd_of h
    refine c_go0 (c_rV (As := [cr α 6 (some 0)]) (rest := [cr α 6 (some 0), cr α 8 x1, cr α 4 (some 0)]) C hM h17 (hM.cst 3 0 rfl) (by decide) (cc_X3_wordsShown l D ca A α r_2 (some 0) _ hr_3) cw_X11_249 ⟨rfl, rfl⟩ ⟨Nat.le_of_ble_eq_true rfl, Nat.le_of_ble_eq_true rfl⟩ rfl rfl (cats_le _ (Nat.le_of_ble_eq_true rfl)) hl.1 dX11_follow_42 ⟨Nat.le_of_ble_eq_true rfl, Nat.le_of_ble_eq_true rfl⟩) hM (fun H locs hM => ?_)
    refine W_st (st' := [.long r_3.1, cr α 6 (some 0), cr α 8 x1, cr α 4 (some 0)]) rfl ?_
    refine c_aload_n (t := 0) (x := (some 0)) hx hb dX11_follow_45 rfl (lv_at hl 1 rfl) ?_
    refine c_aload_n (t := 8) (x := x1) hx hb dX11_follow_46 rfl (lv_at hl 2 rfl) ?_
    obtain ⟨r_4, hr_4, h⟩ := bd_of h
    refine c_go0 (c_rV (As := [cr α 8 x1]) (rest := [.long r_3.1, cr α 6 (some 0), cr α 8 x1, cr α 4 (some 0)]) C hM h17 (hM.cst 0 0 rfl) (by decide) (cc_X11_wordsBeside l D ca A α r_3.2 x1 _ hr_4) cw_X11_618 ⟨rfl, rfl⟩ ⟨Nat.le_of_ble_eq_true rfl, Nat.le_of_ble_eq_true rfl⟩ rfl rfl (cats_le _ (Nat.le_of_ble_eq_true rfl)) hl.1 dX11_follow_47 ⟨Nat.le_of_ble_eq_true rfl, Nat.le_of_ble_eq_true rfl⟩) hM (fun H locs hM => ?_)
    refine W_st (st' := [.long r_4.1, .long r_3.1, cr α 6 (some 0), cr α 8 x1, cr α 4 (some 0)]) rfl ?_
    refine lv_lor hx hb dX11_follow_50 ?_
    have hlv_6 := c_lvc hM 0 0 rfl
    obtain ⟨r_5, hr_5, h⟩ := bd_of h
    refine c_go1 (c_rV (As := [cr α 8 x1, cr α 6 (some 0), .long (r_3.1 ||| r_4.1)]) (rest := []) C hM h17 (hM.cst 4 0 rfl) (by decide) (cc_X8_add l D ca A α r_4.2 x1 (some 0) (r_3.1 ||| r_4.1) _ hr_5) cw_X11_253 ⟨rfl, rfl⟩ ⟨Nat.le_of_ble_eq_true rfl, Nat.le_of_ble_eq_true rfl⟩ rfl rfl (cats_le _ (Nat.le_of_ble_eq_true rfl)) hl.1 dX11_follow_51 ⟨Nat.le_of_ble_eq_true rfl, Nat.le_of_ble_eq_true rfl⟩) hM (fun H locs α_1 hX_5 hM => ?_)
    have e_6 : cr α 0 (some 0) = cr α_1 0 (some 0) := cr_to hX_5 hlv_6
    have hl := lv_to (lv_sub hl [1] rfl) (show ([(0, cr α 0 (some 0))] : List (Nat × Value)) = [(0, cr α_1 0 (some 0))] by rw [e_6])
    refine W_st (st' := [cr α_1 7 r_5.1]) rfl ?_
    obtain ⟨i_7, hd_7, h⟩ := bd_of h
    refine c_geti C hM (k := 7) (f := 0) hd_7 rfl fl_X11_325 dX11_follow_54 ?_
    refine lv_istore_n (lv' := [(2, .int (cI r_5.2 7 i_7 0)), (0, cr α_1 0 (some 0))]) hx hb dX11_follow_57 rfl hl (by decide) rfl (fun ls hl => ?_)
    exact gc_X11_follow_58 C hr hlk h17  α_1 _ _ _ _ _ hM (lv_sub hl [1, 0] rfl) h
/-! Lorewick.say()C -/
abbrev rc_X11_say : Room := { frames := 10, cells := 9, slots := 261, locals := 277 }
def fc_X11_say_44 (σ : cS) (x2 : Int32) : Option ((Nat ⊕ Int32) × cS) :=
    if ¬ (x2.toUInt32.toUInt16.toUInt32.toInt32 = x2) then none else
    some (.inr x2, (uI σ 1 0 3 (0 : Int32)))
set_option maxHeartbeats 4000000 in
set_option maxRecDepth 100000 in
theorem gc_X11_say_44 {p : Program} {l : Launch} {e : Env} {s : State} {m : MethodId} {args : Array Value} {below : List Frame} {meth : Method} {c : Code} {D : va_G} {ca : Nat → ClassId} {A : Nat → Prop} {σ0 : cS} {α0 : cAl} {o : (Nat ⊕ Int32) × cS} (C : cC p s m args c cX11_say 3 RX11 D ca A α0) (hr : meth.sig.returnType = (some FieldType.char)) (hlk : meth.locks = false) (h17 : 0 < cn σ0 17) (hst : l.stackTraces = false) (hout : ∀ x ∈ c.exceptionTable.toList, False) : ∀ (α : cAl) (σ : cS) (x2 : Int32) (H : Heap) (locs : List Loc) (ls : Array Slot), cM D ca true A s.heap σ0 α0 σ α H locs → lv_has ls 3 [(0, cr α 0 (some 0)), (2, .int x2)] → fc_X11_say_44 σ x2 = some o → W p l e rc_X11_say s m args below meth c H locs 9 261 (vx_MQ below (cQx true D ca true A α0 σ0 (o.1.map id (fun (v : Int32) _ => some (.int v))) o.2) (cXC true D ca true A α0 σ0 (o.1.map id (fun (v : Int32) _ => some (.int v))) o.2) args s 9 261 A) (F0 m 44 ls []) := by
  have hx := C.1
  have hb := C.2.1
  intro α σ x2 H locs ls hM hl h
  unfold fc_X11_say_44 at h
  refine c_aload_n (t := 0) (x := (some 0)) hx hb dX11_say_44 rfl (lv_at hl 0 rfl) ?_
  refine c_getb C hM (k := 0) (f := 0) (j := 0) (t := 1) (hM.cst 0 0 rfl) (by decide) fl_X11_18 dX11_say_45 ?_
  refine lv_iconst (v := (0 : Int32)) hx hb dX11_say_48 (by decide) ?_
  refine c_puti C hM (k := 1) (f := 3) (hM.cst 1 0 rfl) rfl fl_X11_73 (Or.inl rfl) dX11_say_49 (fun H locs hM => ?_)
  refine lv_iload_n hx hb dX11_say_52 rfl (lv_at hl 1 rfl) ?_
  obtain ⟨c_1, h⟩ := ko_of h
  exact c_xr h (c_rc (o := (x2, (uI σ 1 0 3 (0 : Int32)))) C hM (fun h => by cases h) hr hlk dX11_say_53 (by rw [if_pos (Classical.not_not.mp c_1)]))
def fc_X11_say_23 (σ : cS) (x1 : Option Nat) (s0 : Int32) : Option ((Nat ⊕ Int32) × cS) :=
    if x1 = none then
      fc_X11_say_44 σ s0
    else
      if s0 = (111 : Int32) then
        xb (fc_X11_needNodeFor σ x1) fun v_1 u_1 =>
        (fc_X11_follow u_1 x1).bind fun r_2 =>
        fc_X11_say_44 r_2 s0
      else
        fc_X11_say_44 σ s0
set_option maxHeartbeats 4000000 in
set_option maxRecDepth 100000 in
theorem gc_X11_say_23 {p : Program} {l : Launch} {e : Env} {s : State} {m : MethodId} {args : Array Value} {below : List Frame} {meth : Method} {c : Code} {D : va_G} {ca : Nat → ClassId} {A : Nat → Prop} {σ0 : cS} {α0 : cAl} {o : (Nat ⊕ Int32) × cS} (C : cC p s m args c cX11_say 3 RX11 D ca A α0) (hr : meth.sig.returnType = (some FieldType.char)) (hlk : meth.locks = false) (h17 : 0 < cn σ0 17) (hst : l.stackTraces = false) (hout : ∀ x ∈ c.exceptionTable.toList, False) : ∀ (α : cAl) (σ : cS) (x1 : Option Nat) (s0 : Int32) (H : Heap) (locs : List Loc) (ls : Array Slot), cM D ca true A s.heap σ0 α0 σ α H locs → lv_has ls 3 [(0, cr α 0 (some 0)), (1, cr α 8 x1)] → fc_X11_say_23 σ x1 s0 = some o → W p l e rc_X11_say s m args below meth c H locs 2 9 (vx_MQ below (cQx true D ca true A α0 σ0 (o.1.map id (fun (v : Int32) _ => some (.int v))) o.2) (cXC true D ca true A α0 σ0 (o.1.map id (fun (v : Int32) _ => some (.int v))) o.2) args s 9 261 A) (F0 m 23 ls [.int s0]) := by
  have hx := C.1
  have hb := C.2.1
  intro α σ x1 s0 H locs ls hM hl h
  unfold fc_X11_say_23 at h
  refine lv_istore_n (lv' := [(2, .int s0), (0, cr α 0 (some 0)), (1, cr α 8 x1)]) hx hb dX11_say_23 rfl hl (by decide) (by first | rfl | (simp only [List.filter, cr_cat]; rfl)) (fun ls hl => ?_)
  refine c_aload_n (t := 8) (x := x1) hx hb dX11_say_24 rfl (lv_at hl 2 rfl) ?_
  refine c_ifnull (tgt := 44) hx hb dX11_say_25 (by decide) (fun c_1 => ?_) (fun c_1 => ?_)
  · have h := br_T c_1 h
    refine W.widen (k := 9) (n := 261) (Nat.le_of_ble_eq_true rfl) (Nat.le_of_ble_eq_true rfl) ?_
    exact gc_X11_say_44 C hr hlk h17 hst hout  α _ _ _ _ _ hM (lv_sub hl [1, 0] rfl) h
  · have h := br_F c_1 h
    refine lv_iload_n hx hb dX11_say_28 rfl (lv_at hl 0 rfl) ?_
    refine lv_bipush (v := (111 : Int32)) hx hb dX11_say_29 (by decide) ?_
    refine lv_icmp_ne (tgt := 44) hx hb dX11_say_31 (by decide) (fun c_2 => ?_) (fun c_2 => ?_)
    · have h := br_F c_2 h
      refine W.widen (k := 9) (n := 261) (Nat.le_of_ble_eq_true rfl) (Nat.le_of_ble_eq_true rfl) ?_
      exact gc_X11_say_44 C hr hlk h17 hst hout  α _ _ _ _ _ hM (lv_sub hl [1, 0] rfl) h
    · have h := br_T c_2 h
      refine c_aload_n (t := 0) (x := (some 0)) hx hb dX11_say_34 rfl (lv_at hl 1 rfl) ?_
      refine c_aload_n (t := 8) (x := x1) hx hb dX11_say_35 rfl (lv_at hl 2 rfl) ?_
      obtain ⟨r_1, u_1, hr_1⟩ := xb_some h
      refine c_gox2 (T := (fun (_ : Unit) _ => none)) (T2 := (fun (v : Int32) _ => some (.int v))) h hr_1 (c_rVx (As := [cr α 8 x1]) (rest := []) C hM h17 (hM.cst 0 0 rfl) (by decide) (cc_X11_needNodeFor l hst D ca A α σ x1 _ hr_1) cw_X11_271 ⟨rfl, rfl⟩ ⟨Nat.le_of_ble_eq_true rfl, Nat.le_of_ble_eq_true rfl⟩ rfl rfl (cats_le _ (Nat.le_of_ble_eq_true rfl)) hl.1 dX11_say_36 ⟨Nat.le_of_ble_eq_true rfl, Nat.le_of_ble_eq_true rfl⟩) C hM (fun h => by cases h) hout hlk (Nat.le_of_ble_eq_true rfl) (Nat.le_of_ble_eq_true rfl) (fun v_1 H locs α9 hα h hX_1 hM => ?_)
      obtain rfl : α = α9 := (hα rfl).symm
      refine W_st (st' := []) rfl ?_
      refine c_aload_n (t := 0) (x := (some 0)) hx hb dX11_say_39 rfl (lv_at hl 1 rfl) ?_
      refine c_aload_n (t := 8) (x := x1) hx hb dX11_say_40 rfl (lv_at hl 2 rfl) ?_
      have hlv_3 := c_lvc hM 0 0 rfl
      obtain ⟨r_2, hr_2, h⟩ := bd_of h
      refine c_go1 (c_rV (As := [cr α 8 x1]) (rest := []) C hM h17 (hM.cst 0 0 rfl) (by decide) (cc_X11_follow l D ca A α u_1 x1 _ hr_2) cw_X11_275 ⟨rfl, rfl⟩ ⟨Nat.le_of_ble_eq_true rfl, Nat.le_of_ble_eq_true rfl⟩ rfl rfl (cats_le _ (Nat.le_of_ble_eq_true rfl)) hl.1 dX11_say_41 ⟨Nat.le_of_ble_eq_true rfl, Nat.le_of_ble_eq_true rfl⟩) hM (fun H locs α_1 hX_2 hM => ?_)
      have e_3 : cr α 0 (some 0) = cr α_1 0 (some 0) := cr_to hX_2 hlv_3
      have hl := lv_to (lv_sub hl [0, 1] rfl) (show ([(2, .int s0), (0, cr α 0 (some 0))] : List (Nat × Value)) = [(2, .int s0), (0, cr α_1 0 (some 0))] by rw [e_3])
      refine W_st (st' := []) rfl ?_
      exact gc_X11_say_44 C hr hlk h17 hst hout  α_1 _ _ _ _ _ hM (lv_sub hl [1, 0] rfl) h
def fc_X11_say (σ : cS) : Option ((Nat ⊕ Int32) × cS) :=
  xb (fc_X11_needPlay σ) fun v_1 u_1 =>
  (fc_X11_understood u_1).bind fun r_2 =>
  if r_2.1 = none then
    fc_X11_say_23 r_2.2 r_2.1 (63 : Int32)
  else
    (fc_X11_tried r_2.2 r_2.1).bind fun r_4 =>
    fc_X11_say_23 r_4.2 r_2.1 r_4.1
set_option maxHeartbeats 4000000 in
set_option maxRecDepth 100000 in
theorem cc_X11_say (l : Launch) (hst : l.stackTraces = false) (D : va_G) (ca : Nat → ClassId) (A : Nat → Prop) (α : cAl) (σ : cS) (o : (Nat ⊕ Int32) × cS) (h : fc_X11_say σ  = some o) : cMetX true l yX11_say cX11_say 3 ((some FieldType.char)) rc_X11_say 9 261 D ca true A α σ [cr α 0 (some 0)] (o.1.map id (fun (v : Int32) _ => some (.int v))) o.2 := by
  refine vx_ofW (cc := cX11_say) (maxL := 3) (ret := (some FieldType.char)) (by decide) rfl ?_
  intro p e s m args below meth c s₁ B hml hout hv
  obtain ⟨rfl, hP, hK, hD0, hSh, hA, hG⟩ := hv
  have C : cC p s m _ c cX11_say 3 RX11 D ca A α := ⟨B.exec, B.bytes, hml, findClass_of_methodNamed B.named, fun w hw => atoms_spec (ws := mWs yX11_say cX11_say 3 ((some FieldType.char))) B.pre w (List.mem_cons_of_mem _ hw), hK, hG⟩
  have hM : cM D ca true A s.heap σ α σ α s.heap [] := ⟨hP, hD0, hSh, va_S.rf, hA, cX.rf⟩
  have h17 : 0 < cn σ 17 := c_17 hM
  have hr := B.returns
  have hlk := B.notSynchronized
  have hx := C.1
  have hb := C.2.1
  have hl := lv_entry ([cr α 0 (some 0)]) (n := 3) (Nat.le_of_ble_eq_true rfl)
  rw [lg_entry_eq]
  generalize (lg_sl ([cr α 0 (some 0)]) ++ List.replicate (3 - (lg_sl ([cr α 0 (some 0)])).length) Slot.unset).toArray = ls at hl ⊢
  have hl : lv_has ls 3 [(0, cr α 0 (some 0))] := hl
  unfold fc_X11_say at h
  refine c_aload_n (t := 0) (x := (some 0)) hx hb dX11_say_0 rfl (lv_at hl 0 rfl) ?_
  obtain ⟨r_1, u_1, hr_1⟩ := xb_some h
  refine c_gox2 (T := (fun (_ : Unit) _ => none)) (T2 := (fun (v : Int32) _ => some (.int v))) h hr_1 (c_rVx (As := []) (rest := []) C hM h17 (hM.cst 0 0 rfl) (by decide) (cc_X11_needPlay l hst D ca A α σ _ hr_1) cw_X11_260 ⟨rfl, rfl⟩ ⟨Nat.le_of_ble_eq_true rfl, Nat.le_of_ble_eq_true rfl⟩ rfl rfl (cats_le _ (Nat.le_of_ble_eq_true rfl)) hl.1 dX11_say_1 ⟨Nat.le_of_ble_eq_true rfl, Nat.le_of_ble_eq_true rfl⟩) C hM (fun h => by cases h) hout hlk (Nat.le_of_ble_eq_true rfl) (Nat.le_of_ble_eq_true rfl) (fun v_1 H locs α9 hα h hX_1 hM => ?_)
  obtain rfl : α = α9 := (hα rfl).symm
  refine W_st (st' := []) rfl ?_
  refine c_aload_n (t := 0) (x := (some 0)) hx hb dX11_say_4 rfl (lv_at hl 0 rfl) ?_
  have hlv_3 := c_lvc hM 0 0 rfl
  obtain ⟨r_2, hr_2, h⟩ := bd_of h
  refine c_go1 (c_rV (As := []) (rest := []) C hM h17 (hM.cst 0 0 rfl) (by decide) (cc_X11_understood l D ca A α u_1 _ hr_2) cw_X11_263 ⟨rfl, rfl⟩ ⟨Nat.le_of_ble_eq_true rfl, Nat.le_of_ble_eq_true rfl⟩ rfl rfl (cats_le _ (Nat.le_of_ble_eq_true rfl)) hl.1 dX11_say_5 ⟨Nat.le_of_ble_eq_true rfl, Nat.le_of_ble_eq_true rfl⟩) hM (fun H locs α_1 hX_2 hM => ?_)
  have e_3 : cr α 0 (some 0) = cr α_1 0 (some 0) := cr_to hX_2 hlv_3
  have hl := lv_to (lv_sub hl [0] rfl) (show ([(0, cr α 0 (some 0))] : List (Nat × Value)) = [(0, cr α_1 0 (some 0))] by rw [e_3])
  refine W_st (st' := [cr α_1 8 r_2.1]) rfl ?_
  refine c_astore_n (t := 8) (x := r_2.1) (lv' := [(1, cr α_1 8 r_2.1), (0, cr α_1 0 (some 0))]) hx hb dX11_say_8 rfl hl (by decide) rfl (fun ls hl => ?_)
  refine c_aload_n (t := 8) (x := r_2.1) hx hb dX11_say_9 rfl (lv_at hl 0 rfl) ?_
  refine c_ifnonnull (tgt := 18) hx hb dX11_say_10 (by decide) (fun c_1 => ?_) (fun c_1 => ?_)
  · have h := br_F c_1 h
    refine c_aload_n (t := 0) (x := (some 0)) hx hb dX11_say_18 rfl (lv_at hl 1 rfl) ?_
    refine c_aload_n (t := 8) (x := r_2.1) hx hb dX11_say_19 rfl (lv_at hl 0 rfl) ?_
    obtain ⟨r_4, hr_4, h⟩ := bd_of h
    refine c_go0 (c_rV (As := [cr α_1 8 r_2.1]) (rest := []) C hM h17 (hM.cst 0 0 rfl) (by decide) (cc_X11_tried l D ca A α_1 r_2.2 r_2.1 _ hr_4) cw_X11_267 ⟨rfl, rfl⟩ ⟨Nat.le_of_ble_eq_true rfl, Nat.le_of_ble_eq_true rfl⟩ rfl rfl (cats_le _ (Nat.le_of_ble_eq_true rfl)) hl.1 dX11_say_20 ⟨Nat.le_of_ble_eq_true rfl, Nat.le_of_ble_eq_true rfl⟩) hM (fun H locs hM => ?_)
    refine W_st (st' := [.int r_4.1]) rfl ?_
    exact gc_X11_say_23 C hr hlk h17 hst hout  α_1 _ _ _ _ _ _ hM (lv_sub hl [1, 0] rfl) h
  · have h := br_T c_1 h
    refine lv_bipush (v := (63 : Int32)) hx hb dX11_say_13 (by decide) ?_
    refine lv_goto (tgt := 23) hx hb dX11_say_15 (by decide) ?_
    exact gc_X11_say_23 C hr hlk h17 hst hout  α_1 _ _ _ _ _ _ hM (lv_sub hl [1, 0] rfl) h
/-! Lorewick.stateHere()LLorewick$State; -/
abbrev rc_X11_stateHere : Room := { frames := 7, cells := 1, slots := 6, locals := 122 }
def fc_X11_stateHere (σ : cS) : Option ((Nat ⊕ Option Nat) × cS) :=
  xb (fc_X11_needPlay σ) fun v_1 u_1 =>
  (fc_X8_current u_1).bind fun r_2 =>
  (dr r_2.2 7 r_2.1).bind fun i_3 =>
  some (.inr (cR r_2.2 7 i_3 3), r_2.2)
set_option maxHeartbeats 4000000 in
set_option maxRecDepth 100000 in
theorem cc_X11_stateHere (l : Launch) (hst : l.stackTraces = false) (D : va_G) (ca : Nat → ClassId) (A : Nat → Prop) (α : cAl) (σ : cS) (o : (Nat ⊕ Option Nat) × cS) (h : fc_X11_stateHere σ  = some o) : cMetX false l yX11_stateHere cX11_stateHere 1 ((some (FieldType.object "Lorewick$State"))) rc_X11_stateHere 1 6 D ca true A α σ [cr α 0 (some 0)] (o.1.map id (fun (v : Option Nat) α1 => some (cr α1 6 v))) o.2 := by
  refine vx_ofW (cc := cX11_stateHere) (maxL := 1) (ret := (some (FieldType.object "Lorewick$State"))) (by decide) rfl ?_
  intro p e s m args below meth c s₁ B hml hout hv
  obtain ⟨rfl, hP, hK, hD0, hSh, hA, hG⟩ := hv
  have C : cC p s m _ c cX11_stateHere 1 RX11 D ca A α := ⟨B.exec, B.bytes, hml, findClass_of_methodNamed B.named, fun w hw => atoms_spec (ws := mWs yX11_stateHere cX11_stateHere 1 ((some (FieldType.object "Lorewick$State")))) B.pre w (List.mem_cons_of_mem _ hw), hK, hG⟩
  have hM : cM D ca true A s.heap σ α σ α s.heap [] := ⟨hP, hD0, hSh, va_S.rf, hA, cX.rf⟩
  have h17 : 0 < cn σ 17 := c_17 hM
  have hr := B.returns
  have hlk := B.notSynchronized
  have hx := C.1
  have hb := C.2.1
  have hl := lv_entry ([cr α 0 (some 0)]) (n := 1) (Nat.le_of_ble_eq_true rfl)
  rw [lg_entry_eq]
  generalize (lg_sl ([cr α 0 (some 0)]) ++ List.replicate (1 - (lg_sl ([cr α 0 (some 0)])).length) Slot.unset).toArray = ls at hl ⊢
  have hl : lv_has ls 1 [(0, cr α 0 (some 0))] := hl
  unfold fc_X11_stateHere at h
  refine c_aload_n (t := 0) (x := (some 0)) hx hb dX11_stateHere_0 rfl (lv_at hl 0 rfl) ?_
  obtain ⟨r_1, u_1, hr_1⟩ := xb_some h
  refine c_gox2 (T := (fun (_ : Unit) _ => none)) (T2 := (fun (v : Option Nat) α1 => some (cr α1 6 v))) h hr_1 (c_rVx (As := []) (rest := []) C hM h17 (hM.cst 0 0 rfl) (by decide) (cc_X11_needPlay l hst D ca A α σ _ hr_1) cw_X11_260 ⟨rfl, rfl⟩ ⟨Nat.le_of_ble_eq_true rfl, Nat.le_of_ble_eq_true rfl⟩ rfl rfl (cats_le _ (Nat.le_of_ble_eq_true rfl)) hl.1 dX11_stateHere_1 ⟨Nat.le_of_ble_eq_true rfl, Nat.le_of_ble_eq_true rfl⟩) C hM (fun _ => ⟨rfl, rfl⟩) hout hlk (Nat.le_of_ble_eq_true rfl) (Nat.le_of_ble_eq_true rfl) (fun v_1 H locs α9 hα h hX_1 hM => ?_)
  obtain rfl : α = α9 := (hα rfl).symm
  refine W_st (st' := []) rfl ?_
  refine c_aload_n (t := 0) (x := (some 0)) hx hb dX11_stateHere_4 rfl (lv_at hl 0 rfl) ?_
  refine c_getb C hM (k := 0) (f := 3) (j := 0) (t := 4) (hM.cst 0 0 rfl) (by decide) fl_X11_41 dX11_stateHere_5 ?_
  obtain ⟨r_2, hr_2, h⟩ := bd_of h
  refine c_go0 (c_rV (As := []) (rest := []) C hM h17 (hM.cst 4 0 rfl) (by decide) (cc_X8_current l D ca A α u_1 _ hr_2) cw_X11_338 ⟨rfl, rfl⟩ ⟨Nat.le_of_ble_eq_true rfl, Nat.le_of_ble_eq_true rfl⟩ rfl rfl (cats_le _ (Nat.le_of_ble_eq_true rfl)) hl.1 dX11_stateHere_8 ⟨Nat.le_of_ble_eq_true rfl, Nat.le_of_ble_eq_true rfl⟩) hM (fun H locs hM => ?_)
  refine W_st (st' := [cr α 7 r_2.1]) rfl ?_
  obtain ⟨i_3, hd_3, h⟩ := bd_of h
  refine c_getrt C hM (k := 7) (f := 3) (t := 6) hd_3 (by decide) fl_X11_408 dX11_stateHere_11 ?_
  exact c_xr h (c_ra (k := 6) (v := (cR r_2.2 7 i_3 3)) (o := ((cR r_2.2 7 i_3 3), r_2.2)) C hM (fun _ => rfl) hr rfl hlk dX11_stateHere_14 rfl)
/-! Lorewick.at()I -/
abbrev rc_X11_at : Room := { frames := 8, cells := 1, slots := 6, locals := 142 }
def fc_X11_at (σ : cS) : Option ((Nat ⊕ Int32) × cS) :=
  xb (fc_X11_stateHere σ) fun v_1 u_1 =>
  (dr u_1 6 v_1).bind fun i_2 =>
  some (.inr (cI u_1 6 i_2 0), u_1)
set_option maxHeartbeats 4000000 in
set_option maxRecDepth 100000 in
theorem cc_X11_at (l : Launch) (hst : l.stackTraces = false) (D : va_G) (ca : Nat → ClassId) (A : Nat → Prop) (α : cAl) (σ : cS) (o : (Nat ⊕ Int32) × cS) (h : fc_X11_at σ  = some o) : cMetX false l yX11_at cX11_at 1 ((some FieldType.int)) rc_X11_at 1 6 D ca true A α σ [cr α 0 (some 0)] (o.1.map id (fun (v : Int32) _ => some (.int v))) o.2 := by
  refine vx_ofW (cc := cX11_at) (maxL := 1) (ret := (some FieldType.int)) (by decide) rfl ?_
  intro p e s m args below meth c s₁ B hml hout hv
  obtain ⟨rfl, hP, hK, hD0, hSh, hA, hG⟩ := hv
  have C : cC p s m _ c cX11_at 1 RX11 D ca A α := ⟨B.exec, B.bytes, hml, findClass_of_methodNamed B.named, fun w hw => atoms_spec (ws := mWs yX11_at cX11_at 1 ((some FieldType.int))) B.pre w (List.mem_cons_of_mem _ hw), hK, hG⟩
  have hM : cM D ca true A s.heap σ α σ α s.heap [] := ⟨hP, hD0, hSh, va_S.rf, hA, cX.rf⟩
  have h17 : 0 < cn σ 17 := c_17 hM
  have hr := B.returns
  have hlk := B.notSynchronized
  have hx := C.1
  have hb := C.2.1
  have hl := lv_entry ([cr α 0 (some 0)]) (n := 1) (Nat.le_of_ble_eq_true rfl)
  rw [lg_entry_eq]
  generalize (lg_sl ([cr α 0 (some 0)]) ++ List.replicate (1 - (lg_sl ([cr α 0 (some 0)])).length) Slot.unset).toArray = ls at hl ⊢
  have hl : lv_has ls 1 [(0, cr α 0 (some 0))] := hl
  unfold fc_X11_at at h
  refine c_aload_n (t := 0) (x := (some 0)) hx hb dX11_at_0 rfl (lv_at hl 0 rfl) ?_
  obtain ⟨r_1, u_1, hr_1⟩ := xb_some h
  refine c_gox2 (T := (fun (v : Option Nat) α1 => some (cr α1 6 v))) (T2 := (fun (v : Int32) _ => some (.int v))) h hr_1 (c_rVx (As := []) (rest := []) C hM h17 (hM.cst 0 0 rfl) (by decide) (cc_X11_stateHere l hst D ca A α σ _ hr_1) cw_X11_278 ⟨rfl, rfl⟩ ⟨Nat.le_of_ble_eq_true rfl, Nat.le_of_ble_eq_true rfl⟩ rfl rfl (cats_le _ (Nat.le_of_ble_eq_true rfl)) hl.1 dX11_at_1 ⟨Nat.le_of_ble_eq_true rfl, Nat.le_of_ble_eq_true rfl⟩) C hM (fun _ => ⟨rfl, rfl⟩) hout hlk (Nat.le_of_ble_eq_true rfl) (Nat.le_of_ble_eq_true rfl) (fun v_1 H locs α9 hα h hX_1 hM => ?_)
  obtain rfl : α = α9 := (hα rfl).symm
  refine W_st (st' := [cr α 6 v_1]) rfl ?_
  obtain ⟨i_2, hd_2, h⟩ := bd_of h
  refine c_geti C hM (k := 6) (f := 0) hd_2 rfl fl_X11_282 dX11_at_4 ?_
  exact c_xr h (c_ri (o := ((cI u_1 6 i_2 0), u_1)) C hM (fun _ => rfl) hr hlk dX11_at_7 rfl)
/-! Lorewick.place(I)I -/
abbrev rc_X11_place : Room := { frames := 8, cells := 2, slots := 12, locals := 142 }
def fc_X11_place (σ : cS) (x1 : Int32) : Option ((Nat ⊕ Int32) × cS) :=
  xb (fc_X11_needThing σ x1) fun v_1 u_1 =>
  xb (fc_X11_stateHere u_1) fun v_2 u_2 =>
  (dr u_2 6 v_2).bind fun i_3 =>
  (dr u_2 12 (cR u_2 6 i_3 1)).bind fun i_4 =>
  if x1 < 0 ∨ cln u_2 12 i_4 ≤ x1.toNatClampNeg then none else
  some (.inr (cI u_2 12 i_4 x1.toNatClampNeg), u_2)
set_option maxHeartbeats 4000000 in
set_option maxRecDepth 100000 in
theorem cc_X11_place (l : Launch) (hst : l.stackTraces = false) (D : va_G) (ca : Nat → ClassId) (A : Nat → Prop) (α : cAl) (σ : cS) (x1 : Int32) (o : (Nat ⊕ Int32) × cS) (h : fc_X11_place σ x1 = some o) : cMetX false l yX11_place cX11_place 2 ((some FieldType.int)) rc_X11_place 2 12 D ca true A α σ [cr α 0 (some 0), .int x1] (o.1.map id (fun (v : Int32) _ => some (.int v))) o.2 := by
  refine vx_ofW (cc := cX11_place) (maxL := 2) (ret := (some FieldType.int)) (by decide) rfl ?_
  intro p e s m args below meth c s₁ B hml hout hv
  obtain ⟨rfl, hP, hK, hD0, hSh, hA, hG⟩ := hv
  have C : cC p s m _ c cX11_place 2 RX11 D ca A α := ⟨B.exec, B.bytes, hml, findClass_of_methodNamed B.named, fun w hw => atoms_spec (ws := mWs yX11_place cX11_place 2 ((some FieldType.int))) B.pre w (List.mem_cons_of_mem _ hw), hK, hG⟩
  have hM : cM D ca true A s.heap σ α σ α s.heap [] := ⟨hP, hD0, hSh, va_S.rf, hA, cX.rf⟩
  have h17 : 0 < cn σ 17 := c_17 hM
  have hr := B.returns
  have hlk := B.notSynchronized
  have hx := C.1
  have hb := C.2.1
  have hl := lv_entry ([cr α 0 (some 0), .int x1]) (n := 2) (Nat.le_of_ble_eq_true rfl)
  rw [lg_entry_eq]
  generalize (lg_sl ([cr α 0 (some 0), .int x1]) ++ List.replicate (2 - (lg_sl ([cr α 0 (some 0), .int x1])).length) Slot.unset).toArray = ls at hl ⊢
  have hl : lv_has ls 2 [(0, cr α 0 (some 0)), (1, .int x1)] := hl
  unfold fc_X11_place at h
  refine c_aload_n (t := 0) (x := (some 0)) hx hb dX11_place_0 rfl (lv_at hl 0 rfl) ?_
  refine lv_iload_n hx hb dX11_place_1 rfl (lv_at hl 1 rfl) ?_
  obtain ⟨r_1, u_1, hr_1⟩ := xb_some h
  refine c_gox2 (T := (fun (_ : Unit) _ => none)) (T2 := (fun (v : Int32) _ => some (.int v))) h hr_1 (c_rVx (As := [.int x1]) (rest := []) C hM h17 (hM.cst 0 0 rfl) (by decide) (cc_X11_needThing l hst D ca A α σ x1 _ hr_1) cw_X11_148 ⟨rfl, rfl⟩ ⟨Nat.le_of_ble_eq_true rfl, Nat.le_of_ble_eq_true rfl⟩ rfl rfl (cats_le _ (Nat.le_of_ble_eq_true rfl)) hl.1 dX11_place_2 ⟨Nat.le_of_ble_eq_true rfl, Nat.le_of_ble_eq_true rfl⟩) C hM (fun _ => ⟨rfl, rfl⟩) hout hlk (Nat.le_of_ble_eq_true rfl) (Nat.le_of_ble_eq_true rfl) (fun v_1 H locs α9 hα h hX_1 hM => ?_)
  obtain rfl : α = α9 := (hα rfl).symm
  refine W_st (st' := []) rfl ?_
  refine c_aload_n (t := 0) (x := (some 0)) hx hb dX11_place_5 rfl (lv_at hl 0 rfl) ?_
  obtain ⟨r_2, u_2, hr_2⟩ := xb_some h
  refine c_gox2 (T := (fun (v : Option Nat) α1 => some (cr α1 6 v))) (T2 := (fun (v : Int32) _ => some (.int v))) h hr_2 (c_rVx (As := []) (rest := []) C hM h17 (hM.cst 0 0 rfl) (by decide) (cc_X11_stateHere l hst D ca A α u_1 _ hr_2) cw_X11_278 ⟨rfl, rfl⟩ ⟨Nat.le_of_ble_eq_true rfl, Nat.le_of_ble_eq_true rfl⟩ rfl rfl (cats_le _ (Nat.le_of_ble_eq_true rfl)) hl.1 dX11_place_6 ⟨Nat.le_of_ble_eq_true rfl, Nat.le_of_ble_eq_true rfl⟩) C hM (fun _ => ⟨rfl, rfl⟩) hout hlk (Nat.le_of_ble_eq_true rfl) (Nat.le_of_ble_eq_true rfl) (fun v_2 H locs α9 hα h hX_2 hM => ?_)
  obtain rfl : α = α9 := (hα rfl).symm
  refine W_st (st' := [cr α 6 v_2]) rfl ?_
  obtain ⟨i_3, hd_3, h⟩ := bd_of h
  refine c_getrt C hM (k := 6) (f := 1) (t := 12) hd_3 (by decide) fl_X11_285 dX11_place_9 ?_
  refine lv_iload_n hx hb dX11_place_12 rfl (lv_at hl 1 rfl) ?_
  obtain ⟨i_4, hd_4, h⟩ := bd_of h
  obtain ⟨c_1, h⟩ := ko_of h
  refine c_iald C hM hd_4 c_1 dX11_place_13 ?_
  exact c_xr h (c_ri (o := ((cI u_2 12 i_4 x1.toNatClampNeg), u_2)) C hM (fun _ => rfl) hr hlk dX11_place_14 rfl)
/-! Lorewick.isOpen(I)Z -/
abbrev rc_X11_isOpen : Room := { frames := 8, cells := 3, slots := 18, locals := 142 }
def fc_X11_isOpen (σ : cS) (x1 : Int32) : Option ((Nat ⊕ Int32) × cS) :=
  xb (fc_X11_needThing σ x1) fun v_1 u_1 =>
  xb (fc_X11_stateHere u_1) fun v_2 u_2 =>
  xb (fc_X11_needKind u_2 x1 (98 : Int32)) fun v_3 u_3 =>
  (dr u_3 6 v_2).bind fun i_4 =>
  (dr u_3 13 (cR u_3 6 i_4 3)).bind fun i_5 =>
  if x1 < 0 ∨ cln u_3 13 i_5 ≤ x1.toNatClampNeg then none else
  if ¬ ((cI u_3 13 i_5 x1.toNatClampNeg) &&& 1 = (cI u_3 13 i_5 x1.toNatClampNeg)) then none else
  some (.inr (cI u_3 13 i_5 x1.toNatClampNeg), u_3)
set_option maxHeartbeats 4000000 in
set_option maxRecDepth 100000 in
theorem cc_X11_isOpen (l : Launch) (hst : l.stackTraces = false) (D : va_G) (ca : Nat → ClassId) (A : Nat → Prop) (α : cAl) (σ : cS) (x1 : Int32) (o : (Nat ⊕ Int32) × cS) (h : fc_X11_isOpen σ x1 = some o) : cMetX false l yX11_isOpen cX11_isOpen 3 ((some FieldType.boolean)) rc_X11_isOpen 3 18 D ca true A α σ [cr α 0 (some 0), .int x1] (o.1.map id (fun (v : Int32) _ => some (.int v))) o.2 := by
  refine vx_ofW (cc := cX11_isOpen) (maxL := 3) (ret := (some FieldType.boolean)) (by decide) rfl ?_
  intro p e s m args below meth c s₁ B hml hout hv
  obtain ⟨rfl, hP, hK, hD0, hSh, hA, hG⟩ := hv
  have C : cC p s m _ c cX11_isOpen 3 RX11 D ca A α := ⟨B.exec, B.bytes, hml, findClass_of_methodNamed B.named, fun w hw => atoms_spec (ws := mWs yX11_isOpen cX11_isOpen 3 ((some FieldType.boolean))) B.pre w (List.mem_cons_of_mem _ hw), hK, hG⟩
  have hM : cM D ca true A s.heap σ α σ α s.heap [] := ⟨hP, hD0, hSh, va_S.rf, hA, cX.rf⟩
  have h17 : 0 < cn σ 17 := c_17 hM
  have hr := B.returns
  have hlk := B.notSynchronized
  have hx := C.1
  have hb := C.2.1
  have hl := lv_entry ([cr α 0 (some 0), .int x1]) (n := 3) (Nat.le_of_ble_eq_true rfl)
  rw [lg_entry_eq]
  generalize (lg_sl ([cr α 0 (some 0), .int x1]) ++ List.replicate (3 - (lg_sl ([cr α 0 (some 0), .int x1])).length) Slot.unset).toArray = ls at hl ⊢
  have hl : lv_has ls 3 [(0, cr α 0 (some 0)), (1, .int x1)] := hl
  unfold fc_X11_isOpen at h
  refine c_aload_n (t := 0) (x := (some 0)) hx hb dX11_isOpen_0 rfl (lv_at hl 0 rfl) ?_
  refine lv_iload_n hx hb dX11_isOpen_1 rfl (lv_at hl 1 rfl) ?_
  obtain ⟨r_1, u_1, hr_1⟩ := xb_some h
  refine c_gox2 (T := (fun (_ : Unit) _ => none)) (T2 := (fun (v : Int32) _ => some (.int v))) h hr_1 (c_rVx (As := [.int x1]) (rest := []) C hM h17 (hM.cst 0 0 rfl) (by decide) (cc_X11_needThing l hst D ca A α σ x1 _ hr_1) cw_X11_148 ⟨rfl, rfl⟩ ⟨Nat.le_of_ble_eq_true rfl, Nat.le_of_ble_eq_true rfl⟩ rfl rfl (cats_le _ (Nat.le_of_ble_eq_true rfl)) hl.1 dX11_isOpen_2 ⟨Nat.le_of_ble_eq_true rfl, Nat.le_of_ble_eq_true rfl⟩) C hM (fun _ => ⟨rfl, rfl⟩) hout hlk (Nat.le_of_ble_eq_true rfl) (Nat.le_of_ble_eq_true rfl) (fun v_1 H locs α9 hα h hX_1 hM => ?_)
  obtain rfl : α = α9 := (hα rfl).symm
  refine W_st (st' := []) rfl ?_
  refine c_aload_n (t := 0) (x := (some 0)) hx hb dX11_isOpen_5 rfl (lv_at hl 0 rfl) ?_
  obtain ⟨r_2, u_2, hr_2⟩ := xb_some h
  refine c_gox2 (T := (fun (v : Option Nat) α1 => some (cr α1 6 v))) (T2 := (fun (v : Int32) _ => some (.int v))) h hr_2 (c_rVx (As := []) (rest := []) C hM h17 (hM.cst 0 0 rfl) (by decide) (cc_X11_stateHere l hst D ca A α u_1 _ hr_2) cw_X11_278 ⟨rfl, rfl⟩ ⟨Nat.le_of_ble_eq_true rfl, Nat.le_of_ble_eq_true rfl⟩ rfl rfl (cats_le _ (Nat.le_of_ble_eq_true rfl)) hl.1 dX11_isOpen_6 ⟨Nat.le_of_ble_eq_true rfl, Nat.le_of_ble_eq_true rfl⟩) C hM (fun _ => ⟨rfl, rfl⟩) hout hlk (Nat.le_of_ble_eq_true rfl) (Nat.le_of_ble_eq_true rfl) (fun v_2 H locs α9 hα h hX_2 hM => ?_)
  obtain rfl : α = α9 := (hα rfl).symm
  refine W_st (st' := [cr α 6 v_2]) rfl ?_
  refine c_astore_n (t := 6) (x := v_2) (lv' := [(2, cr α 6 v_2), (0, cr α 0 (some 0)), (1, .int x1)]) hx hb dX11_isOpen_9 rfl hl (by decide) rfl (fun ls hl => ?_)
  refine c_aload_n (t := 0) (x := (some 0)) hx hb dX11_isOpen_10 rfl (lv_at hl 1 rfl) ?_
  refine lv_iload_n hx hb dX11_isOpen_11 rfl (lv_at hl 2 rfl) ?_
  refine lv_bipush (v := (98 : Int32)) hx hb dX11_isOpen_12 (by decide) ?_
  obtain ⟨r_3, u_3, hr_3⟩ := xb_some h
  refine c_gox2 (T := (fun (_ : Unit) _ => none)) (T2 := (fun (v : Int32) _ => some (.int v))) h hr_3 (c_rVx (As := [.int x1, .int (98 : Int32)]) (rest := []) C hM h17 (hM.cst 0 0 rfl) (by decide) (cc_X11_needKind l hst D ca A α u_2 x1 (98 : Int32) _ hr_3) cw_X11_186 ⟨rfl, rfl⟩ ⟨Nat.le_of_ble_eq_true rfl, Nat.le_of_ble_eq_true rfl⟩ rfl rfl (cats_le _ (Nat.le_of_ble_eq_true rfl)) hl.1 dX11_isOpen_14 ⟨Nat.le_of_ble_eq_true rfl, Nat.le_of_ble_eq_true rfl⟩) C hM (fun _ => ⟨rfl, rfl⟩) hout hlk (Nat.le_of_ble_eq_true rfl) (Nat.le_of_ble_eq_true rfl) (fun v_3 H locs α9 hα h hX_3 hM => ?_)
  obtain rfl : α = α9 := (hα rfl).symm
  refine W_st (st' := []) rfl ?_
  refine c_aload_n (t := 6) (x := v_2) hx hb dX11_isOpen_17 rfl (lv_at hl 0 rfl) ?_
  obtain ⟨i_4, hd_4, h⟩ := bd_of h
  refine c_getrt C hM (k := 6) (f := 3) (t := 13) hd_4 (by decide) fl_X11_288 dX11_isOpen_18 ?_
  refine lv_iload_n hx hb dX11_isOpen_21 rfl (lv_at hl 2 rfl) ?_
  obtain ⟨i_5, hd_5, h⟩ := bd_of h
  obtain ⟨c_1, h⟩ := ko_of h
  refine c_zald C hM hd_5 c_1 dX11_isOpen_22 ?_
  obtain ⟨c_2, h⟩ := ko_of h
  exact c_xr h (c_rz (o := ((cI u_3 13 i_5 x1.toNatClampNeg), u_3)) C hM (fun _ => rfl) hr hlk dX11_isOpen_23 (by rw [if_pos (Classical.not_not.mp c_2)]))
/-! Lorewick.lit(I)I -/
abbrev rc_X11_lit : Room := { frames := 8, cells := 3, slots := 18, locals := 142 }
def fc_X11_lit_43 (σ : cS) (s0 : Int32) : Option ((Nat ⊕ Int32) × cS) :=
    some (.inr s0, σ)
set_option maxHeartbeats 4000000 in
set_option maxRecDepth 100000 in
theorem gc_X11_lit_43 {p : Program} {l : Launch} {e : Env} {s : State} {m : MethodId} {args : Array Value} {below : List Frame} {meth : Method} {c : Code} {D : va_G} {ca : Nat → ClassId} {A : Nat → Prop} {σ0 : cS} {α : cAl} {o : (Nat ⊕ Int32) × cS} (C : cC p s m args c cX11_lit 3 RX11 D ca A α) (hr : meth.sig.returnType = (some FieldType.int)) (hlk : meth.locks = false) (h17 : 0 < cn σ0 17) (hst : l.stackTraces = false) (hout : ∀ x ∈ c.exceptionTable.toList, False) : ∀ (σ : cS) (s0 : Int32) (H : Heap) (locs : List Loc) (ls : Array Slot), cM D ca true A s.heap σ0 α σ α H locs → lv_has ls 3 [] → fc_X11_lit_43 σ s0 = some o → W p l e rc_X11_lit s m args below meth c H locs 3 18 (vx_MQ below (cQx false D ca true A α σ0 (o.1.map id (fun (v : Int32) _ => some (.int v))) o.2) (cXC false D ca true A α σ0 (o.1.map id (fun (v : Int32) _ => some (.int v))) o.2) args s 3 18 A) (F0 m 43 ls [.int s0]) := by
  have hx := C.1
  have hb := C.2.1
  intro σ s0 H locs ls hM hl h
  unfold fc_X11_lit_43 at h
  exact c_xr h (c_ri (o := (s0, σ)) C hM (fun _ => rfl) hr hlk dX11_lit_43 rfl)
def fc_X11_lit (σ : cS) (x1 : Int32) : Option ((Nat ⊕ Int32) × cS) :=
  xb (fc_X11_needThing σ x1) fun v_1 u_1 =>
  xb (fc_X11_stateHere u_1) fun v_2 u_2 =>
  xb (fc_X11_needKind u_2 x1 (108 : Int32)) fun v_3 u_3 =>
  (dr u_3 6 v_2).bind fun i_4 =>
  (dr u_3 13 (cR u_3 6 i_4 3)).bind fun i_5 =>
  if x1 < 0 ∨ cln u_3 13 i_5 ≤ x1.toNatClampNeg then none else
  if (cI u_3 13 i_5 x1.toNatClampNeg) = 0 then
    (dr u_3 12 (cR u_3 6 i_4 2)).bind fun i_6 =>
    if x1 < 0 ∨ cln u_3 12 i_6 ≤ x1.toNatClampNeg then none else
    fc_X11_lit_43 u_3 ((-1 : Int32) - (cI u_3 12 i_6 x1.toNatClampNeg))
  else
    (dr u_3 12 (cR u_3 6 i_4 2)).bind fun i_7 =>
    if x1 < 0 ∨ cln u_3 12 i_7 ≤ x1.toNatClampNeg then none else
    fc_X11_lit_43 u_3 (cI u_3 12 i_7 x1.toNatClampNeg)
set_option maxHeartbeats 4000000 in
set_option maxRecDepth 100000 in
theorem cc_X11_lit (l : Launch) (hst : l.stackTraces = false) (D : va_G) (ca : Nat → ClassId) (A : Nat → Prop) (α : cAl) (σ : cS) (x1 : Int32) (o : (Nat ⊕ Int32) × cS) (h : fc_X11_lit σ x1 = some o) : cMetX false l yX11_lit cX11_lit 3 ((some FieldType.int)) rc_X11_lit 3 18 D ca true A α σ [cr α 0 (some 0), .int x1] (o.1.map id (fun (v : Int32) _ => some (.int v))) o.2 := by
  refine vx_ofW (cc := cX11_lit) (maxL := 3) (ret := (some FieldType.int)) (by decide) rfl ?_
  intro p e s m args below meth c s₁ B hml hout hv
  obtain ⟨rfl, hP, hK, hD0, hSh, hA, hG⟩ := hv
  have C : cC p s m _ c cX11_lit 3 RX11 D ca A α := ⟨B.exec, B.bytes, hml, findClass_of_methodNamed B.named, fun w hw => atoms_spec (ws := mWs yX11_lit cX11_lit 3 ((some FieldType.int))) B.pre w (List.mem_cons_of_mem _ hw), hK, hG⟩
  have hM : cM D ca true A s.heap σ α σ α s.heap [] := ⟨hP, hD0, hSh, va_S.rf, hA, cX.rf⟩
  have h17 : 0 < cn σ 17 := c_17 hM
  have hr := B.returns
  have hlk := B.notSynchronized
  have hx := C.1
  have hb := C.2.1
  have hl := lv_entry ([cr α 0 (some 0), .int x1]) (n := 3) (Nat.le_of_ble_eq_true rfl)
  rw [lg_entry_eq]
  generalize (lg_sl ([cr α 0 (some 0), .int x1]) ++ List.replicate (3 - (lg_sl ([cr α 0 (some 0), .int x1])).length) Slot.unset).toArray = ls at hl ⊢
  have hl : lv_has ls 3 [(0, cr α 0 (some 0)), (1, .int x1)] := hl
  unfold fc_X11_lit at h
  refine c_aload_n (t := 0) (x := (some 0)) hx hb dX11_lit_0 rfl (lv_at hl 0 rfl) ?_
  refine lv_iload_n hx hb dX11_lit_1 rfl (lv_at hl 1 rfl) ?_
  obtain ⟨r_1, u_1, hr_1⟩ := xb_some h
  refine c_gox2 (T := (fun (_ : Unit) _ => none)) (T2 := (fun (v : Int32) _ => some (.int v))) h hr_1 (c_rVx (As := [.int x1]) (rest := []) C hM h17 (hM.cst 0 0 rfl) (by decide) (cc_X11_needThing l hst D ca A α σ x1 _ hr_1) cw_X11_148 ⟨rfl, rfl⟩ ⟨Nat.le_of_ble_eq_true rfl, Nat.le_of_ble_eq_true rfl⟩ rfl rfl (cats_le _ (Nat.le_of_ble_eq_true rfl)) hl.1 dX11_lit_2 ⟨Nat.le_of_ble_eq_true rfl, Nat.le_of_ble_eq_true rfl⟩) C hM (fun _ => ⟨rfl, rfl⟩) hout hlk (Nat.le_of_ble_eq_true rfl) (Nat.le_of_ble_eq_true rfl) (fun v_1 H locs α9 hα h hX_1 hM => ?_)
  obtain rfl : α = α9 := (hα rfl).symm
  refine W_st (st' := []) rfl ?_
  refine c_aload_n (t := 0) (x := (some 0)) hx hb dX11_lit_5 rfl (lv_at hl 0 rfl) ?_
  obtain ⟨r_2, u_2, hr_2⟩ := xb_some h
  refine c_gox2 (T := (fun (v : Option Nat) α1 => some (cr α1 6 v))) (T2 := (fun (v : Int32) _ => some (.int v))) h hr_2 (c_rVx (As := []) (rest := []) C hM h17 (hM.cst 0 0 rfl) (by decide) (cc_X11_stateHere l hst D ca A α u_1 _ hr_2) cw_X11_278 ⟨rfl, rfl⟩ ⟨Nat.le_of_ble_eq_true rfl, Nat.le_of_ble_eq_true rfl⟩ rfl rfl (cats_le _ (Nat.le_of_ble_eq_true rfl)) hl.1 dX11_lit_6 ⟨Nat.le_of_ble_eq_true rfl, Nat.le_of_ble_eq_true rfl⟩) C hM (fun _ => ⟨rfl, rfl⟩) hout hlk (Nat.le_of_ble_eq_true rfl) (Nat.le_of_ble_eq_true rfl) (fun v_2 H locs α9 hα h hX_2 hM => ?_)
  obtain rfl : α = α9 := (hα rfl).symm
  refine W_st (st' := [cr α 6 v_2]) rfl ?_
  refine c_astore_n (t := 6) (x := v_2) (lv' := [(2, cr α 6 v_2), (0, cr α 0 (some 0)), (1, .int x1)]) hx hb dX11_lit_9 rfl hl (by decide) rfl (fun ls hl => ?_)
  refine c_aload_n (t := 0) (x := (some 0)) hx hb dX11_lit_10 rfl (lv_at hl 1 rfl) ?_
  refine lv_iload_n hx hb dX11_lit_11 rfl (lv_at hl 2 rfl) ?_
  refine lv_bipush (v := (108 : Int32)) hx hb dX11_lit_12 (by decide) ?_
  obtain ⟨r_3, u_3, hr_3⟩ := xb_some h
  refine c_gox2 (T := (fun (_ : Unit) _ => none)) (T2 := (fun (v : Int32) _ => some (.int v))) h hr_3 (c_rVx (As := [.int x1, .int (108 : Int32)]) (rest := []) C hM h17 (hM.cst 0 0 rfl) (by decide) (cc_X11_needKind l hst D ca A α u_2 x1 (108 : Int32) _ hr_3) cw_X11_186 ⟨rfl, rfl⟩ ⟨Nat.le_of_ble_eq_true rfl, Nat.le_of_ble_eq_true rfl⟩ rfl rfl (cats_le _ (Nat.le_of_ble_eq_true rfl)) hl.1 dX11_lit_14 ⟨Nat.le_of_ble_eq_true rfl, Nat.le_of_ble_eq_true rfl⟩) C hM (fun _ => ⟨rfl, rfl⟩) hout hlk (Nat.le_of_ble_eq_true rfl) (Nat.le_of_ble_eq_true rfl) (fun v_3 H locs α9 hα h hX_3 hM => ?_)
  obtain rfl : α = α9 := (hα rfl).symm
  refine W_st (st' := []) rfl ?_
  refine c_aload_n (t := 6) (x := v_2) hx hb dX11_lit_17 rfl (lv_at hl 0 rfl) ?_
  obtain ⟨i_4, hd_4, h⟩ := bd_of h
  refine c_getrt C hM (k := 6) (f := 3) (t := 13) hd_4 (by decide) fl_X11_288 dX11_lit_18 ?_
  refine lv_iload_n hx hb dX11_lit_21 rfl (lv_at hl 2 rfl) ?_
  obtain ⟨i_5, hd_5, h⟩ := bd_of h
  obtain ⟨c_1, h⟩ := ko_of h
  refine c_zald C hM hd_5 c_1 dX11_lit_22 ?_
  refine lv_if_eq (tgt := 35) hx hb dX11_lit_23 (by decide) (fun c_2 => ?_) (fun c_2 => ?_)
  · have h := br_T c_2 h
    refine lv_iconst (v := (-1 : Int32)) hx hb dX11_lit_35 (by decide) ?_
    refine c_aload_n (t := 6) (x := v_2) hx hb dX11_lit_36 rfl (lv_at hl 0 rfl) ?_
    refine c_getrt C hM (k := 6) (f := 2) (t := 12) hd_4 (by decide) fl_X11_291 dX11_lit_37 ?_
    refine lv_iload_n hx hb dX11_lit_40 rfl (lv_at hl 2 rfl) ?_
    obtain ⟨i_6, hd_6, h⟩ := bd_of h
    obtain ⟨c_3, h⟩ := ko_of h
    refine c_iald C hM hd_6 c_3 dX11_lit_41 ?_
    refine lv_isub hx hb dX11_lit_42 ?_
    exact gc_X11_lit_43 C hr hlk h17 hst hout  _ _ _ _ _ hM (lv_sub hl [] rfl) h
  · have h := br_F c_2 h
    refine c_aload_n (t := 6) (x := v_2) hx hb dX11_lit_26 rfl (lv_at hl 0 rfl) ?_
    refine c_getrt C hM (k := 6) (f := 2) (t := 12) hd_4 (by decide) fl_X11_291 dX11_lit_27 ?_
    refine lv_iload_n hx hb dX11_lit_30 rfl (lv_at hl 2 rfl) ?_
    obtain ⟨i_7, hd_7, h⟩ := bd_of h
    obtain ⟨c_4, h⟩ := ko_of h
    refine c_iald C hM hd_7 c_4 dX11_lit_31 ?_
    refine lv_goto (tgt := 43) hx hb dX11_lit_32 (by decide) ?_
    exact gc_X11_lit_43 C hr hlk h17 hst hout  _ _ _ _ _ hM (lv_sub hl [] rfl) h
/-! Lorewick.isBright()Z -/
abbrev rc_X11_isBright : Room := { frames := 8, cells := 1, slots := 6, locals := 142 }
def fc_X11_isBright (σ : cS) : Option ((Nat ⊕ Int32) × cS) :=
  xb (fc_X11_stateHere σ) fun v_1 u_1 =>
  (fc_X3_hasLight u_1 v_1).bind fun r_2 =>
  if ¬ (r_2.1 &&& 1 = r_2.1) then none else
  some (.inr r_2.1, r_2.2)
set_option maxHeartbeats 4000000 in
set_option maxRecDepth 100000 in
theorem cc_X11_isBright (l : Launch) (hst : l.stackTraces = false) (D : va_G) (ca : Nat → ClassId) (A : Nat → Prop) (α : cAl) (σ : cS) (o : (Nat ⊕ Int32) × cS) (h : fc_X11_isBright σ  = some o) : cMetX false l yX11_isBright cX11_isBright 1 ((some FieldType.boolean)) rc_X11_isBright 1 6 D ca true A α σ [cr α 0 (some 0)] (o.1.map id (fun (v : Int32) _ => some (.int v))) o.2 := by
  refine vx_ofW (cc := cX11_isBright) (maxL := 1) (ret := (some FieldType.boolean)) (by decide) rfl ?_
  intro p e s m args below meth c s₁ B hml hout hv
  obtain ⟨rfl, hP, hK, hD0, hSh, hA, hG⟩ := hv
  have C : cC p s m _ c cX11_isBright 1 RX11 D ca A α := ⟨B.exec, B.bytes, hml, findClass_of_methodNamed B.named, fun w hw => atoms_spec (ws := mWs yX11_isBright cX11_isBright 1 ((some FieldType.boolean))) B.pre w (List.mem_cons_of_mem _ hw), hK, hG⟩
  have hM : cM D ca true A s.heap σ α σ α s.heap [] := ⟨hP, hD0, hSh, va_S.rf, hA, cX.rf⟩
  have h17 : 0 < cn σ 17 := c_17 hM
  have hr := B.returns
  have hlk := B.notSynchronized
  have hx := C.1
  have hb := C.2.1
  have hl := lv_entry ([cr α 0 (some 0)]) (n := 1) (Nat.le_of_ble_eq_true rfl)
  rw [lg_entry_eq]
  generalize (lg_sl ([cr α 0 (some 0)]) ++ List.replicate (1 - (lg_sl ([cr α 0 (some 0)])).length) Slot.unset).toArray = ls at hl ⊢
  have hl : lv_has ls 1 [(0, cr α 0 (some 0))] := hl
  unfold fc_X11_isBright at h
  refine c_aload_n (t := 0) (x := (some 0)) hx hb dX11_isBright_0 rfl (lv_at hl 0 rfl) ?_
  refine c_getb C hM (k := 0) (f := 2) (j := 0) (t := 3) (hM.cst 0 0 rfl) (by decide) fl_X11_34 dX11_isBright_1 ?_
  refine c_aload_n (t := 0) (x := (some 0)) hx hb dX11_isBright_4 rfl (lv_at hl 0 rfl) ?_
  obtain ⟨r_1, u_1, hr_1⟩ := xb_some h
  refine c_gox2 (T := (fun (v : Option Nat) α1 => some (cr α1 6 v))) (T2 := (fun (v : Int32) _ => some (.int v))) h hr_1 (c_rVx (As := []) (rest := [cr α 3 (some 0)]) C hM h17 (hM.cst 0 0 rfl) (by decide) (cc_X11_stateHere l hst D ca A α σ _ hr_1) cw_X11_278 ⟨rfl, rfl⟩ ⟨Nat.le_of_ble_eq_true rfl, Nat.le_of_ble_eq_true rfl⟩ rfl rfl (cats_le _ (Nat.le_of_ble_eq_true rfl)) hl.1 dX11_isBright_5 ⟨Nat.le_of_ble_eq_true rfl, Nat.le_of_ble_eq_true rfl⟩) C hM (fun _ => ⟨rfl, rfl⟩) hout hlk (Nat.le_of_ble_eq_true rfl) (Nat.le_of_ble_eq_true rfl) (fun v_1 H locs α9 hα h hX_1 hM => ?_)
  obtain rfl : α = α9 := (hα rfl).symm
  refine W_st (st' := [cr α 6 v_1, cr α 3 (some 0)]) rfl ?_
  obtain ⟨r_2, hr_2, h⟩ := bd_of h
  refine c_go0 (c_rV (As := [cr α 6 v_1]) (rest := []) C hM h17 (hM.cst 3 0 rfl) (by decide) (cc_X3_hasLight l D ca A α u_1 v_1 _ hr_2) cw_X11_292 ⟨rfl, rfl⟩ ⟨Nat.le_of_ble_eq_true rfl, Nat.le_of_ble_eq_true rfl⟩ rfl rfl (cats_le _ (Nat.le_of_ble_eq_true rfl)) hl.1 dX11_isBright_8 ⟨Nat.le_of_ble_eq_true rfl, Nat.le_of_ble_eq_true rfl⟩) hM (fun H locs hM => ?_)
  refine W_st (st' := [.int r_2.1]) rfl ?_
  obtain ⟨c_1, h⟩ := ko_of h
  exact c_xr h (c_rz (o := (r_2.1, r_2.2)) C hM (fun _ => rfl) hr hlk dX11_isBright_11 (by rw [if_pos (Classical.not_not.mp c_1)]))
/-! Lorewick.weight()I -/
abbrev rc_X11_weight : Room := { frames := 8, cells := 1, slots := 6, locals := 142 }
def fc_X11_weight (σ : cS) : Option ((Nat ⊕ Int32) × cS) :=
  xb (fc_X11_stateHere σ) fun v_1 u_1 =>
  (fc_X3_carriedWeight u_1 v_1).bind fun r_2 =>
  some (.inr r_2.1, r_2.2)
set_option maxHeartbeats 4000000 in
set_option maxRecDepth 100000 in
theorem cc_X11_weight (l : Launch) (hst : l.stackTraces = false) (D : va_G) (ca : Nat → ClassId) (A : Nat → Prop) (α : cAl) (σ : cS) (o : (Nat ⊕ Int32) × cS) (h : fc_X11_weight σ  = some o) : cMetX false l yX11_weight cX11_weight 1 ((some FieldType.int)) rc_X11_weight 1 6 D ca true A α σ [cr α 0 (some 0)] (o.1.map id (fun (v : Int32) _ => some (.int v))) o.2 := by
  refine vx_ofW (cc := cX11_weight) (maxL := 1) (ret := (some FieldType.int)) (by decide) rfl ?_
  intro p e s m args below meth c s₁ B hml hout hv
  obtain ⟨rfl, hP, hK, hD0, hSh, hA, hG⟩ := hv
  have C : cC p s m _ c cX11_weight 1 RX11 D ca A α := ⟨B.exec, B.bytes, hml, findClass_of_methodNamed B.named, fun w hw => atoms_spec (ws := mWs yX11_weight cX11_weight 1 ((some FieldType.int))) B.pre w (List.mem_cons_of_mem _ hw), hK, hG⟩
  have hM : cM D ca true A s.heap σ α σ α s.heap [] := ⟨hP, hD0, hSh, va_S.rf, hA, cX.rf⟩
  have h17 : 0 < cn σ 17 := c_17 hM
  have hr := B.returns
  have hlk := B.notSynchronized
  have hx := C.1
  have hb := C.2.1
  have hl := lv_entry ([cr α 0 (some 0)]) (n := 1) (Nat.le_of_ble_eq_true rfl)
  rw [lg_entry_eq]
  generalize (lg_sl ([cr α 0 (some 0)]) ++ List.replicate (1 - (lg_sl ([cr α 0 (some 0)])).length) Slot.unset).toArray = ls at hl ⊢
  have hl : lv_has ls 1 [(0, cr α 0 (some 0))] := hl
  unfold fc_X11_weight at h
  refine c_aload_n (t := 0) (x := (some 0)) hx hb dX11_weight_0 rfl (lv_at hl 0 rfl) ?_
  refine c_getb C hM (k := 0) (f := 2) (j := 0) (t := 3) (hM.cst 0 0 rfl) (by decide) fl_X11_34 dX11_weight_1 ?_
  refine c_aload_n (t := 0) (x := (some 0)) hx hb dX11_weight_4 rfl (lv_at hl 0 rfl) ?_
  obtain ⟨r_1, u_1, hr_1⟩ := xb_some h
  refine c_gox2 (T := (fun (v : Option Nat) α1 => some (cr α1 6 v))) (T2 := (fun (v : Int32) _ => some (.int v))) h hr_1 (c_rVx (As := []) (rest := [cr α 3 (some 0)]) C hM h17 (hM.cst 0 0 rfl) (by decide) (cc_X11_stateHere l hst D ca A α σ _ hr_1) cw_X11_278 ⟨rfl, rfl⟩ ⟨Nat.le_of_ble_eq_true rfl, Nat.le_of_ble_eq_true rfl⟩ rfl rfl (cats_le _ (Nat.le_of_ble_eq_true rfl)) hl.1 dX11_weight_5 ⟨Nat.le_of_ble_eq_true rfl, Nat.le_of_ble_eq_true rfl⟩) C hM (fun _ => ⟨rfl, rfl⟩) hout hlk (Nat.le_of_ble_eq_true rfl) (Nat.le_of_ble_eq_true rfl) (fun v_1 H locs α9 hα h hX_1 hM => ?_)
  obtain rfl : α = α9 := (hα rfl).symm
  refine W_st (st' := [cr α 6 v_1, cr α 3 (some 0)]) rfl ?_
  obtain ⟨r_2, hr_2, h⟩ := bd_of h
  refine c_go0 (c_rV (As := [cr α 6 v_1]) (rest := []) C hM h17 (hM.cst 3 0 rfl) (by decide) (cc_X3_carriedWeight l D ca A α u_1 v_1 _ hr_2) cw_X11_296 ⟨rfl, rfl⟩ ⟨Nat.le_of_ble_eq_true rfl, Nat.le_of_ble_eq_true rfl⟩ rfl rfl (cats_le _ (Nat.le_of_ble_eq_true rfl)) hl.1 dX11_weight_8 ⟨Nat.le_of_ble_eq_true rfl, Nat.le_of_ble_eq_true rfl⟩) hM (fun H locs hM => ?_)
  refine W_st (st' := [.int r_2.1]) rfl ?_
  exact c_xr h (c_ri (o := (r_2.1, r_2.2)) C hM (fun _ => rfl) hr hlk dX11_weight_11 rfl)
/-! Lorewick.node()I -/
abbrev rc_X11_node : Room := { frames := 7, cells := 1, slots := 6, locals := 110 }
def fc_X11_node (σ : cS) : Option ((Nat ⊕ Int32) × cS) :=
  xb (fc_X11_needPlay σ) fun v_1 u_1 =>
  some (.inr (cI u_1 4 0 2), u_1)
set_option maxHeartbeats 4000000 in
set_option maxRecDepth 100000 in
theorem cc_X11_node (l : Launch) (hst : l.stackTraces = false) (D : va_G) (ca : Nat → ClassId) (A : Nat → Prop) (α : cAl) (σ : cS) (o : (Nat ⊕ Int32) × cS) (h : fc_X11_node σ  = some o) : cMetX false l yX11_node cX11_node 1 ((some FieldType.int)) rc_X11_node 1 6 D ca true A α σ [cr α 0 (some 0)] (o.1.map id (fun (v : Int32) _ => some (.int v))) o.2 := by
  refine vx_ofW (cc := cX11_node) (maxL := 1) (ret := (some FieldType.int)) (by decide) rfl ?_
  intro p e s m args below meth c s₁ B hml hout hv
  obtain ⟨rfl, hP, hK, hD0, hSh, hA, hG⟩ := hv
  have C : cC p s m _ c cX11_node 1 RX11 D ca A α := ⟨B.exec, B.bytes, hml, findClass_of_methodNamed B.named, fun w hw => atoms_spec (ws := mWs yX11_node cX11_node 1 ((some FieldType.int))) B.pre w (List.mem_cons_of_mem _ hw), hK, hG⟩
  have hM : cM D ca true A s.heap σ α σ α s.heap [] := ⟨hP, hD0, hSh, va_S.rf, hA, cX.rf⟩
  have h17 : 0 < cn σ 17 := c_17 hM
  have hr := B.returns
  have hlk := B.notSynchronized
  have hx := C.1
  have hb := C.2.1
  have hl := lv_entry ([cr α 0 (some 0)]) (n := 1) (Nat.le_of_ble_eq_true rfl)
  rw [lg_entry_eq]
  generalize (lg_sl ([cr α 0 (some 0)]) ++ List.replicate (1 - (lg_sl ([cr α 0 (some 0)])).length) Slot.unset).toArray = ls at hl ⊢
  have hl : lv_has ls 1 [(0, cr α 0 (some 0))] := hl
  unfold fc_X11_node at h
  refine c_aload_n (t := 0) (x := (some 0)) hx hb dX11_node_0 rfl (lv_at hl 0 rfl) ?_
  obtain ⟨r_1, u_1, hr_1⟩ := xb_some h
  refine c_gox2 (T := (fun (_ : Unit) _ => none)) (T2 := (fun (v : Int32) _ => some (.int v))) h hr_1 (c_rVx (As := []) (rest := []) C hM h17 (hM.cst 0 0 rfl) (by decide) (cc_X11_needPlay l hst D ca A α σ _ hr_1) cw_X11_260 ⟨rfl, rfl⟩ ⟨Nat.le_of_ble_eq_true rfl, Nat.le_of_ble_eq_true rfl⟩ rfl rfl (cats_le _ (Nat.le_of_ble_eq_true rfl)) hl.1 dX11_node_1 ⟨Nat.le_of_ble_eq_true rfl, Nat.le_of_ble_eq_true rfl⟩) C hM (fun _ => ⟨rfl, rfl⟩) hout hlk (Nat.le_of_ble_eq_true rfl) (Nat.le_of_ble_eq_true rfl) (fun v_1 H locs α9 hα h hX_1 hM => ?_)
  obtain rfl : α = α9 := (hα rfl).symm
  refine W_st (st' := []) rfl ?_
  refine c_aload_n (t := 0) (x := (some 0)) hx hb dX11_node_4 rfl (lv_at hl 0 rfl) ?_
  refine c_getb C hM (k := 0) (f := 3) (j := 0) (t := 4) (hM.cst 0 0 rfl) (by decide) fl_X11_41 dX11_node_5 ?_
  refine c_geti C hM (k := 4) (f := 2) (hM.cst 4 0 rfl) rfl fl_X11_300 dX11_node_8 ?_
  exact c_xr h (c_ri (o := ((cI u_1 4 0 2), u_1)) C hM (fun _ => rfl) hr hlk dX11_node_11 rfl)
/-! Lorewick.nodes()I -/
abbrev rc_X11_nodes : Room := { frames := 7, cells := 1, slots := 6, locals := 110 }
def fc_X11_nodes (σ : cS) : Option ((Nat ⊕ Int32) × cS) :=
  xb (fc_X11_needPlay σ) fun v_1 u_1 =>
  (fc_Jx4a65c_size_8abf5 u_1 (some 0)).bind fun r_2 =>
  some (.inr r_2.1, r_2.2)
set_option maxHeartbeats 4000000 in
set_option maxRecDepth 100000 in
theorem cc_X11_nodes (l : Launch) (hst : l.stackTraces = false) (D : va_G) (ca : Nat → ClassId) (A : Nat → Prop) (α : cAl) (σ : cS) (o : (Nat ⊕ Int32) × cS) (h : fc_X11_nodes σ  = some o) : cMetX false l yX11_nodes cX11_nodes 1 ((some FieldType.int)) rc_X11_nodes 1 6 D ca true A α σ [cr α 0 (some 0)] (o.1.map id (fun (v : Int32) _ => some (.int v))) o.2 := by
  refine vx_ofW (cc := cX11_nodes) (maxL := 1) (ret := (some FieldType.int)) (by decide) rfl ?_
  intro p e s m args below meth c s₁ B hml hout hv
  obtain ⟨rfl, hP, hK, hD0, hSh, hA, hG⟩ := hv
  have C : cC p s m _ c cX11_nodes 1 RX11 D ca A α := ⟨B.exec, B.bytes, hml, findClass_of_methodNamed B.named, fun w hw => atoms_spec (ws := mWs yX11_nodes cX11_nodes 1 ((some FieldType.int))) B.pre w (List.mem_cons_of_mem _ hw), hK, hG⟩
  have hM : cM D ca true A s.heap σ α σ α s.heap [] := ⟨hP, hD0, hSh, va_S.rf, hA, cX.rf⟩
  have h17 : 0 < cn σ 17 := c_17 hM
  have hr := B.returns
  have hlk := B.notSynchronized
  have hx := C.1
  have hb := C.2.1
  have hl := lv_entry ([cr α 0 (some 0)]) (n := 1) (Nat.le_of_ble_eq_true rfl)
  rw [lg_entry_eq]
  generalize (lg_sl ([cr α 0 (some 0)]) ++ List.replicate (1 - (lg_sl ([cr α 0 (some 0)])).length) Slot.unset).toArray = ls at hl ⊢
  have hl : lv_has ls 1 [(0, cr α 0 (some 0))] := hl
  unfold fc_X11_nodes at h
  refine c_aload_n (t := 0) (x := (some 0)) hx hb dX11_nodes_0 rfl (lv_at hl 0 rfl) ?_
  obtain ⟨r_1, u_1, hr_1⟩ := xb_some h
  refine c_gox2 (T := (fun (_ : Unit) _ => none)) (T2 := (fun (v : Int32) _ => some (.int v))) h hr_1 (c_rVx (As := []) (rest := []) C hM h17 (hM.cst 0 0 rfl) (by decide) (cc_X11_needPlay l hst D ca A α σ _ hr_1) cw_X11_260 ⟨rfl, rfl⟩ ⟨Nat.le_of_ble_eq_true rfl, Nat.le_of_ble_eq_true rfl⟩ rfl rfl (cats_le _ (Nat.le_of_ble_eq_true rfl)) hl.1 dX11_nodes_1 ⟨Nat.le_of_ble_eq_true rfl, Nat.le_of_ble_eq_true rfl⟩) C hM (fun _ => ⟨rfl, rfl⟩) hout hlk (Nat.le_of_ble_eq_true rfl) (Nat.le_of_ble_eq_true rfl) (fun v_1 H locs α9 hα h hX_1 hM => ?_)
  obtain rfl : α = α9 := (hα rfl).symm
  refine W_st (st' := []) rfl ?_
  refine c_aload_n (t := 0) (x := (some 0)) hx hb dX11_nodes_4 rfl (lv_at hl 0 rfl) ?_
  refine c_getb C hM (k := 0) (f := 3) (j := 0) (t := 4) (hM.cst 0 0 rfl) (by decide) fl_X11_41 dX11_nodes_5 ?_
  refine c_getb C hM (k := 4) (f := 0) (j := 0) (t := 10) (hM.cst 4 0 rfl) (by decide) fl_X11_303 dX11_nodes_8 ?_
  obtain ⟨r_2, hr_2, h⟩ := bd_of h
  refine c_go0 (c_rV (As := []) (rest := []) C hM h17 (hM.cst 10 0 rfl) (by decide) (cc_Jx4a65c_size_8abf5 l D ca A α u_1 (some 0) _ hr_2) cw_X11_307 ⟨rfl, rfl⟩ ⟨Nat.le_of_ble_eq_true rfl, Nat.le_of_ble_eq_true rfl⟩ rfl rfl (cats_le _ (Nat.le_of_ble_eq_true rfl)) hl.1 dX11_nodes_11 ⟨Nat.le_of_ble_eq_true rfl, Nat.le_of_ble_eq_true rfl⟩) hM (fun H locs hM => ?_)
  refine W_st (st' := [.int r_2.1]) rfl ?_
  exact c_xr h (c_ri (o := (r_2.1, r_2.2)) C hM (fun _ => rfl) hr hlk dX11_nodes_14 rfl)
/-! Lorewick.nodeOf(I)LLorewick$Node; -/
abbrev rc_X11_nodeOf : Room := { frames := 6, cells := 1, slots := 6, locals := 102 }
def fc_X11_nodeOf (σ : cS) (x1 : Int32) : Option ((Nat ⊕ Option Nat) × cS) :=
  (fc_X8_has σ x1).bind fun r_1 =>
  if r_1.1 = 0 then
    some (.inl 4, r_1.2)
  else
    (fc_Jx4a65c_get_915e3 r_1.2 (some 0) x1 7).bind fun r_2 =>
    if ¬ (lvq r_2.2 7 r_2.1 = true) then none else
    some (.inr r_2.1, r_2.2)
set_option maxHeartbeats 4000000 in
set_option maxRecDepth 100000 in
theorem cc_X11_nodeOf (l : Launch) (hst : l.stackTraces = false) (D : va_G) (ca : Nat → ClassId) (A : Nat → Prop) (α : cAl) (σ : cS) (x1 : Int32) (o : (Nat ⊕ Option Nat) × cS) (h : fc_X11_nodeOf σ x1 = some o) : cMetX false l yX11_nodeOf cX11_nodeOf 2 ((some (FieldType.object "Lorewick$Node"))) rc_X11_nodeOf 1 6 D ca true A α σ [cr α 0 (some 0), .int x1] (o.1.map id (fun (v : Option Nat) α1 => some (cr α1 7 v))) o.2 := by
  refine vx_ofW (cc := cX11_nodeOf) (maxL := 2) (ret := (some (FieldType.object "Lorewick$Node"))) (by decide) rfl ?_
  intro p e s m args below meth c s₁ B hml hout hv
  obtain ⟨rfl, hP, hK, hD0, hSh, hA, hG⟩ := hv
  have C : cC p s m _ c cX11_nodeOf 2 RX11 D ca A α := ⟨B.exec, B.bytes, hml, findClass_of_methodNamed B.named, fun w hw => atoms_spec (ws := mWs yX11_nodeOf cX11_nodeOf 2 ((some (FieldType.object "Lorewick$Node")))) B.pre w (List.mem_cons_of_mem _ hw), hK, hG⟩
  have hM : cM D ca true A s.heap σ α σ α s.heap [] := ⟨hP, hD0, hSh, va_S.rf, hA, cX.rf⟩
  have h17 : 0 < cn σ 17 := c_17 hM
  have hr := B.returns
  have hlk := B.notSynchronized
  have hx := C.1
  have hb := C.2.1
  have hl := lv_entry ([cr α 0 (some 0), .int x1]) (n := 2) (Nat.le_of_ble_eq_true rfl)
  rw [lg_entry_eq]
  generalize (lg_sl ([cr α 0 (some 0), .int x1]) ++ List.replicate (2 - (lg_sl ([cr α 0 (some 0), .int x1])).length) Slot.unset).toArray = ls at hl ⊢
  have hl : lv_has ls 2 [(0, cr α 0 (some 0)), (1, .int x1)] := hl
  unfold fc_X11_nodeOf at h
  refine c_aload_n (t := 0) (x := (some 0)) hx hb dX11_nodeOf_0 rfl (lv_at hl 0 rfl) ?_
  refine c_getb C hM (k := 0) (f := 3) (j := 0) (t := 4) (hM.cst 0 0 rfl) (by decide) fl_X11_41 dX11_nodeOf_1 ?_
  refine lv_iload_n hx hb dX11_nodeOf_4 rfl (lv_at hl 1 rfl) ?_
  obtain ⟨r_1, hr_1, h⟩ := bd_of h
  refine c_go0 (c_rV (As := [.int x1]) (rest := []) C hM h17 (hM.cst 4 0 rfl) (by decide) (cc_X8_has l D ca A α σ x1 _ hr_1) cw_X11_554 ⟨rfl, rfl⟩ ⟨Nat.le_of_ble_eq_true rfl, Nat.le_of_ble_eq_true rfl⟩ rfl rfl (cats_le _ (Nat.le_of_ble_eq_true rfl)) hl.1 dX11_nodeOf_5 ⟨Nat.le_of_ble_eq_true rfl, Nat.le_of_ble_eq_true rfl⟩) hM (fun H locs hM => ?_)
  refine W_st (st' := [.int r_1.1]) rfl ?_
  refine lv_if_ne (tgt := 22) hx hb dX11_nodeOf_8 (by decide) (fun c_1 => ?_) (fun c_1 => ?_)
  · have h := br_F c_1 h
    refine c_aload_n (t := 0) (x := (some 0)) hx hb dX11_nodeOf_22 rfl (lv_at hl 0 rfl) ?_
    refine c_getb C hM (k := 0) (f := 3) (j := 0) (t := 4) (hM.cst 0 0 rfl) (by decide) fl_X11_41 dX11_nodeOf_23 ?_
    refine c_getb C hM (k := 4) (f := 0) (j := 0) (t := 10) (hM.cst 4 0 rfl) (by decide) fl_X11_303 dX11_nodeOf_26 ?_
    refine lv_iload_n hx hb dX11_nodeOf_29 rfl (lv_at hl 1 rfl) ?_
    obtain ⟨r_2, hr_2, h⟩ := bd_of h
    refine c_go0 (c_rV (As := [.int x1]) (rest := []) C hM h17 (hM.cst 10 0 rfl) (by decide) (cc_Jx4a65c_get_915e3 l D ca A α r_1.2 (some 0) x1 7 _ hr_2) cw_X11_448 ⟨rfl, rfl⟩ ⟨Nat.le_of_ble_eq_true rfl, Nat.le_of_ble_eq_true rfl⟩ rfl rfl (cats_le _ (Nat.le_of_ble_eq_true rfl)) hl.1 dX11_nodeOf_30 ⟨Nat.le_of_ble_eq_true rfl, Nat.le_of_ble_eq_true rfl⟩) hM (fun H locs hM => ?_)
    refine W_st (st' := [cr α 7 r_2.1]) rfl ?_
    obtain ⟨c_2, h⟩ := ko_of h
    refine c_castk C hM (k := 7) (Classical.not_not.mp c_2) (by decide) kl_X11_2 dX11_nodeOf_33 ?_
    refine W.widen (k := 1) (n := 6) (Nat.le_of_ble_eq_true rfl) (Nat.le_of_ble_eq_true rfl) ?_
    exact c_xr h (c_ra (k := 7) (v := r_2.1) (o := (r_2.1, r_2.2)) C hM (fun _ => rfl) hr rfl hlk dX11_nodeOf_36 rfl)
  · have h := br_T c_1 h
    exact c_throwW (k := 4) (text := "no such node") C hM (fun _ => rfl) hst hout hlk (by decide +kernel) cx_at4 cx_ot4 (wl_in (i := 715) (by decide +kernel)) (wl_in (i := 23) (by decide +kernel)) rfl dX11_nodeOf_11 dX11_nodeOf_14 dX11_nodeOf_15 dX11_nodeOf_18 dX11_nodeOf_21 hl.1 (Nat.le_of_ble_eq_true rfl) (Nat.le_of_ble_eq_true rfl) (Nat.le_of_ble_eq_true rfl) (Nat.le_of_ble_eq_true rfl) (Nat.le_of_ble_eq_true rfl) (Nat.le_of_ble_eq_true rfl) h
/-! Lorewick.parent(I)I -/
abbrev rc_X11_parent : Room := { frames := 7, cells := 2, slots := 12, locals := 123 }
def fc_X11_parent (σ : cS) (x1 : Int32) : Option ((Nat ⊕ Int32) × cS) :=
  xb (fc_X11_nodeOf σ x1) fun v_1 u_1 =>
  (dr u_1 7 v_1).bind fun i_2 =>
  if (cR u_1 7 i_2 1) = none then
    some (.inl 5, u_1)
  else
    (dr u_1 7 (cR u_1 7 i_2 1)).bind fun i_3 =>
    some (.inr (cI u_1 7 i_3 0), u_1)
set_option maxHeartbeats 4000000 in
set_option maxRecDepth 100000 in
theorem cc_X11_parent (l : Launch) (hst : l.stackTraces = false) (D : va_G) (ca : Nat → ClassId) (A : Nat → Prop) (α : cAl) (σ : cS) (x1 : Int32) (o : (Nat ⊕ Int32) × cS) (h : fc_X11_parent σ x1 = some o) : cMetX false l yX11_parent cX11_parent 3 ((some FieldType.int)) rc_X11_parent 2 12 D ca true A α σ [cr α 0 (some 0), .int x1] (o.1.map id (fun (v : Int32) _ => some (.int v))) o.2 := by
  refine vx_ofW (cc := cX11_parent) (maxL := 3) (ret := (some FieldType.int)) (by decide) rfl ?_
  intro p e s m args below meth c s₁ B hml hout hv
  obtain ⟨rfl, hP, hK, hD0, hSh, hA, hG⟩ := hv
  have C : cC p s m _ c cX11_parent 3 RX11 D ca A α := ⟨B.exec, B.bytes, hml, findClass_of_methodNamed B.named, fun w hw => atoms_spec (ws := mWs yX11_parent cX11_parent 3 ((some FieldType.int))) B.pre w (List.mem_cons_of_mem _ hw), hK, hG⟩
  have hM : cM D ca true A s.heap σ α σ α s.heap [] := ⟨hP, hD0, hSh, va_S.rf, hA, cX.rf⟩
  have h17 : 0 < cn σ 17 := c_17 hM
  have hr := B.returns
  have hlk := B.notSynchronized
  have hx := C.1
  have hb := C.2.1
  have hl := lv_entry ([cr α 0 (some 0), .int x1]) (n := 3) (Nat.le_of_ble_eq_true rfl)
  rw [lg_entry_eq]
  generalize (lg_sl ([cr α 0 (some 0), .int x1]) ++ List.replicate (3 - (lg_sl ([cr α 0 (some 0), .int x1])).length) Slot.unset).toArray = ls at hl ⊢
  have hl : lv_has ls 3 [(0, cr α 0 (some 0)), (1, .int x1)] := hl
  unfold fc_X11_parent at h
  refine c_aload_n (t := 0) (x := (some 0)) hx hb dX11_parent_0 rfl (lv_at hl 0 rfl) ?_
  refine lv_iload_n hx hb dX11_parent_1 rfl (lv_at hl 1 rfl) ?_
  obtain ⟨r_1, u_1, hr_1⟩ := xb_some h
  refine c_gox2 (T := (fun (v : Option Nat) α1 => some (cr α1 7 v))) (T2 := (fun (v : Int32) _ => some (.int v))) h hr_1 (c_rVx (As := [.int x1]) (rest := []) C hM h17 (hM.cst 0 0 rfl) (by decide) (cc_X11_nodeOf l hst D ca A α σ x1 _ hr_1) cw_X11_312 ⟨rfl, rfl⟩ ⟨Nat.le_of_ble_eq_true rfl, Nat.le_of_ble_eq_true rfl⟩ rfl rfl (cats_le _ (Nat.le_of_ble_eq_true rfl)) hl.1 dX11_parent_2 ⟨Nat.le_of_ble_eq_true rfl, Nat.le_of_ble_eq_true rfl⟩) C hM (fun _ => ⟨rfl, rfl⟩) hout hlk (Nat.le_of_ble_eq_true rfl) (Nat.le_of_ble_eq_true rfl) (fun v_1 H locs α9 hα h hX_1 hM => ?_)
  obtain rfl : α = α9 := (hα rfl).symm
  refine W_st (st' := [cr α 7 v_1]) rfl ?_
  obtain ⟨i_2, hd_2, h⟩ := bd_of h
  refine c_getrt C hM (k := 7) (f := 1) (t := 7) hd_2 (by decide) fl_X11_316 dX11_parent_5 ?_
  refine c_astore_n (t := 7) (x := (cR u_1 7 i_2 1)) (lv' := [(2, cr α 7 (cR u_1 7 i_2 1)), (0, cr α 0 (some 0)), (1, .int x1)]) hx hb dX11_parent_8 rfl hl (by decide) rfl (fun ls hl => ?_)
  refine c_aload_n (t := 7) (x := (cR u_1 7 i_2 1)) hx hb dX11_parent_9 rfl (lv_at hl 0 rfl) ?_
  refine c_ifnonnull (tgt := 24) hx hb dX11_parent_10 (by decide) (fun c_1 => ?_) (fun c_1 => ?_)
  · have h := br_F c_1 h
    refine c_aload_n (t := 7) (x := (cR u_1 7 i_2 1)) hx hb dX11_parent_24 rfl (lv_at hl 0 rfl) ?_
    obtain ⟨i_3, hd_3, h⟩ := bd_of h
    refine c_geti C hM (k := 7) (f := 0) hd_3 rfl fl_X11_325 dX11_parent_25 ?_
    refine W.widen (k := 2) (n := 12) (Nat.le_of_ble_eq_true rfl) (Nat.le_of_ble_eq_true rfl) ?_
    exact c_xr h (c_ri (o := ((cI u_1 7 i_3 0), u_1)) C hM (fun _ => rfl) hr hlk dX11_parent_28 rfl)
  · have h := br_T c_1 h
    exact c_throwW5 (text := "the node 0 has no parent") C hM (fun _ => rfl) hst hout hlk (by decide +kernel) (wl_in (i := 1244) (by decide +kernel)) (wl_in (i := 39) (by decide +kernel)) dX11_parent_13 dX11_parent_16 dX11_parent_17 dX11_parent_20 dX11_parent_23 hl.1 (Nat.le_of_ble_eq_true rfl) (Nat.le_of_ble_eq_true rfl) (Nat.le_of_ble_eq_true rfl) (Nat.le_of_ble_eq_true rfl) (Nat.le_of_ble_eq_true rfl) (Nat.le_of_ble_eq_true rfl) h
/-! Lorewick.depth(I)I -/
abbrev rc_X11_depth : Room := { frames := 7, cells := 1, slots := 6, locals := 123 }
def fc_X11_depth (σ : cS) (x1 : Int32) : Option ((Nat ⊕ Int32) × cS) :=
  xb (fc_X11_nodeOf σ x1) fun v_1 u_1 =>
  (dr u_1 7 v_1).bind fun i_2 =>
  (fc_X2_pathLength u_1 v_1).bind fun r_3 =>
  some (.inr r_3.1, r_3.2)
set_option maxHeartbeats 4000000 in
set_option maxRecDepth 100000 in
theorem cc_X11_depth (l : Launch) (hst : l.stackTraces = false) (D : va_G) (ca : Nat → ClassId) (A : Nat → Prop) (α : cAl) (σ : cS) (x1 : Int32) (o : (Nat ⊕ Int32) × cS) (h : fc_X11_depth σ x1 = some o) : cMetX false l yX11_depth cX11_depth 2 ((some FieldType.int)) rc_X11_depth 1 6 D ca true A α σ [cr α 0 (some 0), .int x1] (o.1.map id (fun (v : Int32) _ => some (.int v))) o.2 := by
  refine vx_ofW (cc := cX11_depth) (maxL := 2) (ret := (some FieldType.int)) (by decide) rfl ?_
  intro p e s m args below meth c s₁ B hml hout hv
  obtain ⟨rfl, hP, hK, hD0, hSh, hA, hG⟩ := hv
  have C : cC p s m _ c cX11_depth 2 RX11 D ca A α := ⟨B.exec, B.bytes, hml, findClass_of_methodNamed B.named, fun w hw => atoms_spec (ws := mWs yX11_depth cX11_depth 2 ((some FieldType.int))) B.pre w (List.mem_cons_of_mem _ hw), hK, hG⟩
  have hM : cM D ca true A s.heap σ α σ α s.heap [] := ⟨hP, hD0, hSh, va_S.rf, hA, cX.rf⟩
  have h17 : 0 < cn σ 17 := c_17 hM
  have hr := B.returns
  have hlk := B.notSynchronized
  have hx := C.1
  have hb := C.2.1
  have hl := lv_entry ([cr α 0 (some 0), .int x1]) (n := 2) (Nat.le_of_ble_eq_true rfl)
  rw [lg_entry_eq]
  generalize (lg_sl ([cr α 0 (some 0), .int x1]) ++ List.replicate (2 - (lg_sl ([cr α 0 (some 0), .int x1])).length) Slot.unset).toArray = ls at hl ⊢
  have hl : lv_has ls 2 [(0, cr α 0 (some 0)), (1, .int x1)] := hl
  unfold fc_X11_depth at h
  refine c_aload_n (t := 0) (x := (some 0)) hx hb dX11_depth_0 rfl (lv_at hl 0 rfl) ?_
  refine lv_iload_n hx hb dX11_depth_1 rfl (lv_at hl 1 rfl) ?_
  obtain ⟨r_1, u_1, hr_1⟩ := xb_some h
  refine c_gox2 (T := (fun (v : Option Nat) α1 => some (cr α1 7 v))) (T2 := (fun (v : Int32) _ => some (.int v))) h hr_1 (c_rVx (As := [.int x1]) (rest := []) C hM h17 (hM.cst 0 0 rfl) (by decide) (cc_X11_nodeOf l hst D ca A α σ x1 _ hr_1) cw_X11_312 ⟨rfl, rfl⟩ ⟨Nat.le_of_ble_eq_true rfl, Nat.le_of_ble_eq_true rfl⟩ rfl rfl (cats_le _ (Nat.le_of_ble_eq_true rfl)) hl.1 dX11_depth_2 ⟨Nat.le_of_ble_eq_true rfl, Nat.le_of_ble_eq_true rfl⟩) C hM (fun _ => ⟨rfl, rfl⟩) hout hlk (Nat.le_of_ble_eq_true rfl) (Nat.le_of_ble_eq_true rfl) (fun v_1 H locs α9 hα h hX_1 hM => ?_)
  obtain rfl : α = α9 := (hα rfl).symm
  refine W_st (st' := [cr α 7 v_1]) rfl ?_
  obtain ⟨i_2, hd_2, h⟩ := bd_of h
  obtain ⟨r_3, hr_3, h⟩ := bd_of h
  refine c_go0 (c_rV (As := []) (rest := []) C hM h17 hd_2 (by decide) (cc_X2_pathLength l D ca A α u_1 v_1 _ hr_3) cw_X11_328 ⟨rfl, rfl⟩ ⟨Nat.le_of_ble_eq_true rfl, Nat.le_of_ble_eq_true rfl⟩ rfl rfl (cats_le _ (Nat.le_of_ble_eq_true rfl)) hl.1 dX11_depth_5 ⟨Nat.le_of_ble_eq_true rfl, Nat.le_of_ble_eq_true rfl⟩) hM (fun H locs hM => ?_)
  refine W_st (st' := [.int r_3.1]) rfl ?_
  exact c_xr h (c_ri (o := (r_3.1, r_3.2)) C hM (fun _ => rfl) hr hlk dX11_depth_8 rfl)
/-! Lorewick.children(I)I -/
abbrev rc_X11_children : Room := { frames := 7, cells := 1, slots := 6, locals := 126 }
def fc_X11_children (σ : cS) (x1 : Int32) : Option ((Nat ⊕ Int32) × cS) :=
  xb (fc_X11_nodeOf σ x1) fun v_1 u_1 =>
  (dr u_1 7 v_1).bind fun i_2 =>
  (fc_X8_childCount u_1 (cI u_1 7 i_2 0)).bind fun r_3 =>
  some (.inr r_3.1, r_3.2)
set_option maxHeartbeats 4000000 in
set_option maxRecDepth 100000 in
theorem cc_X11_children (l : Launch) (hst : l.stackTraces = false) (D : va_G) (ca : Nat → ClassId) (A : Nat → Prop) (α : cAl) (σ : cS) (x1 : Int32) (o : (Nat ⊕ Int32) × cS) (h : fc_X11_children σ x1 = some o) : cMetX false l yX11_children cX11_children 2 ((some FieldType.int)) rc_X11_children 1 6 D ca true A α σ [cr α 0 (some 0), .int x1] (o.1.map id (fun (v : Int32) _ => some (.int v))) o.2 := by
  refine vx_ofW (cc := cX11_children) (maxL := 2) (ret := (some FieldType.int)) (by decide) rfl ?_
  intro p e s m args below meth c s₁ B hml hout hv
  obtain ⟨rfl, hP, hK, hD0, hSh, hA, hG⟩ := hv
  have C : cC p s m _ c cX11_children 2 RX11 D ca A α := ⟨B.exec, B.bytes, hml, findClass_of_methodNamed B.named, fun w hw => atoms_spec (ws := mWs yX11_children cX11_children 2 ((some FieldType.int))) B.pre w (List.mem_cons_of_mem _ hw), hK, hG⟩
  have hM : cM D ca true A s.heap σ α σ α s.heap [] := ⟨hP, hD0, hSh, va_S.rf, hA, cX.rf⟩
  have h17 : 0 < cn σ 17 := c_17 hM
  have hr := B.returns
  have hlk := B.notSynchronized
  have hx := C.1
  have hb := C.2.1
  have hl := lv_entry ([cr α 0 (some 0), .int x1]) (n := 2) (Nat.le_of_ble_eq_true rfl)
  rw [lg_entry_eq]
  generalize (lg_sl ([cr α 0 (some 0), .int x1]) ++ List.replicate (2 - (lg_sl ([cr α 0 (some 0), .int x1])).length) Slot.unset).toArray = ls at hl ⊢
  have hl : lv_has ls 2 [(0, cr α 0 (some 0)), (1, .int x1)] := hl
  unfold fc_X11_children at h
  refine c_aload_n (t := 0) (x := (some 0)) hx hb dX11_children_0 rfl (lv_at hl 0 rfl) ?_
  refine c_getb C hM (k := 0) (f := 3) (j := 0) (t := 4) (hM.cst 0 0 rfl) (by decide) fl_X11_41 dX11_children_1 ?_
  refine c_aload_n (t := 0) (x := (some 0)) hx hb dX11_children_4 rfl (lv_at hl 0 rfl) ?_
  refine lv_iload_n hx hb dX11_children_5 rfl (lv_at hl 1 rfl) ?_
  obtain ⟨r_1, u_1, hr_1⟩ := xb_some h
  refine c_gox2 (T := (fun (v : Option Nat) α1 => some (cr α1 7 v))) (T2 := (fun (v : Int32) _ => some (.int v))) h hr_1 (c_rVx (As := [.int x1]) (rest := [cr α 4 (some 0)]) C hM h17 (hM.cst 0 0 rfl) (by decide) (cc_X11_nodeOf l hst D ca A α σ x1 _ hr_1) cw_X11_312 ⟨rfl, rfl⟩ ⟨Nat.le_of_ble_eq_true rfl, Nat.le_of_ble_eq_true rfl⟩ rfl rfl (cats_le _ (Nat.le_of_ble_eq_true rfl)) hl.1 dX11_children_6 ⟨Nat.le_of_ble_eq_true rfl, Nat.le_of_ble_eq_true rfl⟩) C hM (fun _ => ⟨rfl, rfl⟩) hout hlk (Nat.le_of_ble_eq_true rfl) (Nat.le_of_ble_eq_true rfl) (fun v_1 H locs α9 hα h hX_1 hM => ?_)
  obtain rfl : α = α9 := (hα rfl).symm
  refine W_st (st' := [cr α 7 v_1, cr α 4 (some 0)]) rfl ?_
  obtain ⟨i_2, hd_2, h⟩ := bd_of h
  refine c_geti C hM (k := 7) (f := 0) hd_2 rfl fl_X11_325 dX11_children_9 ?_
  obtain ⟨r_3, hr_3, h⟩ := bd_of h
  refine c_go0 (c_rV (As := [.int (cI u_1 7 i_2 0)]) (rest := []) C hM h17 (hM.cst 4 0 rfl) (by decide) (cc_X8_childCount l D ca A α u_1 (cI u_1 7 i_2 0) _ hr_3) cw_X11_331 ⟨rfl, rfl⟩ ⟨Nat.le_of_ble_eq_true rfl, Nat.le_of_ble_eq_true rfl⟩ rfl rfl (cats_le _ (Nat.le_of_ble_eq_true rfl)) hl.1 dX11_children_12 ⟨Nat.le_of_ble_eq_true rfl, Nat.le_of_ble_eq_true rfl⟩) hM (fun H locs hM => ?_)
  refine W_st (st' := [.int r_3.1]) rfl ?_
  exact c_xr h (c_ri (o := (r_3.1, r_3.2)) C hM (fun _ => rfl) hr hlk dX11_children_15 rfl)
/-! Lorewick.common(II)I -/
abbrev rc_X11_common : Room := { frames := 7, cells := 2, slots := 12, locals := 123 }
def fc_X11_common (σ : cS) (x1 : Int32) (x2 : Int32) : Option ((Nat ⊕ Int32) × cS) :=
  xb (fc_X11_nodeOf σ x1) fun v_1 u_1 =>
  xb (fc_X11_nodeOf u_1 x2) fun v_2 u_2 =>
  (dr u_2 7 v_1).bind fun i_3 =>
  (fc_X2_lastInCommon u_2 v_1 v_2).bind fun r_4 =>
  some (.inr r_4.1, r_4.2)
set_option maxHeartbeats 4000000 in
set_option maxRecDepth 100000 in
theorem cc_X11_common (l : Launch) (hst : l.stackTraces = false) (D : va_G) (ca : Nat → ClassId) (A : Nat → Prop) (α : cAl) (σ : cS) (x1 : Int32) (x2 : Int32) (o : (Nat ⊕ Int32) × cS) (h : fc_X11_common σ x1 x2 = some o) : cMetX false l yX11_common cX11_common 4 ((some FieldType.int)) rc_X11_common 2 12 D ca true A α σ [cr α 0 (some 0), .int x1, .int x2] (o.1.map id (fun (v : Int32) _ => some (.int v))) o.2 := by
  refine vx_ofW (cc := cX11_common) (maxL := 4) (ret := (some FieldType.int)) (by decide) rfl ?_
  intro p e s m args below meth c s₁ B hml hout hv
  obtain ⟨rfl, hP, hK, hD0, hSh, hA, hG⟩ := hv
  have C : cC p s m _ c cX11_common 4 RX11 D ca A α := ⟨B.exec, B.bytes, hml, findClass_of_methodNamed B.named, fun w hw => atoms_spec (ws := mWs yX11_common cX11_common 4 ((some FieldType.int))) B.pre w (List.mem_cons_of_mem _ hw), hK, hG⟩
  have hM : cM D ca true A s.heap σ α σ α s.heap [] := ⟨hP, hD0, hSh, va_S.rf, hA, cX.rf⟩
  have h17 : 0 < cn σ 17 := c_17 hM
  have hr := B.returns
  have hlk := B.notSynchronized
  have hx := C.1
  have hb := C.2.1
  have hl := lv_entry ([cr α 0 (some 0), .int x1, .int x2]) (n := 4) (Nat.le_of_ble_eq_true rfl)
  rw [lg_entry_eq]
  generalize (lg_sl ([cr α 0 (some 0), .int x1, .int x2]) ++ List.replicate (4 - (lg_sl ([cr α 0 (some 0), .int x1, .int x2])).length) Slot.unset).toArray = ls at hl ⊢
  have hl : lv_has ls 4 [(0, cr α 0 (some 0)), (1, .int x1), (2, .int x2)] := hl
  unfold fc_X11_common at h
  refine c_aload_n (t := 0) (x := (some 0)) hx hb dX11_common_0 rfl (lv_at hl 0 rfl) ?_
  refine lv_iload_n hx hb dX11_common_1 rfl (lv_at hl 1 rfl) ?_
  obtain ⟨r_1, u_1, hr_1⟩ := xb_some h
  refine c_gox2 (T := (fun (v : Option Nat) α1 => some (cr α1 7 v))) (T2 := (fun (v : Int32) _ => some (.int v))) h hr_1 (c_rVx (As := [.int x1]) (rest := []) C hM h17 (hM.cst 0 0 rfl) (by decide) (cc_X11_nodeOf l hst D ca A α σ x1 _ hr_1) cw_X11_312 ⟨rfl, rfl⟩ ⟨Nat.le_of_ble_eq_true rfl, Nat.le_of_ble_eq_true rfl⟩ rfl rfl (cats_le _ (Nat.le_of_ble_eq_true rfl)) hl.1 dX11_common_2 ⟨Nat.le_of_ble_eq_true rfl, Nat.le_of_ble_eq_true rfl⟩) C hM (fun _ => ⟨rfl, rfl⟩) hout hlk (Nat.le_of_ble_eq_true rfl) (Nat.le_of_ble_eq_true rfl) (fun v_1 H locs α9 hα h hX_1 hM => ?_)
  obtain rfl : α = α9 := (hα rfl).symm
  refine W_st (st' := [cr α 7 v_1]) rfl ?_
  refine c_astore_n (t := 7) (x := v_1) (lv' := [(3, cr α 7 v_1), (0, cr α 0 (some 0)), (1, .int x1), (2, .int x2)]) hx hb dX11_common_5 rfl hl (by decide) rfl (fun ls hl => ?_)
  refine c_aload_n (t := 7) (x := v_1) hx hb dX11_common_6 rfl (lv_at hl 0 rfl) ?_
  refine c_aload_n (t := 0) (x := (some 0)) hx hb dX11_common_7 rfl (lv_at hl 1 rfl) ?_
  refine lv_iload_n hx hb dX11_common_8 rfl (lv_at hl 3 rfl) ?_
  obtain ⟨r_2, u_2, hr_2⟩ := xb_some h
  refine c_gox2 (T := (fun (v : Option Nat) α1 => some (cr α1 7 v))) (T2 := (fun (v : Int32) _ => some (.int v))) h hr_2 (c_rVx (As := [.int x2]) (rest := [cr α 7 v_1]) C hM h17 (hM.cst 0 0 rfl) (by decide) (cc_X11_nodeOf l hst D ca A α u_1 x2 _ hr_2) cw_X11_312 ⟨rfl, rfl⟩ ⟨Nat.le_of_ble_eq_true rfl, Nat.le_of_ble_eq_true rfl⟩ rfl rfl (cats_le _ (Nat.le_of_ble_eq_true rfl)) hl.1 dX11_common_9 ⟨Nat.le_of_ble_eq_true rfl, Nat.le_of_ble_eq_true rfl⟩) C hM (fun _ => ⟨rfl, rfl⟩) hout hlk (Nat.le_of_ble_eq_true rfl) (Nat.le_of_ble_eq_true rfl) (fun v_2 H locs α9 hα h hX_2 hM => ?_)
  obtain rfl : α = α9 := (hα rfl).symm
  refine W_st (st' := [cr α 7 v_2, cr α 7 v_1]) rfl ?_
  obtain ⟨i_3, hd_3, h⟩ := bd_of h
  obtain ⟨r_4, hr_4, h⟩ := bd_of h
  refine c_go0 (c_rV (As := [cr α 7 v_2]) (rest := []) C hM h17 hd_3 (by decide) (cc_X2_lastInCommon l D ca A α u_2 v_1 v_2 _ hr_4) cw_X11_334 ⟨rfl, rfl⟩ ⟨Nat.le_of_ble_eq_true rfl, Nat.le_of_ble_eq_true rfl⟩ rfl rfl (cats_le _ (Nat.le_of_ble_eq_true rfl)) hl.1 dX11_common_12 ⟨Nat.le_of_ble_eq_true rfl, Nat.le_of_ble_eq_true rfl⟩) hM (fun H locs hM => ?_)
  refine W_st (st' := [.int r_4.1]) rfl ?_
  exact c_xr h (c_ri (o := (r_4.1, r_4.2)) C hM (fun _ => rfl) hr hlk dX11_common_15 rfl)
/-! Lorewick.undo()I -/
abbrev rc_X11_undo : Room := { frames := 7, cells := 2, slots := 12, locals := 122 }
def fc_X11_undo (σ : cS) : Option ((Nat ⊕ Int32) × cS) :=
  xb (fc_X11_needPlay σ) fun v_1 u_1 =>
  (fc_X8_current u_1).bind fun r_2 =>
  (dr r_2.2 7 r_2.1).bind fun i_3 =>
  if (cR r_2.2 7 i_3 1) = none then
    some (.inl 5, r_2.2)
  else
    (dr r_2.2 7 (cR r_2.2 7 i_3 1)).bind fun i_4 =>
    some (.inr (cI (uI r_2.2 4 0 2 (cI r_2.2 7 i_4 0)) 4 0 2), (uI r_2.2 4 0 2 (cI r_2.2 7 i_4 0)))
set_option maxHeartbeats 4000000 in
set_option maxRecDepth 100000 in
theorem cc_X11_undo (l : Launch) (hst : l.stackTraces = false) (D : va_G) (ca : Nat → ClassId) (A : Nat → Prop) (α : cAl) (σ : cS) (o : (Nat ⊕ Int32) × cS) (h : fc_X11_undo σ  = some o) : cMetX false l yX11_undo cX11_undo 2 ((some FieldType.int)) rc_X11_undo 2 12 D ca true A α σ [cr α 0 (some 0)] (o.1.map id (fun (v : Int32) _ => some (.int v))) o.2 := by
  refine vx_ofW (cc := cX11_undo) (maxL := 2) (ret := (some FieldType.int)) (by decide) rfl ?_
  intro p e s m args below meth c s₁ B hml hout hv
  obtain ⟨rfl, hP, hK, hD0, hSh, hA, hG⟩ := hv
  have C : cC p s m _ c cX11_undo 2 RX11 D ca A α := ⟨B.exec, B.bytes, hml, findClass_of_methodNamed B.named, fun w hw => atoms_spec (ws := mWs yX11_undo cX11_undo 2 ((some FieldType.int))) B.pre w (List.mem_cons_of_mem _ hw), hK, hG⟩
  have hM : cM D ca true A s.heap σ α σ α s.heap [] := ⟨hP, hD0, hSh, va_S.rf, hA, cX.rf⟩
  have h17 : 0 < cn σ 17 := c_17 hM
  have hr := B.returns
  have hlk := B.notSynchronized
  have hx := C.1
  have hb := C.2.1
  have hl := lv_entry ([cr α 0 (some 0)]) (n := 2) (Nat.le_of_ble_eq_true rfl)
  rw [lg_entry_eq]
  generalize (lg_sl ([cr α 0 (some 0)]) ++ List.replicate (2 - (lg_sl ([cr α 0 (some 0)])).length) Slot.unset).toArray = ls at hl ⊢
  have hl : lv_has ls 2 [(0, cr α 0 (some 0))] := hl
  unfold fc_X11_undo at h
  refine c_aload_n (t := 0) (x := (some 0)) hx hb dX11_undo_0 rfl (lv_at hl 0 rfl) ?_
  obtain ⟨r_1, u_1, hr_1⟩ := xb_some h
  refine c_gox2 (T := (fun (_ : Unit) _ => none)) (T2 := (fun (v : Int32) _ => some (.int v))) h hr_1 (c_rVx (As := []) (rest := []) C hM h17 (hM.cst 0 0 rfl) (by decide) (cc_X11_needPlay l hst D ca A α σ _ hr_1) cw_X11_260 ⟨rfl, rfl⟩ ⟨Nat.le_of_ble_eq_true rfl, Nat.le_of_ble_eq_true rfl⟩ rfl rfl (cats_le _ (Nat.le_of_ble_eq_true rfl)) hl.1 dX11_undo_1 ⟨Nat.le_of_ble_eq_true rfl, Nat.le_of_ble_eq_true rfl⟩) C hM (fun _ => ⟨rfl, rfl⟩) hout hlk (Nat.le_of_ble_eq_true rfl) (Nat.le_of_ble_eq_true rfl) (fun v_1 H locs α9 hα h hX_1 hM => ?_)
  obtain rfl : α = α9 := (hα rfl).symm
  refine W_st (st' := []) rfl ?_
  refine c_aload_n (t := 0) (x := (some 0)) hx hb dX11_undo_4 rfl (lv_at hl 0 rfl) ?_
  refine c_getb C hM (k := 0) (f := 3) (j := 0) (t := 4) (hM.cst 0 0 rfl) (by decide) fl_X11_41 dX11_undo_5 ?_
  obtain ⟨r_2, hr_2, h⟩ := bd_of h
  refine c_go0 (c_rV (As := []) (rest := []) C hM h17 (hM.cst 4 0 rfl) (by decide) (cc_X8_current l D ca A α u_1 _ hr_2) cw_X11_338 ⟨rfl, rfl⟩ ⟨Nat.le_of_ble_eq_true rfl, Nat.le_of_ble_eq_true rfl⟩ rfl rfl (cats_le _ (Nat.le_of_ble_eq_true rfl)) hl.1 dX11_undo_8 ⟨Nat.le_of_ble_eq_true rfl, Nat.le_of_ble_eq_true rfl⟩) hM (fun H locs hM => ?_)
  refine W_st (st' := [cr α 7 r_2.1]) rfl ?_
  obtain ⟨i_3, hd_3, h⟩ := bd_of h
  refine c_getrt C hM (k := 7) (f := 1) (t := 7) hd_3 (by decide) fl_X11_316 dX11_undo_11 ?_
  refine c_astore_n (t := 7) (x := (cR r_2.2 7 i_3 1)) (lv' := [(1, cr α 7 (cR r_2.2 7 i_3 1)), (0, cr α 0 (some 0))]) hx hb dX11_undo_14 rfl hl (by decide) rfl (fun ls hl => ?_)
  refine c_aload_n (t := 7) (x := (cR r_2.2 7 i_3 1)) hx hb dX11_undo_15 rfl (lv_at hl 0 rfl) ?_
  refine c_ifnonnull (tgt := 30) hx hb dX11_undo_16 (by decide) (fun c_1 => ?_) (fun c_1 => ?_)
  · have h := br_F c_1 h
    refine c_aload_n (t := 0) (x := (some 0)) hx hb dX11_undo_30 rfl (lv_at hl 1 rfl) ?_
    refine c_getb C hM (k := 0) (f := 3) (j := 0) (t := 4) (hM.cst 0 0 rfl) (by decide) fl_X11_41 dX11_undo_31 ?_
    refine c_aload_n (t := 7) (x := (cR r_2.2 7 i_3 1)) hx hb dX11_undo_34 rfl (lv_at hl 0 rfl) ?_
    obtain ⟨i_4, hd_4, h⟩ := bd_of h
    refine c_geti C hM (k := 7) (f := 0) hd_4 rfl fl_X11_325 dX11_undo_35 ?_
    refine c_puti C hM (k := 4) (f := 2) (hM.cst 4 0 rfl) rfl fl_X11_300 (Or.inl rfl) dX11_undo_38 (fun H locs hM => ?_)
    refine c_aload_n (t := 0) (x := (some 0)) hx hb dX11_undo_41 rfl (lv_at hl 1 rfl) ?_
    refine c_getb C hM (k := 0) (f := 3) (j := 0) (t := 4) (hM.cst 0 0 rfl) (by decide) fl_X11_41 dX11_undo_42 ?_
    refine c_geti C hM (k := 4) (f := 2) (hM.cst 4 0 rfl) rfl fl_X11_300 dX11_undo_45 ?_
    refine W.widen (k := 2) (n := 12) (Nat.le_of_ble_eq_true rfl) (Nat.le_of_ble_eq_true rfl) ?_
    exact c_xr h (c_ri (o := ((cI (uI r_2.2 4 0 2 (cI r_2.2 7 i_4 0)) 4 0 2), (uI r_2.2 4 0 2 (cI r_2.2 7 i_4 0)))) C hM (fun _ => rfl) hr hlk dX11_undo_48 rfl)
  · have h := br_T c_1 h
    exact c_throwW5 (text := "play is at the node 0") C hM (fun _ => rfl) hst hout hlk (by decide +kernel) (wl_in (i := 1244) (by decide +kernel)) (wl_in (i := 39) (by decide +kernel)) dX11_undo_19 dX11_undo_22 dX11_undo_23 dX11_undo_26 dX11_undo_29 hl.1 (Nat.le_of_ble_eq_true rfl) (Nat.le_of_ble_eq_true rfl) (Nat.le_of_ble_eq_true rfl) (Nat.le_of_ble_eq_true rfl) (Nat.le_of_ble_eq_true rfl) (Nat.le_of_ble_eq_true rfl) h
/-! Lorewick.redo(I)I -/
abbrev rc_X11_redo : Room := { frames := 7, cells := 2, slots := 12, locals := 146 }
def fc_X11_redo (σ : cS) (x1 : Int32) : Option ((Nat ⊕ Int32) × cS) :=
  xb (fc_X11_needPlay σ) fun v_1 u_1 =>
  (fc_X8_childAt u_1 x1).bind fun r_2 =>
  if r_2.1 = (-1 : Int32) then
    some (.inl 5, r_2.2)
  else
    some (.inr r_2.1, (uI r_2.2 4 0 2 r_2.1))
set_option maxHeartbeats 4000000 in
set_option maxRecDepth 100000 in
theorem cc_X11_redo (l : Launch) (hst : l.stackTraces = false) (D : va_G) (ca : Nat → ClassId) (A : Nat → Prop) (α : cAl) (σ : cS) (x1 : Int32) (o : (Nat ⊕ Int32) × cS) (h : fc_X11_redo σ x1 = some o) : cMetX false l yX11_redo cX11_redo 3 ((some FieldType.int)) rc_X11_redo 2 12 D ca true A α σ [cr α 0 (some 0), .int x1] (o.1.map id (fun (v : Int32) _ => some (.int v))) o.2 := by
  refine vx_ofW (cc := cX11_redo) (maxL := 3) (ret := (some FieldType.int)) (by decide) rfl ?_
  intro p e s m args below meth c s₁ B hml hout hv
  obtain ⟨rfl, hP, hK, hD0, hSh, hA, hG⟩ := hv
  have C : cC p s m _ c cX11_redo 3 RX11 D ca A α := ⟨B.exec, B.bytes, hml, findClass_of_methodNamed B.named, fun w hw => atoms_spec (ws := mWs yX11_redo cX11_redo 3 ((some FieldType.int))) B.pre w (List.mem_cons_of_mem _ hw), hK, hG⟩
  have hM : cM D ca true A s.heap σ α σ α s.heap [] := ⟨hP, hD0, hSh, va_S.rf, hA, cX.rf⟩
  have h17 : 0 < cn σ 17 := c_17 hM
  have hr := B.returns
  have hlk := B.notSynchronized
  have hx := C.1
  have hb := C.2.1
  have hl := lv_entry ([cr α 0 (some 0), .int x1]) (n := 3) (Nat.le_of_ble_eq_true rfl)
  rw [lg_entry_eq]
  generalize (lg_sl ([cr α 0 (some 0), .int x1]) ++ List.replicate (3 - (lg_sl ([cr α 0 (some 0), .int x1])).length) Slot.unset).toArray = ls at hl ⊢
  have hl : lv_has ls 3 [(0, cr α 0 (some 0)), (1, .int x1)] := hl
  unfold fc_X11_redo at h
  refine c_aload_n (t := 0) (x := (some 0)) hx hb dX11_redo_0 rfl (lv_at hl 0 rfl) ?_
  obtain ⟨r_1, u_1, hr_1⟩ := xb_some h
  refine c_gox2 (T := (fun (_ : Unit) _ => none)) (T2 := (fun (v : Int32) _ => some (.int v))) h hr_1 (c_rVx (As := []) (rest := []) C hM h17 (hM.cst 0 0 rfl) (by decide) (cc_X11_needPlay l hst D ca A α σ _ hr_1) cw_X11_260 ⟨rfl, rfl⟩ ⟨Nat.le_of_ble_eq_true rfl, Nat.le_of_ble_eq_true rfl⟩ rfl rfl (cats_le _ (Nat.le_of_ble_eq_true rfl)) hl.1 dX11_redo_1 ⟨Nat.le_of_ble_eq_true rfl, Nat.le_of_ble_eq_true rfl⟩) C hM (fun _ => ⟨rfl, rfl⟩) hout hlk (Nat.le_of_ble_eq_true rfl) (Nat.le_of_ble_eq_true rfl) (fun v_1 H locs α9 hα h hX_1 hM => ?_)
  obtain rfl : α = α9 := (hα rfl).symm
  refine W_st (st' := []) rfl ?_
  refine c_aload_n (t := 0) (x := (some 0)) hx hb dX11_redo_4 rfl (lv_at hl 0 rfl) ?_
  refine c_getb C hM (k := 0) (f := 3) (j := 0) (t := 4) (hM.cst 0 0 rfl) (by decide) fl_X11_41 dX11_redo_5 ?_
  refine lv_iload_n hx hb dX11_redo_8 rfl (lv_at hl 1 rfl) ?_
  obtain ⟨r_2, hr_2, h⟩ := bd_of h
  refine c_go0 (c_rV (As := [.int x1]) (rest := []) C hM h17 (hM.cst 4 0 rfl) (by decide) (cc_X8_childAt l D ca A α u_1 x1 _ hr_2) cw_X11_344 ⟨rfl, rfl⟩ ⟨Nat.le_of_ble_eq_true rfl, Nat.le_of_ble_eq_true rfl⟩ rfl rfl (cats_le _ (Nat.le_of_ble_eq_true rfl)) hl.1 dX11_redo_9 ⟨Nat.le_of_ble_eq_true rfl, Nat.le_of_ble_eq_true rfl⟩) hM (fun H locs hM => ?_)
  refine W_st (st' := [.int r_2.1]) rfl ?_
  refine lv_istore_n (lv' := [(2, .int r_2.1), (0, cr α 0 (some 0)), (1, .int x1)]) hx hb dX11_redo_12 rfl hl (by decide) rfl (fun ls hl => ?_)
  refine lv_iload_n hx hb dX11_redo_13 rfl (lv_at hl 0 rfl) ?_
  refine lv_iconst (v := (-1 : Int32)) hx hb dX11_redo_14 (by decide) ?_
  refine lv_icmp_ne (tgt := 29) hx hb dX11_redo_15 (by decide) (fun c_1 => ?_) (fun c_1 => ?_)
  · have h := br_F c_1 h
    refine c_aload_n (t := 0) (x := (some 0)) hx hb dX11_redo_29 rfl (lv_at hl 1 rfl) ?_
    refine c_getb C hM (k := 0) (f := 3) (j := 0) (t := 4) (hM.cst 0 0 rfl) (by decide) fl_X11_41 dX11_redo_30 ?_
    refine lv_iload_n hx hb dX11_redo_33 rfl (lv_at hl 0 rfl) ?_
    refine c_puti C hM (k := 4) (f := 2) (hM.cst 4 0 rfl) rfl fl_X11_300 (Or.inl rfl) dX11_redo_34 (fun H locs hM => ?_)
    refine lv_iload_n hx hb dX11_redo_37 rfl (lv_at hl 0 rfl) ?_
    refine W.widen (k := 2) (n := 12) (Nat.le_of_ble_eq_true rfl) (Nat.le_of_ble_eq_true rfl) ?_
    exact c_xr h (c_ri (o := (r_2.1, (uI r_2.2 4 0 2 r_2.1))) C hM (fun _ => rfl) hr hlk dX11_redo_38 rfl)
  · have h := br_T c_1 h
    exact c_throwW5 (text := "no such child") C hM (fun _ => rfl) hst hout hlk (by decide +kernel) (wl_in (i := 1244) (by decide +kernel)) (wl_in (i := 39) (by decide +kernel)) dX11_redo_18 dX11_redo_21 dX11_redo_22 dX11_redo_25 dX11_redo_28 hl.1 (Nat.le_of_ble_eq_true rfl) (Nat.le_of_ble_eq_true rfl) (Nat.le_of_ble_eq_true rfl) (Nat.le_of_ble_eq_true rfl) (Nat.le_of_ble_eq_true rfl) (Nat.le_of_ble_eq_true rfl) h
/-! Lorewick.name()I -/
abbrev rc_X11_name : Room := { frames := 7, cells := 2, slots := 12, locals := 125 }
def fc_X11_name_64 (σ : cS) (x1 : Int64) : Option ((Nat ⊕ Int32) × cS) :=
    (fc_X8_current σ).bind fun r_1 =>
    (dr r_1.2 7 r_1.1).bind fun i_2 =>
    (fc_X8_labelCount (uI (uJ r_1.2 7 i_2 5 x1) 1 0 3 (0 : Int32))).bind fun r_3 =>
    some (.inr r_3.1, r_3.2)
set_option maxHeartbeats 4000000 in
set_option maxRecDepth 100000 in
theorem gc_X11_name_64 {p : Program} {l : Launch} {e : Env} {s : State} {m : MethodId} {args : Array Value} {below : List Frame} {meth : Method} {c : Code} {D : va_G} {ca : Nat → ClassId} {A : Nat → Prop} {σ0 : cS} {α : cAl} {o : (Nat ⊕ Int32) × cS} (C : cC p s m args c cX11_name 4 RX11 D ca A α) (hr : meth.sig.returnType = (some FieldType.int)) (hlk : meth.locks = false) (h17 : 0 < cn σ0 17) (hst : l.stackTraces = false) (hout : ∀ x ∈ c.exceptionTable.toList, False) : ∀ (σ : cS) (x1 : Int64) (H : Heap) (locs : List Loc) (ls : Array Slot), cM D ca true A s.heap σ0 α σ α H locs → lv_has ls 4 [(0, cr α 0 (some 0)), (1, .long x1)] → fc_X11_name_64 σ x1 = some o → W p l e rc_X11_name s m args below meth c H locs 1 6 (vx_MQ below (cQx false D ca true A α σ0 (o.1.map id (fun (v : Int32) _ => some (.int v))) o.2) (cXC false D ca true A α σ0 (o.1.map id (fun (v : Int32) _ => some (.int v))) o.2) args s 2 12 A) (F0 m 64 ls []) := by
  have hx := C.1
  have hb := C.2.1
  intro σ x1 H locs ls hM hl h
  unfold fc_X11_name_64 at h
  refine c_aload_n (t := 0) (x := (some 0)) hx hb dX11_name_64 rfl (lv_at hl 0 rfl) ?_
  refine c_getb C hM (k := 0) (f := 3) (j := 0) (t := 4) (hM.cst 0 0 rfl) (by decide) fl_X11_41 dX11_name_65 ?_
  obtain ⟨r_1, hr_1, h⟩ := bd_of h
  refine c_go0 (c_rV (As := []) (rest := []) C hM h17 (hM.cst 4 0 rfl) (by decide) (cc_X8_current l D ca A α σ _ hr_1) cw_X11_338 ⟨rfl, rfl⟩ ⟨Nat.le_of_ble_eq_true rfl, Nat.le_of_ble_eq_true rfl⟩ rfl rfl (cats_le _ (Nat.le_of_ble_eq_true rfl)) hl.1 dX11_name_68 ⟨Nat.le_of_ble_eq_true rfl, Nat.le_of_ble_eq_true rfl⟩) hM (fun H locs hM => ?_)
  refine W_st (st' := [cr α 7 r_1.1]) rfl ?_
  refine lv_lload_n hx hb dX11_name_71 rfl (lv_at hl 1 rfl) ?_
  obtain ⟨i_2, hd_2, h⟩ := bd_of h
  refine c_putl C hM (k := 7) (f := 5) hd_2 rfl fl_X11_354 (Or.inl rfl) dX11_name_72 (fun H locs hM => ?_)
  refine c_aload_n (t := 0) (x := (some 0)) hx hb dX11_name_75 rfl (lv_at hl 0 rfl) ?_
  refine c_getb C hM (k := 0) (f := 0) (j := 0) (t := 1) (hM.cst 0 0 rfl) (by decide) fl_X11_18 dX11_name_76 ?_
  refine lv_iconst (v := (0 : Int32)) hx hb dX11_name_79 (by decide) ?_
  refine c_puti C hM (k := 1) (f := 3) (hM.cst 1 0 rfl) rfl fl_X11_73 (Or.inl rfl) dX11_name_80 (fun H locs hM => ?_)
  refine c_aload_n (t := 0) (x := (some 0)) hx hb dX11_name_83 rfl (lv_at hl 0 rfl) ?_
  refine c_getb C hM (k := 0) (f := 3) (j := 0) (t := 4) (hM.cst 0 0 rfl) (by decide) fl_X11_41 dX11_name_84 ?_
  obtain ⟨r_3, hr_3, h⟩ := bd_of h
  refine c_go0 (c_rV (As := []) (rest := []) C hM h17 (hM.cst 4 0 rfl) (by decide) (cc_X8_labelCount l D ca A α (uI (uJ r_1.2 7 i_2 5 x1) 1 0 3 (0 : Int32)) _ hr_3) cw_X11_358 ⟨rfl, rfl⟩ ⟨Nat.le_of_ble_eq_true rfl, Nat.le_of_ble_eq_true rfl⟩ rfl rfl (cats_le _ (Nat.le_of_ble_eq_true rfl)) hl.1 dX11_name_87 ⟨Nat.le_of_ble_eq_true rfl, Nat.le_of_ble_eq_true rfl⟩) hM (fun H locs hM => ?_)
  refine W_st (st' := [.int r_3.1]) rfl ?_
  refine W.widen (k := 2) (n := 12) (Nat.le_of_ble_eq_true rfl) (Nat.le_of_ble_eq_true rfl) ?_
  exact c_xr h (c_ri (o := (r_3.1, r_3.2)) C hM (fun _ => rfl) hr hlk dX11_name_90 rfl)
def fc_X11_name (σ : cS) : Option ((Nat ⊕ Int32) × cS) :=
  xb (fc_X11_needPlay σ) fun v_1 u_1 =>
  (fc_X7_lettersOfAll u_1).bind fun r_2 =>
  if (lg_cmp r_2.1 (0 : Int64)) = 0 then
    some (.inl 1, r_2.2)
  else
    (fc_X8_nodeLabelled r_2.2 r_2.1).bind fun r_3 =>
    if r_3.1 = (-1 : Int32) then
      fc_X11_name_64 r_3.2 r_2.1
    else
      if r_3.1 = (cI r_3.2 4 0 2) then
        fc_X11_name_64 r_3.2 r_2.1
      else
        some (.inl 3, r_3.2)
set_option maxHeartbeats 4000000 in
set_option maxRecDepth 100000 in
theorem cc_X11_name (l : Launch) (hst : l.stackTraces = false) (D : va_G) (ca : Nat → ClassId) (A : Nat → Prop) (α : cAl) (σ : cS) (o : (Nat ⊕ Int32) × cS) (h : fc_X11_name σ  = some o) : cMetX false l yX11_name cX11_name 4 ((some FieldType.int)) rc_X11_name 2 12 D ca true A α σ [cr α 0 (some 0)] (o.1.map id (fun (v : Int32) _ => some (.int v))) o.2 := by
  refine vx_ofW (cc := cX11_name) (maxL := 4) (ret := (some FieldType.int)) (by decide) rfl ?_
  intro p e s m args below meth c s₁ B hml hout hv
  obtain ⟨rfl, hP, hK, hD0, hSh, hA, hG⟩ := hv
  have C : cC p s m _ c cX11_name 4 RX11 D ca A α := ⟨B.exec, B.bytes, hml, findClass_of_methodNamed B.named, fun w hw => atoms_spec (ws := mWs yX11_name cX11_name 4 ((some FieldType.int))) B.pre w (List.mem_cons_of_mem _ hw), hK, hG⟩
  have hM : cM D ca true A s.heap σ α σ α s.heap [] := ⟨hP, hD0, hSh, va_S.rf, hA, cX.rf⟩
  have h17 : 0 < cn σ 17 := c_17 hM
  have hr := B.returns
  have hlk := B.notSynchronized
  have hx := C.1
  have hb := C.2.1
  have hl := lv_entry ([cr α 0 (some 0)]) (n := 4) (Nat.le_of_ble_eq_true rfl)
  rw [lg_entry_eq]
  generalize (lg_sl ([cr α 0 (some 0)]) ++ List.replicate (4 - (lg_sl ([cr α 0 (some 0)])).length) Slot.unset).toArray = ls at hl ⊢
  have hl : lv_has ls 4 [(0, cr α 0 (some 0))] := hl
  unfold fc_X11_name at h
  refine c_aload_n (t := 0) (x := (some 0)) hx hb dX11_name_0 rfl (lv_at hl 0 rfl) ?_
  obtain ⟨r_1, u_1, hr_1⟩ := xb_some h
  refine c_gox2 (T := (fun (_ : Unit) _ => none)) (T2 := (fun (v : Int32) _ => some (.int v))) h hr_1 (c_rVx (As := []) (rest := []) C hM h17 (hM.cst 0 0 rfl) (by decide) (cc_X11_needPlay l hst D ca A α σ _ hr_1) cw_X11_260 ⟨rfl, rfl⟩ ⟨Nat.le_of_ble_eq_true rfl, Nat.le_of_ble_eq_true rfl⟩ rfl rfl (cats_le _ (Nat.le_of_ble_eq_true rfl)) hl.1 dX11_name_1 ⟨Nat.le_of_ble_eq_true rfl, Nat.le_of_ble_eq_true rfl⟩) C hM (fun _ => ⟨rfl, rfl⟩) hout hlk (Nat.le_of_ble_eq_true rfl) (Nat.le_of_ble_eq_true rfl) (fun v_1 H locs α9 hα h hX_1 hM => ?_)
  obtain rfl : α = α9 := (hα rfl).symm
  refine W_st (st' := []) rfl ?_
  refine c_aload_n (t := 0) (x := (some 0)) hx hb dX11_name_4 rfl (lv_at hl 0 rfl) ?_
  refine c_getb C hM (k := 0) (f := 0) (j := 0) (t := 1) (hM.cst 0 0 rfl) (by decide) fl_X11_18 dX11_name_5 ?_
  obtain ⟨r_2, hr_2, h⟩ := bd_of h
  refine c_go0 (c_rV (As := []) (rest := []) C hM h17 (hM.cst 1 0 rfl) (by decide) (cc_X7_lettersOfAll l D ca A α u_1 _ hr_2) cw_X11_86 ⟨rfl, rfl⟩ ⟨Nat.le_of_ble_eq_true rfl, Nat.le_of_ble_eq_true rfl⟩ rfl rfl (cats_le _ (Nat.le_of_ble_eq_true rfl)) hl.1 dX11_name_8 ⟨Nat.le_of_ble_eq_true rfl, Nat.le_of_ble_eq_true rfl⟩) hM (fun H locs hM => ?_)
  refine W_st (st' := [.long r_2.1]) rfl ?_
  refine lv_lstore_n (lv' := [(1, .long r_2.1), (0, cr α 0 (some 0))]) hx hb dX11_name_11 rfl hl (by decide) rfl (fun ls hl => ?_)
  refine lv_lload_n hx hb dX11_name_12 rfl (lv_at hl 0 rfl) ?_
  refine lv_lconst (v := (0 : Int64)) hx hb dX11_name_13 (by decide) ?_
  refine W.lcmp hx hb dX11_name_14 ?_
  refine lv_if_ne (tgt := 28) hx hb dX11_name_15 (by decide) (fun c_1 => ?_) (fun c_1 => ?_)
  · have h := br_F c_1 h
    refine c_aload_n (t := 0) (x := (some 0)) hx hb dX11_name_28 rfl (lv_at hl 1 rfl) ?_
    refine c_getb C hM (k := 0) (f := 3) (j := 0) (t := 4) (hM.cst 0 0 rfl) (by decide) fl_X11_41 dX11_name_29 ?_
    refine lv_lload_n hx hb dX11_name_32 rfl (lv_at hl 0 rfl) ?_
    obtain ⟨r_3, hr_3, h⟩ := bd_of h
    refine c_go0 (c_rV (As := [.long r_2.1]) (rest := []) C hM h17 (hM.cst 4 0 rfl) (by decide) (cc_X8_nodeLabelled l D ca A α r_2.2 r_2.1 _ hr_3) cw_X11_349 ⟨rfl, rfl⟩ ⟨Nat.le_of_ble_eq_true rfl, Nat.le_of_ble_eq_true rfl⟩ rfl rfl (cats_le _ (Nat.le_of_ble_eq_true rfl)) hl.1 dX11_name_33 ⟨Nat.le_of_ble_eq_true rfl, Nat.le_of_ble_eq_true rfl⟩) hM (fun H locs hM => ?_)
    refine W_st (st' := [.int r_3.1]) rfl ?_
    refine lv_istore_n (lv' := [(3, .int r_3.1), (1, .long r_2.1), (0, cr α 0 (some 0))]) hx hb dX11_name_36 rfl hl (by decide) rfl (fun ls hl => ?_)
    refine lv_iload_n hx hb dX11_name_37 rfl (lv_at hl 0 rfl) ?_
    refine lv_iconst (v := (-1 : Int32)) hx hb dX11_name_38 (by decide) ?_
    refine lv_icmp_eq (tgt := 64) hx hb dX11_name_39 (by decide) (fun c_2 => ?_) (fun c_2 => ?_)
    · have h := br_T c_2 h
      exact gc_X11_name_64 C hr hlk h17 hst hout  _ _ _ _ _ hM (lv_sub hl [2, 1] rfl) h
    · have h := br_F c_2 h
      refine lv_iload_n hx hb dX11_name_42 rfl (lv_at hl 0 rfl) ?_
      refine c_aload_n (t := 0) (x := (some 0)) hx hb dX11_name_43 rfl (lv_at hl 2 rfl) ?_
      refine c_getb C hM (k := 0) (f := 3) (j := 0) (t := 4) (hM.cst 0 0 rfl) (by decide) fl_X11_41 dX11_name_44 ?_
      refine c_geti C hM (k := 4) (f := 2) (hM.cst 4 0 rfl) rfl fl_X11_300 dX11_name_47 ?_
      refine lv_icmp_eq (tgt := 64) hx hb dX11_name_50 (by decide) (fun c_3 => ?_) (fun c_3 => ?_)
      · have h := br_T c_3 h
        exact gc_X11_name_64 C hr hlk h17 hst hout  _ _ _ _ _ hM (lv_sub hl [2, 1] rfl) h
      · have h := br_F c_3 h
        exact c_throwW (k := 3) (text := "another node has this name") C hM (fun _ => rfl) hst hout hlk (by decide +kernel) cx_at3 cx_ot3 (wl_in (i := 638) (by decide +kernel)) (wl_in (i := 22) (by decide +kernel)) rfl dX11_name_53 dX11_name_56 dX11_name_57 dX11_name_60 dX11_name_63 hl.1 (Nat.le_of_ble_eq_true rfl) (Nat.le_of_ble_eq_true rfl) (Nat.le_of_ble_eq_true rfl) (Nat.le_of_ble_eq_true rfl) (Nat.le_of_ble_eq_true rfl) (Nat.le_of_ble_eq_true rfl) h
  · have h := br_T c_1 h
    exact c_throw (k := 1) (text := "not 1 to 8 letters") C hM (fun _ => rfl) hst hout hlk (by decide +kernel) cx_at1 cx_ot1 (wl_in (i := 525) (by decide +kernel)) (wl_in (i := 20) (by decide +kernel)) rfl dX11_name_18 dX11_name_21 dX11_name_22 dX11_name_24 dX11_name_27 hl.1 (Nat.le_of_ble_eq_true rfl) (Nat.le_of_ble_eq_true rfl) (Nat.le_of_ble_eq_true rfl) (Nat.le_of_ble_eq_true rfl) (Nat.le_of_ble_eq_true rfl) (Nat.le_of_ble_eq_true rfl) h
/-! Lorewick.jump()I -/
abbrev rc_X11_jump : Room := { frames := 7, cells := 2, slots := 12, locals := 125 }
def fc_X11_jump (σ : cS) : Option ((Nat ⊕ Int32) × cS) :=
  xb (fc_X11_needPlay σ) fun v_1 u_1 =>
  (fc_X7_lettersOfAll u_1).bind fun r_2 =>
  (fc_X8_nodeLabelled r_2.2 r_2.1).bind fun r_3 =>
  if r_3.1 = (-1 : Int32) then
    some (.inl 5, r_3.2)
  else
    some (.inr r_3.1, (uI (uI r_3.2 4 0 2 r_3.1) 1 0 3 (0 : Int32)))
set_option maxHeartbeats 4000000 in
set_option maxRecDepth 100000 in
theorem cc_X11_jump (l : Launch) (hst : l.stackTraces = false) (D : va_G) (ca : Nat → ClassId) (A : Nat → Prop) (α : cAl) (σ : cS) (o : (Nat ⊕ Int32) × cS) (h : fc_X11_jump σ  = some o) : cMetX false l yX11_jump cX11_jump 2 ((some FieldType.int)) rc_X11_jump 2 12 D ca true A α σ [cr α 0 (some 0)] (o.1.map id (fun (v : Int32) _ => some (.int v))) o.2 := by
  refine vx_ofW (cc := cX11_jump) (maxL := 2) (ret := (some FieldType.int)) (by decide) rfl ?_
  intro p e s m args below meth c s₁ B hml hout hv
  obtain ⟨rfl, hP, hK, hD0, hSh, hA, hG⟩ := hv
  have C : cC p s m _ c cX11_jump 2 RX11 D ca A α := ⟨B.exec, B.bytes, hml, findClass_of_methodNamed B.named, fun w hw => atoms_spec (ws := mWs yX11_jump cX11_jump 2 ((some FieldType.int))) B.pre w (List.mem_cons_of_mem _ hw), hK, hG⟩
  have hM : cM D ca true A s.heap σ α σ α s.heap [] := ⟨hP, hD0, hSh, va_S.rf, hA, cX.rf⟩
  have h17 : 0 < cn σ 17 := c_17 hM
  have hr := B.returns
  have hlk := B.notSynchronized
  have hx := C.1
  have hb := C.2.1
  have hl := lv_entry ([cr α 0 (some 0)]) (n := 2) (Nat.le_of_ble_eq_true rfl)
  rw [lg_entry_eq]
  generalize (lg_sl ([cr α 0 (some 0)]) ++ List.replicate (2 - (lg_sl ([cr α 0 (some 0)])).length) Slot.unset).toArray = ls at hl ⊢
  have hl : lv_has ls 2 [(0, cr α 0 (some 0))] := hl
  unfold fc_X11_jump at h
  refine c_aload_n (t := 0) (x := (some 0)) hx hb dX11_jump_0 rfl (lv_at hl 0 rfl) ?_
  obtain ⟨r_1, u_1, hr_1⟩ := xb_some h
  refine c_gox2 (T := (fun (_ : Unit) _ => none)) (T2 := (fun (v : Int32) _ => some (.int v))) h hr_1 (c_rVx (As := []) (rest := []) C hM h17 (hM.cst 0 0 rfl) (by decide) (cc_X11_needPlay l hst D ca A α σ _ hr_1) cw_X11_260 ⟨rfl, rfl⟩ ⟨Nat.le_of_ble_eq_true rfl, Nat.le_of_ble_eq_true rfl⟩ rfl rfl (cats_le _ (Nat.le_of_ble_eq_true rfl)) hl.1 dX11_jump_1 ⟨Nat.le_of_ble_eq_true rfl, Nat.le_of_ble_eq_true rfl⟩) C hM (fun _ => ⟨rfl, rfl⟩) hout hlk (Nat.le_of_ble_eq_true rfl) (Nat.le_of_ble_eq_true rfl) (fun v_1 H locs α9 hα h hX_1 hM => ?_)
  obtain rfl : α = α9 := (hα rfl).symm
  refine W_st (st' := []) rfl ?_
  refine c_aload_n (t := 0) (x := (some 0)) hx hb dX11_jump_4 rfl (lv_at hl 0 rfl) ?_
  refine c_getb C hM (k := 0) (f := 3) (j := 0) (t := 4) (hM.cst 0 0 rfl) (by decide) fl_X11_41 dX11_jump_5 ?_
  refine c_aload_n (t := 0) (x := (some 0)) hx hb dX11_jump_8 rfl (lv_at hl 0 rfl) ?_
  refine c_getb C hM (k := 0) (f := 0) (j := 0) (t := 1) (hM.cst 0 0 rfl) (by decide) fl_X11_18 dX11_jump_9 ?_
  obtain ⟨r_2, hr_2, h⟩ := bd_of h
  refine c_go0 (c_rV (As := []) (rest := [cr α 4 (some 0)]) C hM h17 (hM.cst 1 0 rfl) (by decide) (cc_X7_lettersOfAll l D ca A α u_1 _ hr_2) cw_X11_86 ⟨rfl, rfl⟩ ⟨Nat.le_of_ble_eq_true rfl, Nat.le_of_ble_eq_true rfl⟩ rfl rfl (cats_le _ (Nat.le_of_ble_eq_true rfl)) hl.1 dX11_jump_12 ⟨Nat.le_of_ble_eq_true rfl, Nat.le_of_ble_eq_true rfl⟩) hM (fun H locs hM => ?_)
  refine W_st (st' := [.long r_2.1, cr α 4 (some 0)]) rfl ?_
  obtain ⟨r_3, hr_3, h⟩ := bd_of h
  refine c_go0 (c_rV (As := [.long r_2.1]) (rest := []) C hM h17 (hM.cst 4 0 rfl) (by decide) (cc_X8_nodeLabelled l D ca A α r_2.2 r_2.1 _ hr_3) cw_X11_349 ⟨rfl, rfl⟩ ⟨Nat.le_of_ble_eq_true rfl, Nat.le_of_ble_eq_true rfl⟩ rfl rfl (cats_le _ (Nat.le_of_ble_eq_true rfl)) hl.1 dX11_jump_15 ⟨Nat.le_of_ble_eq_true rfl, Nat.le_of_ble_eq_true rfl⟩) hM (fun H locs hM => ?_)
  refine W_st (st' := [.int r_3.1]) rfl ?_
  refine lv_istore_n (lv' := [(1, .int r_3.1), (0, cr α 0 (some 0))]) hx hb dX11_jump_18 rfl hl (by decide) rfl (fun ls hl => ?_)
  refine lv_iload_n hx hb dX11_jump_19 rfl (lv_at hl 0 rfl) ?_
  refine lv_iconst (v := (-1 : Int32)) hx hb dX11_jump_20 (by decide) ?_
  refine lv_icmp_ne (tgt := 35) hx hb dX11_jump_21 (by decide) (fun c_1 => ?_) (fun c_1 => ?_)
  · have h := br_F c_1 h
    refine c_aload_n (t := 0) (x := (some 0)) hx hb dX11_jump_35 rfl (lv_at hl 1 rfl) ?_
    refine c_getb C hM (k := 0) (f := 3) (j := 0) (t := 4) (hM.cst 0 0 rfl) (by decide) fl_X11_41 dX11_jump_36 ?_
    refine lv_iload_n hx hb dX11_jump_39 rfl (lv_at hl 0 rfl) ?_
    refine c_puti C hM (k := 4) (f := 2) (hM.cst 4 0 rfl) rfl fl_X11_300 (Or.inl rfl) dX11_jump_40 (fun H locs hM => ?_)
    refine c_aload_n (t := 0) (x := (some 0)) hx hb dX11_jump_43 rfl (lv_at hl 1 rfl) ?_
    refine c_getb C hM (k := 0) (f := 0) (j := 0) (t := 1) (hM.cst 0 0 rfl) (by decide) fl_X11_18 dX11_jump_44 ?_
    refine lv_iconst (v := (0 : Int32)) hx hb dX11_jump_47 (by decide) ?_
    refine c_puti C hM (k := 1) (f := 3) (hM.cst 1 0 rfl) rfl fl_X11_73 (Or.inl rfl) dX11_jump_48 (fun H locs hM => ?_)
    refine lv_iload_n hx hb dX11_jump_51 rfl (lv_at hl 0 rfl) ?_
    refine W.widen (k := 2) (n := 12) (Nat.le_of_ble_eq_true rfl) (Nat.le_of_ble_eq_true rfl) ?_
    exact c_xr h (c_ri (o := (r_3.1, (uI (uI r_3.2 4 0 2 r_3.1) 1 0 3 (0 : Int32)))) C hM (fun _ => rfl) hr hlk dX11_jump_52 rfl)
  · have h := br_T c_1 h
    exact c_throwW5 (text := "no such name") C hM (fun _ => rfl) hst hout hlk (by decide +kernel) (wl_in (i := 1244) (by decide +kernel)) (wl_in (i := 39) (by decide +kernel)) dX11_jump_24 dX11_jump_27 dX11_jump_28 dX11_jump_31 dX11_jump_34 hl.1 (Nat.le_of_ble_eq_true rfl) (Nat.le_of_ble_eq_true rfl) (Nat.le_of_ble_eq_true rfl) (Nat.le_of_ble_eq_true rfl) (Nat.le_of_ble_eq_true rfl) (Nat.le_of_ble_eq_true rfl) h
/-! Lorewick.isKnown(I)Z -/
abbrev rc_X11_isKnown : Room := { frames := 7, cells := 2, slots := 12, locals := 122 }
def fc_X11_isKnown (σ : cS) (x1 : Int32) : Option ((Nat ⊕ Int32) × cS) :=
  xb (fc_X11_needWord σ x1) fun v_1 u_1 =>
  xb (fc_X11_needPlay u_1) fun v_2 u_2 =>
  (fc_X8_current u_2).bind fun r_3 =>
  (dr r_3.2 7 r_3.1).bind fun i_4 =>
  (fc_X2_wordsOfPath r_3.2 r_3.1).bind fun r_5 =>
  (fc_X11_includes r_5.2 r_5.1 x1).bind fun r_6 =>
  if ¬ (r_6.1 &&& 1 = r_6.1) then none else
  some (.inr r_6.1, r_6.2)
set_option maxHeartbeats 4000000 in
set_option maxRecDepth 100000 in
theorem cc_X11_isKnown (l : Launch) (hst : l.stackTraces = false) (D : va_G) (ca : Nat → ClassId) (A : Nat → Prop) (α : cAl) (σ : cS) (x1 : Int32) (o : (Nat ⊕ Int32) × cS) (h : fc_X11_isKnown σ x1 = some o) : cMetX false l yX11_isKnown cX11_isKnown 2 ((some FieldType.boolean)) rc_X11_isKnown 2 12 D ca true A α σ [cr α 0 (some 0), .int x1] (o.1.map id (fun (v : Int32) _ => some (.int v))) o.2 := by
  refine vx_ofW (cc := cX11_isKnown) (maxL := 2) (ret := (some FieldType.boolean)) (by decide) rfl ?_
  intro p e s m args below meth c s₁ B hml hout hv
  obtain ⟨rfl, hP, hK, hD0, hSh, hA, hG⟩ := hv
  have C : cC p s m _ c cX11_isKnown 2 RX11 D ca A α := ⟨B.exec, B.bytes, hml, findClass_of_methodNamed B.named, fun w hw => atoms_spec (ws := mWs yX11_isKnown cX11_isKnown 2 ((some FieldType.boolean))) B.pre w (List.mem_cons_of_mem _ hw), hK, hG⟩
  have hM : cM D ca true A s.heap σ α σ α s.heap [] := ⟨hP, hD0, hSh, va_S.rf, hA, cX.rf⟩
  have h17 : 0 < cn σ 17 := c_17 hM
  have hr := B.returns
  have hlk := B.notSynchronized
  have hx := C.1
  have hb := C.2.1
  have hl := lv_entry ([cr α 0 (some 0), .int x1]) (n := 2) (Nat.le_of_ble_eq_true rfl)
  rw [lg_entry_eq]
  generalize (lg_sl ([cr α 0 (some 0), .int x1]) ++ List.replicate (2 - (lg_sl ([cr α 0 (some 0), .int x1])).length) Slot.unset).toArray = ls at hl ⊢
  have hl : lv_has ls 2 [(0, cr α 0 (some 0)), (1, .int x1)] := hl
  unfold fc_X11_isKnown at h
  refine c_aload_n (t := 0) (x := (some 0)) hx hb dX11_isKnown_0 rfl (lv_at hl 0 rfl) ?_
  refine lv_iload_n hx hb dX11_isKnown_1 rfl (lv_at hl 1 rfl) ?_
  obtain ⟨r_1, u_1, hr_1⟩ := xb_some h
  refine c_gox2 (T := (fun (_ : Unit) _ => none)) (T2 := (fun (v : Int32) _ => some (.int v))) h hr_1 (c_rVx (As := [.int x1]) (rest := []) C hM h17 (hM.cst 0 0 rfl) (by decide) (cc_X11_needWord l hst D ca A α σ x1 _ hr_1) cw_X11_126 ⟨rfl, rfl⟩ ⟨Nat.le_of_ble_eq_true rfl, Nat.le_of_ble_eq_true rfl⟩ rfl rfl (cats_le _ (Nat.le_of_ble_eq_true rfl)) hl.1 dX11_isKnown_2 ⟨Nat.le_of_ble_eq_true rfl, Nat.le_of_ble_eq_true rfl⟩) C hM (fun _ => ⟨rfl, rfl⟩) hout hlk (Nat.le_of_ble_eq_true rfl) (Nat.le_of_ble_eq_true rfl) (fun v_1 H locs α9 hα h hX_1 hM => ?_)
  obtain rfl : α = α9 := (hα rfl).symm
  refine W_st (st' := []) rfl ?_
  refine c_aload_n (t := 0) (x := (some 0)) hx hb dX11_isKnown_5 rfl (lv_at hl 0 rfl) ?_
  obtain ⟨r_2, u_2, hr_2⟩ := xb_some h
  refine c_gox2 (T := (fun (_ : Unit) _ => none)) (T2 := (fun (v : Int32) _ => some (.int v))) h hr_2 (c_rVx (As := []) (rest := []) C hM h17 (hM.cst 0 0 rfl) (by decide) (cc_X11_needPlay l hst D ca A α u_1 _ hr_2) cw_X11_260 ⟨rfl, rfl⟩ ⟨Nat.le_of_ble_eq_true rfl, Nat.le_of_ble_eq_true rfl⟩ rfl rfl (cats_le _ (Nat.le_of_ble_eq_true rfl)) hl.1 dX11_isKnown_6 ⟨Nat.le_of_ble_eq_true rfl, Nat.le_of_ble_eq_true rfl⟩) C hM (fun _ => ⟨rfl, rfl⟩) hout hlk (Nat.le_of_ble_eq_true rfl) (Nat.le_of_ble_eq_true rfl) (fun v_2 H locs α9 hα h hX_2 hM => ?_)
  obtain rfl : α = α9 := (hα rfl).symm
  refine W_st (st' := []) rfl ?_
  refine c_aload_n (t := 0) (x := (some 0)) hx hb dX11_isKnown_9 rfl (lv_at hl 0 rfl) ?_
  refine c_getb C hM (k := 0) (f := 3) (j := 0) (t := 4) (hM.cst 0 0 rfl) (by decide) fl_X11_41 dX11_isKnown_10 ?_
  obtain ⟨r_3, hr_3, h⟩ := bd_of h
  refine c_go0 (c_rV (As := []) (rest := []) C hM h17 (hM.cst 4 0 rfl) (by decide) (cc_X8_current l D ca A α u_2 _ hr_3) cw_X11_338 ⟨rfl, rfl⟩ ⟨Nat.le_of_ble_eq_true rfl, Nat.le_of_ble_eq_true rfl⟩ rfl rfl (cats_le _ (Nat.le_of_ble_eq_true rfl)) hl.1 dX11_isKnown_13 ⟨Nat.le_of_ble_eq_true rfl, Nat.le_of_ble_eq_true rfl⟩) hM (fun H locs hM => ?_)
  refine W_st (st' := [cr α 7 r_3.1]) rfl ?_
  obtain ⟨i_4, hd_4, h⟩ := bd_of h
  obtain ⟨r_5, hr_5, h⟩ := bd_of h
  refine c_go0 (c_rV (As := []) (rest := []) C hM h17 hd_4 (by decide) (cc_X2_wordsOfPath l D ca A α r_3.2 r_3.1 _ hr_5) cw_X11_363 ⟨rfl, rfl⟩ ⟨Nat.le_of_ble_eq_true rfl, Nat.le_of_ble_eq_true rfl⟩ rfl rfl (cats_le _ (Nat.le_of_ble_eq_true rfl)) hl.1 dX11_isKnown_16 ⟨Nat.le_of_ble_eq_true rfl, Nat.le_of_ble_eq_true rfl⟩) hM (fun H locs hM => ?_)
  refine W_st (st' := [.long r_5.1]) rfl ?_
  refine lv_iload_n hx hb dX11_isKnown_19 rfl (lv_at hl 1 rfl) ?_
  obtain ⟨r_6, hr_6, h⟩ := bd_of h
  refine c_go0 (c_rS (As := [.long r_5.1, .int x1]) (rest := []) C hM h17 (cc_X11_includes l D ca A α r_5.2 r_5.1 x1 _ hr_6) cw_X11_220 ⟨rfl, rfl⟩ ⟨Nat.le_of_ble_eq_true rfl, Nat.le_of_ble_eq_true rfl⟩ rfl rfl (cats_le _ (Nat.le_of_ble_eq_true rfl)) hl.1 dX11_isKnown_20 ⟨Nat.le_of_ble_eq_true rfl, Nat.le_of_ble_eq_true rfl⟩) hM (fun H locs hM => ?_)
  refine W_st (st' := [.int r_6.1]) rfl ?_
  obtain ⟨c_1, h⟩ := ko_of h
  exact c_xr h (c_rz (o := (r_6.1, r_6.2)) C hM (fun _ => rfl) hr hlk dX11_isKnown_23 (by rw [if_pos (Classical.not_not.mp c_1)]))
/-! Lorewick.known()I -/
abbrev rc_X11_known : Room := { frames := 7, cells := 1, slots := 6, locals := 142 }
def fc_X11_known (σ : cS) : Option ((Nat ⊕ Int32) × cS) :=
  xb (fc_X11_needPlay σ) fun v_1 u_1 =>
  (fc_X11_wordsKnown u_1).bind fun r_2 =>
  some (.inr r_2.1, r_2.2)
set_option maxHeartbeats 4000000 in
set_option maxRecDepth 100000 in
theorem cc_X11_known (l : Launch) (hst : l.stackTraces = false) (D : va_G) (ca : Nat → ClassId) (A : Nat → Prop) (α : cAl) (σ : cS) (o : (Nat ⊕ Int32) × cS) (h : fc_X11_known σ  = some o) : cMetX false l yX11_known cX11_known 1 ((some FieldType.int)) rc_X11_known 1 6 D ca true A α σ [cr α 0 (some 0)] (o.1.map id (fun (v : Int32) _ => some (.int v))) o.2 := by
  refine vx_ofW (cc := cX11_known) (maxL := 1) (ret := (some FieldType.int)) (by decide) rfl ?_
  intro p e s m args below meth c s₁ B hml hout hv
  obtain ⟨rfl, hP, hK, hD0, hSh, hA, hG⟩ := hv
  have C : cC p s m _ c cX11_known 1 RX11 D ca A α := ⟨B.exec, B.bytes, hml, findClass_of_methodNamed B.named, fun w hw => atoms_spec (ws := mWs yX11_known cX11_known 1 ((some FieldType.int))) B.pre w (List.mem_cons_of_mem _ hw), hK, hG⟩
  have hM : cM D ca true A s.heap σ α σ α s.heap [] := ⟨hP, hD0, hSh, va_S.rf, hA, cX.rf⟩
  have h17 : 0 < cn σ 17 := c_17 hM
  have hr := B.returns
  have hlk := B.notSynchronized
  have hx := C.1
  have hb := C.2.1
  have hl := lv_entry ([cr α 0 (some 0)]) (n := 1) (Nat.le_of_ble_eq_true rfl)
  rw [lg_entry_eq]
  generalize (lg_sl ([cr α 0 (some 0)]) ++ List.replicate (1 - (lg_sl ([cr α 0 (some 0)])).length) Slot.unset).toArray = ls at hl ⊢
  have hl : lv_has ls 1 [(0, cr α 0 (some 0))] := hl
  unfold fc_X11_known at h
  refine c_aload_n (t := 0) (x := (some 0)) hx hb dX11_known_0 rfl (lv_at hl 0 rfl) ?_
  obtain ⟨r_1, u_1, hr_1⟩ := xb_some h
  refine c_gox2 (T := (fun (_ : Unit) _ => none)) (T2 := (fun (v : Int32) _ => some (.int v))) h hr_1 (c_rVx (As := []) (rest := []) C hM h17 (hM.cst 0 0 rfl) (by decide) (cc_X11_needPlay l hst D ca A α σ _ hr_1) cw_X11_260 ⟨rfl, rfl⟩ ⟨Nat.le_of_ble_eq_true rfl, Nat.le_of_ble_eq_true rfl⟩ rfl rfl (cats_le _ (Nat.le_of_ble_eq_true rfl)) hl.1 dX11_known_1 ⟨Nat.le_of_ble_eq_true rfl, Nat.le_of_ble_eq_true rfl⟩) C hM (fun _ => ⟨rfl, rfl⟩) hout hlk (Nat.le_of_ble_eq_true rfl) (Nat.le_of_ble_eq_true rfl) (fun v_1 H locs α9 hα h hX_1 hM => ?_)
  obtain rfl : α = α9 := (hα rfl).symm
  refine W_st (st' := []) rfl ?_
  refine c_aload_n (t := 0) (x := (some 0)) hx hb dX11_known_4 rfl (lv_at hl 0 rfl) ?_
  obtain ⟨r_2, hr_2, h⟩ := bd_of h
  refine c_go0 (c_rV (As := []) (rest := []) C hM h17 (hM.cst 0 0 rfl) (by decide) (cc_X11_wordsKnown l D ca A α u_1 _ hr_2) cw_X11_256 ⟨rfl, rfl⟩ ⟨Nat.le_of_ble_eq_true rfl, Nat.le_of_ble_eq_true rfl⟩ rfl rfl (cats_le _ (Nat.le_of_ble_eq_true rfl)) hl.1 dX11_known_5 ⟨Nat.le_of_ble_eq_true rfl, Nat.le_of_ble_eq_true rfl⟩) hM (fun H locs hM => ?_)
  refine W_st (st' := [.int r_2.1]) rfl ?_
  exact c_xr h (c_ri (o := (r_2.1, r_2.2)) C hM (fun _ => rfl) hr hlk dX11_known_8 rfl)
/-! Lorewick.learnt(I)I -/
abbrev rc_X11_learnt : Room := { frames := 7, cells := 3, slots := 18, locals := 122 }
def fc_X11_learnt (σ : cS) (x1 : Int32) : Option ((Nat ⊕ Int32) × cS) :=
  xb (fc_X11_needWord σ x1) fun v_1 u_1 =>
  xb (fc_X11_needPlay u_1) fun v_2 u_2 =>
  (fc_X8_current u_2).bind fun r_3 =>
  (dr r_3.2 7 r_3.1).bind fun i_4 =>
  (fc_X2_firstToShow r_3.2 r_3.1 x1).bind fun r_5 =>
  if r_5.1 = (-1 : Int32) then
    some (.inl 5, r_5.2)
  else
    some (.inr r_5.1, r_5.2)
set_option maxHeartbeats 4000000 in
set_option maxRecDepth 100000 in
theorem cc_X11_learnt (l : Launch) (hst : l.stackTraces = false) (D : va_G) (ca : Nat → ClassId) (A : Nat → Prop) (α : cAl) (σ : cS) (x1 : Int32) (o : (Nat ⊕ Int32) × cS) (h : fc_X11_learnt σ x1 = some o) : cMetX false l yX11_learnt cX11_learnt 3 ((some FieldType.int)) rc_X11_learnt 3 18 D ca true A α σ [cr α 0 (some 0), .int x1] (o.1.map id (fun (v : Int32) _ => some (.int v))) o.2 := by
  refine vx_ofW (cc := cX11_learnt) (maxL := 3) (ret := (some FieldType.int)) (by decide) rfl ?_
  intro p e s m args below meth c s₁ B hml hout hv
  obtain ⟨rfl, hP, hK, hD0, hSh, hA, hG⟩ := hv
  have C : cC p s m _ c cX11_learnt 3 RX11 D ca A α := ⟨B.exec, B.bytes, hml, findClass_of_methodNamed B.named, fun w hw => atoms_spec (ws := mWs yX11_learnt cX11_learnt 3 ((some FieldType.int))) B.pre w (List.mem_cons_of_mem _ hw), hK, hG⟩
  have hM : cM D ca true A s.heap σ α σ α s.heap [] := ⟨hP, hD0, hSh, va_S.rf, hA, cX.rf⟩
  have h17 : 0 < cn σ 17 := c_17 hM
  have hr := B.returns
  have hlk := B.notSynchronized
  have hx := C.1
  have hb := C.2.1
  have hl := lv_entry ([cr α 0 (some 0), .int x1]) (n := 3) (Nat.le_of_ble_eq_true rfl)
  rw [lg_entry_eq]
  generalize (lg_sl ([cr α 0 (some 0), .int x1]) ++ List.replicate (3 - (lg_sl ([cr α 0 (some 0), .int x1])).length) Slot.unset).toArray = ls at hl ⊢
  have hl : lv_has ls 3 [(0, cr α 0 (some 0)), (1, .int x1)] := hl
  unfold fc_X11_learnt at h
  refine c_aload_n (t := 0) (x := (some 0)) hx hb dX11_learnt_0 rfl (lv_at hl 0 rfl) ?_
  refine lv_iload_n hx hb dX11_learnt_1 rfl (lv_at hl 1 rfl) ?_
  obtain ⟨r_1, u_1, hr_1⟩ := xb_some h
  refine c_gox2 (T := (fun (_ : Unit) _ => none)) (T2 := (fun (v : Int32) _ => some (.int v))) h hr_1 (c_rVx (As := [.int x1]) (rest := []) C hM h17 (hM.cst 0 0 rfl) (by decide) (cc_X11_needWord l hst D ca A α σ x1 _ hr_1) cw_X11_126 ⟨rfl, rfl⟩ ⟨Nat.le_of_ble_eq_true rfl, Nat.le_of_ble_eq_true rfl⟩ rfl rfl (cats_le _ (Nat.le_of_ble_eq_true rfl)) hl.1 dX11_learnt_2 ⟨Nat.le_of_ble_eq_true rfl, Nat.le_of_ble_eq_true rfl⟩) C hM (fun _ => ⟨rfl, rfl⟩) hout hlk (Nat.le_of_ble_eq_true rfl) (Nat.le_of_ble_eq_true rfl) (fun v_1 H locs α9 hα h hX_1 hM => ?_)
  obtain rfl : α = α9 := (hα rfl).symm
  refine W_st (st' := []) rfl ?_
  refine c_aload_n (t := 0) (x := (some 0)) hx hb dX11_learnt_5 rfl (lv_at hl 0 rfl) ?_
  obtain ⟨r_2, u_2, hr_2⟩ := xb_some h
  refine c_gox2 (T := (fun (_ : Unit) _ => none)) (T2 := (fun (v : Int32) _ => some (.int v))) h hr_2 (c_rVx (As := []) (rest := []) C hM h17 (hM.cst 0 0 rfl) (by decide) (cc_X11_needPlay l hst D ca A α u_1 _ hr_2) cw_X11_260 ⟨rfl, rfl⟩ ⟨Nat.le_of_ble_eq_true rfl, Nat.le_of_ble_eq_true rfl⟩ rfl rfl (cats_le _ (Nat.le_of_ble_eq_true rfl)) hl.1 dX11_learnt_6 ⟨Nat.le_of_ble_eq_true rfl, Nat.le_of_ble_eq_true rfl⟩) C hM (fun _ => ⟨rfl, rfl⟩) hout hlk (Nat.le_of_ble_eq_true rfl) (Nat.le_of_ble_eq_true rfl) (fun v_2 H locs α9 hα h hX_2 hM => ?_)
  obtain rfl : α = α9 := (hα rfl).symm
  refine W_st (st' := []) rfl ?_
  refine c_aload_n (t := 0) (x := (some 0)) hx hb dX11_learnt_9 rfl (lv_at hl 0 rfl) ?_
  refine c_getb C hM (k := 0) (f := 3) (j := 0) (t := 4) (hM.cst 0 0 rfl) (by decide) fl_X11_41 dX11_learnt_10 ?_
  obtain ⟨r_3, hr_3, h⟩ := bd_of h
  refine c_go0 (c_rV (As := []) (rest := []) C hM h17 (hM.cst 4 0 rfl) (by decide) (cc_X8_current l D ca A α u_2 _ hr_3) cw_X11_338 ⟨rfl, rfl⟩ ⟨Nat.le_of_ble_eq_true rfl, Nat.le_of_ble_eq_true rfl⟩ rfl rfl (cats_le _ (Nat.le_of_ble_eq_true rfl)) hl.1 dX11_learnt_13 ⟨Nat.le_of_ble_eq_true rfl, Nat.le_of_ble_eq_true rfl⟩) hM (fun H locs hM => ?_)
  refine W_st (st' := [cr α 7 r_3.1]) rfl ?_
  refine lv_iload_n hx hb dX11_learnt_16 rfl (lv_at hl 1 rfl) ?_
  obtain ⟨i_4, hd_4, h⟩ := bd_of h
  obtain ⟨r_5, hr_5, h⟩ := bd_of h
  refine c_go0 (c_rV (As := [.int x1]) (rest := []) C hM h17 hd_4 (by decide) (cc_X2_firstToShow l D ca A α r_3.2 r_3.1 x1 _ hr_5) cw_X11_366 ⟨rfl, rfl⟩ ⟨Nat.le_of_ble_eq_true rfl, Nat.le_of_ble_eq_true rfl⟩ rfl rfl (cats_le _ (Nat.le_of_ble_eq_true rfl)) hl.1 dX11_learnt_17 ⟨Nat.le_of_ble_eq_true rfl, Nat.le_of_ble_eq_true rfl⟩) hM (fun H locs hM => ?_)
  refine W_st (st' := [.int r_5.1]) rfl ?_
  refine lv_istore_n (lv' := [(2, .int r_5.1), (0, cr α 0 (some 0)), (1, .int x1)]) hx hb dX11_learnt_20 rfl hl (by decide) rfl (fun ls hl => ?_)
  refine lv_iload_n hx hb dX11_learnt_21 rfl (lv_at hl 0 rfl) ?_
  refine lv_iconst (v := (-1 : Int32)) hx hb dX11_learnt_22 (by decide) ?_
  refine lv_icmp_ne (tgt := 37) hx hb dX11_learnt_23 (by decide) (fun c_1 => ?_) (fun c_1 => ?_)
  · have h := br_F c_1 h
    refine lv_iload_n hx hb dX11_learnt_37 rfl (lv_at hl 0 rfl) ?_
    refine W.widen (k := 3) (n := 18) (Nat.le_of_ble_eq_true rfl) (Nat.le_of_ble_eq_true rfl) ?_
    exact c_xr h (c_ri (o := (r_5.1, r_5.2)) C hM (fun _ => rfl) hr hlk dX11_learnt_38 rfl)
  · have h := br_T c_1 h
    exact c_throwW5 (text := "it is not known") C hM (fun _ => rfl) hst hout hlk (by decide +kernel) (wl_in (i := 1244) (by decide +kernel)) (wl_in (i := 39) (by decide +kernel)) dX11_learnt_26 dX11_learnt_29 dX11_learnt_30 dX11_learnt_33 dX11_learnt_36 hl.1 (Nat.le_of_ble_eq_true rfl) (Nat.le_of_ble_eq_true rfl) (Nat.le_of_ble_eq_true rfl) (Nat.le_of_ble_eq_true rfl) (Nat.le_of_ble_eq_true rfl) (Nat.le_of_ble_eq_true rfl) h
