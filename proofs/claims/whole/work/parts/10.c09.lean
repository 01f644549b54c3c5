/-! The class's methods: what each makes of the state (fc_..), as the bytecode has it; and that it does (cc_..). -/
theorem fl_X11_371 : Cond.fieldLink RX11 371 (cTt 4 1).1 (cTt 4 1).2.1 (cTt 4 1).2.2.1 ∈ wl := wl_in (i := 216) (by decide +kernel)
theorem cw_X11_374 : cCallV RX11 374 (cRn 4) yX8_postingAt cX8_postingAt 5 ((some FieldType.int)) 2 := ⟨⟨wl_in (i := 1379) (by decide +kernel), wl_in (i := 1380) (by decide +kernel), wl_in (i := 1381) (by decide +kernel), wl_in (i := 6) (by decide +kernel), wl_in (i := 1382) (by decide +kernel)⟩, rfl, by decide, by decide, by decide +kernel⟩
theorem cw_X11_380 : cCallV RX11 380 (cRn 4) yX8_byRarity cX8_byRarity 5 ((some FieldType.int)) 2 := ⟨⟨wl_in (i := 1391) (by decide +kernel), wl_in (i := 1392) (by decide +kernel), wl_in (i := 1393) (by decide +kernel), wl_in (i := 6) (by decide +kernel), wl_in (i := 1394) (by decide +kernel)⟩, rfl, by decide, by decide, by decide +kernel⟩
theorem cw_X11_429 : cCallV RX11 429 (cRn 5) yX5_isOwnedAt cX5_isOwnedAt 5 ((some FieldType.boolean)) 2 := ⟨⟨wl_in (i := 1410) (by decide +kernel), wl_in (i := 1411) (by decide +kernel), wl_in (i := 1412) (by decide +kernel), wl_in (i := 10) (by decide +kernel), wl_in (i := 1413) (by decide +kernel)⟩, rfl, by decide, by decide, by decide +kernel⟩
theorem cw_X11_386 : cCallV RX11 386 (cRn 0) yX11_needNotOwned cX11_needNotOwned 2 ((none : Option FieldType)) 1 := ⟨⟨wl_in (i := 1406) (by decide +kernel), wl_in (i := 1408) (by decide +kernel), wl_inp (i := 23) (by decide +kernel), wl_in (i := 1) (by decide +kernel), wl_in (i := 1409) (by decide +kernel)⟩, rfl, by decide, by decide, by decide +kernel⟩
theorem cw_X11_389 : cCallV RX11 389 (cRn 5) yX5_priceAt cX5_priceAt 9 ((some FieldType.int)) 3 := ⟨⟨wl_in (i := 1415) (by decide +kernel), wl_in (i := 1416) (by decide +kernel), wl_in (i := 1417) (by decide +kernel), wl_in (i := 10) (by decide +kernel), wl_in (i := 1418) (by decide +kernel)⟩, rfl, by decide, by decide, by decide +kernel⟩
theorem fl_X11_403 : Cond.fieldLink RX11 403 (cTt 5 4).1 (cTt 5 4).2.1 (cTt 5 4).2.2.1 ∈ wl := wl_in (i := 243) (by decide +kernel)
theorem fl_X11_415 : Cond.fieldLink RX11 415 "Lorewick$Verb" "BUY" "LLorewick$Verb;" ∈ wl := wl_in (i := 1436) (by decide +kernel)
theorem fl_X11_418 : Cond.fieldLink RX11 418 (cTt 5 3).1 (cTt 5 3).2.1 (cTt 5 3).2.2.1 ∈ wl := wl_in (i := 241) (by decide +kernel)
theorem cw_X11_423 : cCallI RX11 423 yX4_init cX4_init 4 3 := ⟨⟨wl_in (i := 1440) (by decide +kernel), wl_in (i := 1441) (by decide +kernel), wl_in (i := 40) (by decide +kernel), wl_in (i := 1442) (by decide +kernel)⟩, rfl, by decide, by decide, by decide +kernel⟩
theorem cw_X11_426 : cCallV RX11 426 (cRn 10) yJx4a65c_add_9ea2d cJx4a65c_add_9ea2d 2 ((some FieldType.boolean)) 1 := ⟨⟨wl_in (i := 1460) (by decide +kernel), wl_in (i := 1008) (by decide +kernel), wl_in (i := 1009) (by decide +kernel), wl_in (i := 9) (by decide +kernel), wl_in (i := 1010) (by decide +kernel)⟩, rfl, by decide, by decide, by decide +kernel⟩
theorem fl_X11_433 : Cond.fieldLink RX11 433 "Lorewick$Verb" "READ" "LLorewick$Verb;" ∈ wl := wl_in (i := 1475) (by decide +kernel)
theorem fl_X11_440 : Cond.fieldLink RX11 440 (cTt 5 5).1 (cTt 5 5).2.1 (cTt 5 5).2.2.1 ∈ wl := wl_in (i := 244) (by decide +kernel)
theorem kl_X11_421 : Cond.classLink RX11 421 (cRn 9) ∈ wl := wl_in (i := 1438) (by decide +kernel)
theorem fl_X11_458 : Cond.fieldLink RX11 458 (cTt 9 2).1 (cTt 9 2).2.1 (cTt 9 2).2.2.1 ∈ wl := wl_in (i := 1452) (by decide +kernel)
theorem fl_X11_452 : Cond.fieldLink RX11 452 (cTt 9 0).1 (cTt 9 0).2.1 (cTt 9 0).2.2.1 ∈ wl := wl_in (i := 1446) (by decide +kernel)
theorem fl_X11_455 : Cond.fieldLink RX11 455 (cTt 9 1).1 (cTt 9 1).2.1 (cTt 9 1).2.2.1 ∈ wl := wl_in (i := 1449) (by decide +kernel)
theorem cw_X11_463 : cCallV RX11 463 (cRn 3) yX3_pickUpAsIn cX3_pickUpAsIn 7 ((some FieldType.int)) 2 := ⟨⟨wl_in (i := 418) (by decide +kernel), wl_in (i := 419) (by decide +kernel), wl_in (i := 420) (by decide +kernel), wl_in (i := 5) (by decide +kernel), wl_in (i := 421) (by decide +kernel)⟩, rfl, by decide, by decide, by decide +kernel⟩
theorem fl_X11_469 : Cond.fieldLink RX11 469 "Lorewick$Verb" "MERGE" "LLorewick$Verb;" ∈ wl := wl_in (i := 1502) (by decide +kernel)
theorem cw_X11_472 : cCallV RX11 472 (cRn 3) yX3_goalsReached cX3_goalsReached 4 ((some FieldType.int)) 1 := ⟨⟨wl_in (i := 1511) (by decide +kernel), wl_in (i := 1512) (by decide +kernel), wl_in (i := 1513) (by decide +kernel), wl_in (i := 5) (by decide +kernel), wl_in (i := 1514) (by decide +kernel)⟩, rfl, by decide, by decide, by decide +kernel⟩
theorem cw_X11_475 : cCallV RX11 475 (cRn 3) yX3_distanceTo cX3_distanceTo 4 ((some FieldType.int)) 2 := ⟨⟨wl_in (i := 1522) (by decide +kernel), wl_in (i := 1523) (by decide +kernel), wl_in (i := 1524) (by decide +kernel), wl_in (i := 5) (by decide +kernel), wl_in (i := 1525) (by decide +kernel)⟩, rfl, by decide, by decide, by decide +kernel⟩
/-! Lorewick.postings(I)I -/
abbrev rc_X11_postings : Room := { frames := 7, cells := 1, slots := 6, locals := 111 }
def fc_X11_postings (σ : cS) (x1 : Int32) : Option ((Nat ⊕ Int32) × cS) :=
  xb (fc_X11_needWord σ x1) fun v_1 u_1 =>
  if x1 < 0 ∨ 40 ≤ x1.toNatClampNeg then none else
  some (.inr (cI u_1 12 11 x1.toNatClampNeg), u_1)
set_option maxHeartbeats 4000000 in
set_option maxRecDepth 100000 in
theorem cc_X11_postings (l : Launch) (hst : l.stackTraces = false) (D : va_G) (ca : Nat → ClassId) (A : Nat → Prop) (α : cAl) (σ : cS) (x1 : Int32) (o : (Nat ⊕ Int32) × cS) (h : fc_X11_postings σ x1 = some o) : cMetX false l yX11_postings cX11_postings 2 ((some FieldType.int)) rc_X11_postings 1 6 D ca true A α σ [cr α 0 (some 0), .int x1] (o.1.map id (fun (v : Int32) _ => some (.int v))) o.2 := by
  refine vx_ofW (cc := cX11_postings) (maxL := 2) (ret := (some FieldType.int)) (by decide) rfl ?_
  intro p e s m args below meth c s₁ B hml hout hv
  obtain ⟨rfl, hP, hK, hD0, hSh, hA, hG⟩ := hv
  have C : cC p s m _ c cX11_postings 2 RX11 D ca A α := ⟨B.exec, B.bytes, hml, findClass_of_methodNamed B.named, fun w hw => atoms_spec (ws := mWs yX11_postings cX11_postings 2 ((some FieldType.int))) B.pre w (List.mem_cons_of_mem _ hw), hK, hG⟩
  have hM : cM D ca true A s.heap σ α σ α s.heap [] := ⟨hP, hD0, hSh, va_S.rf, hA, cX.rf⟩
  have h17 : 0 < cn σ 17 := c_17 hM
  have hr := B.returns
  have hlk := B.notSynchronized
  have hx := C.1
  have hb := C.2.1
  have hl := lv_entry ([cr α 0 (some 0), .int x1]) (n := 2) (Nat.le_of_ble_eq_true rfl)
  rw [lg_entry_eq]
  generalize (lg_sl ([cr α 0 (some 0), .int x1]) ++ List.replicate (2 - (lg_sl ([cr α 0 (some 0), .int x1])).length) Slot.unset).toArray = ls at hl ⊢
  have hl : lv_has ls 2 [(0, cr α 0 (some 0)), (1, .int x1)] := hl
  unfold fc_X11_postings at h
  refine c_aload_n (t := 0) (x := (some 0)) hx hb dX11_postings_0 rfl (lv_at hl 0 rfl) ?_
  refine lv_iload_n hx hb dX11_postings_1 rfl (lv_at hl 1 rfl) ?_
  obtain ⟨r_1, u_1, hr_1⟩ := xb_some h
  refine c_gox2 (T := (fun (_ : Unit) _ => none)) (T2 := (fun (v : Int32) _ => some (.int v))) h hr_1 (c_rVx (As := [.int x1]) (rest := []) C hM h17 (hM.cst 0 0 rfl) (by decide) (cc_X11_needWord l hst D ca A α σ x1 _ hr_1) cw_X11_126 ⟨rfl, rfl⟩ ⟨Nat.le_of_ble_eq_true rfl, Nat.le_of_ble_eq_true rfl⟩ rfl rfl (cats_le _ (Nat.le_of_ble_eq_true rfl)) hl.1 dX11_postings_2 ⟨Nat.le_of_ble_eq_true rfl, Nat.le_of_ble_eq_true rfl⟩) C hM (fun _ => ⟨rfl, rfl⟩) hout hlk (Nat.le_of_ble_eq_true rfl) (Nat.le_of_ble_eq_true rfl) (fun v_1 H locs α9 hα h hX_1 hM => ?_)
  obtain rfl : α = α9 := (hα rfl).symm
  refine W_st (st' := []) rfl ?_
  refine c_aload_n (t := 0) (x := (some 0)) hx hb dX11_postings_5 rfl (lv_at hl 0 rfl) ?_
  refine c_getb C hM (k := 0) (f := 3) (j := 0) (t := 4) (hM.cst 0 0 rfl) (by decide) fl_X11_41 dX11_postings_6 ?_
  refine c_getb C hM (k := 4) (f := 1) (j := 11) (t := 12) (hM.cst 4 0 rfl) (by decide) fl_X11_371 dX11_postings_9 ?_
  refine lv_iload_n hx hb dX11_postings_12 rfl (lv_at hl 1 rfl) ?_
  obtain ⟨c_1, h⟩ := ko_of h
  refine c_iald C hM (hM.cst 12 11 rfl) (by rw [hM.ln 12 11 40 (by decide)]; exact c_1) dX11_postings_13 ?_
  exact c_xr h (c_ri (o := ((cI u_1 12 11 x1.toNatClampNeg), u_1)) C hM (fun _ => rfl) hr hlk dX11_postings_14 rfl)
/-! Lorewick.posting(II)I -/
abbrev rc_X11_posting : Room := { frames := 7, cells := 2, slots := 12, locals := 126 }
def fc_X11_posting (σ : cS) (x1 : Int32) (x2 : Int32) : Option ((Nat ⊕ Int32) × cS) :=
  xb (fc_X11_needWord σ x1) fun v_1 u_1 =>
  (fc_X8_postingAt u_1 x1 x2).bind fun r_2 =>
  if r_2.1 = (-1 : Int32) then
    some (.inl 5, r_2.2)
  else
    some (.inr r_2.1, r_2.2)
set_option maxHeartbeats 4000000 in
set_option maxRecDepth 100000 in
theorem cc_X11_posting (l : Launch) (hst : l.stackTraces = false) (D : va_G) (ca : Nat → ClassId) (A : Nat → Prop) (α : cAl) (σ : cS) (x1 : Int32) (x2 : Int32) (o : (Nat ⊕ Int32) × cS) (h : fc_X11_posting σ x1 x2 = some o) : cMetX false l yX11_posting cX11_posting 4 ((some FieldType.int)) rc_X11_posting 2 12 D ca true A α σ [cr α 0 (some 0), .int x1, .int x2] (o.1.map id (fun (v : Int32) _ => some (.int v))) o.2 := by
  refine vx_ofW (cc := cX11_posting) (maxL := 4) (ret := (some FieldType.int)) (by decide) rfl ?_
  intro p e s m args below meth c s₁ B hml hout hv
  obtain ⟨rfl, hP, hK, hD0, hSh, hA, hG⟩ := hv
  have C : cC p s m _ c cX11_posting 4 RX11 D ca A α := ⟨B.exec, B.bytes, hml, findClass_of_methodNamed B.named, fun w hw => atoms_spec (ws := mWs yX11_posting cX11_posting 4 ((some FieldType.int))) B.pre w (List.mem_cons_of_mem _ hw), hK, hG⟩
  have hM : cM D ca true A s.heap σ α σ α s.heap [] := ⟨hP, hD0, hSh, va_S.rf, hA, cX.rf⟩
  have h17 : 0 < cn σ 17 := c_17 hM
  have hr := B.returns
  have hlk := B.notSynchronized
  have hx := C.1
  have hb := C.2.1
  have hl := lv_entry ([cr α 0 (some 0), .int x1, .int x2]) (n := 4) (Nat.le_of_ble_eq_true rfl)
  rw [lg_entry_eq]
  generalize (lg_sl ([cr α 0 (some 0), .int x1, .int x2]) ++ List.replicate (4 - (lg_sl ([cr α 0 (some 0), .int x1, .int x2])).length) Slot.unset).toArray = ls at hl ⊢
  have hl : lv_has ls 4 [(0, cr α 0 (some 0)), (1, .int x1), (2, .int x2)] := hl
  unfold fc_X11_posting at h
  refine c_aload_n (t := 0) (x := (some 0)) hx hb dX11_posting_0 rfl (lv_at hl 0 rfl) ?_
  refine lv_iload_n hx hb dX11_posting_1 rfl (lv_at hl 1 rfl) ?_
  obtain ⟨r_1, u_1, hr_1⟩ := xb_some h
  refine c_gox2 (T := (fun (_ : Unit) _ => none)) (T2 := (fun (v : Int32) _ => some (.int v))) h hr_1 (c_rVx (As := [.int x1]) (rest := []) C hM h17 (hM.cst 0 0 rfl) (by decide) (cc_X11_needWord l hst D ca A α σ x1 _ hr_1) cw_X11_126 ⟨rfl, rfl⟩ ⟨Nat.le_of_ble_eq_true rfl, Nat.le_of_ble_eq_true rfl⟩ rfl rfl (cats_le _ (Nat.le_of_ble_eq_true rfl)) hl.1 dX11_posting_2 ⟨Nat.le_of_ble_eq_true rfl, Nat.le_of_ble_eq_true rfl⟩) C hM (fun _ => ⟨rfl, rfl⟩) hout hlk (Nat.le_of_ble_eq_true rfl) (Nat.le_of_ble_eq_true rfl) (fun v_1 H locs α9 hα h hX_1 hM => ?_)
  obtain rfl : α = α9 := (hα rfl).symm
  refine W_st (st' := []) rfl ?_
  refine c_aload_n (t := 0) (x := (some 0)) hx hb dX11_posting_5 rfl (lv_at hl 0 rfl) ?_
  refine c_getb C hM (k := 0) (f := 3) (j := 0) (t := 4) (hM.cst 0 0 rfl) (by decide) fl_X11_41 dX11_posting_6 ?_
  refine lv_iload_n hx hb dX11_posting_9 rfl (lv_at hl 1 rfl) ?_
  refine lv_iload_n hx hb dX11_posting_10 rfl (lv_at hl 2 rfl) ?_
  obtain ⟨r_2, hr_2, h⟩ := bd_of h
  refine c_go0 (c_rV (As := [.int x1, .int x2]) (rest := []) C hM h17 (hM.cst 4 0 rfl) (by decide) (cc_X8_postingAt l D ca A α u_1 x1 x2 _ hr_2) cw_X11_374 ⟨rfl, rfl⟩ ⟨Nat.le_of_ble_eq_true rfl, Nat.le_of_ble_eq_true rfl⟩ rfl rfl (cats_le _ (Nat.le_of_ble_eq_true rfl)) hl.1 dX11_posting_11 ⟨Nat.le_of_ble_eq_true rfl, Nat.le_of_ble_eq_true rfl⟩) hM (fun H locs hM => ?_)
  refine W_st (st' := [.int r_2.1]) rfl ?_
  refine lv_istore_n (lv' := [(3, .int r_2.1), (0, cr α 0 (some 0)), (1, .int x1), (2, .int x2)]) hx hb dX11_posting_14 rfl hl (by decide) rfl (fun ls hl => ?_)
  refine lv_iload_n hx hb dX11_posting_15 rfl (lv_at hl 0 rfl) ?_
  refine lv_iconst (v := (-1 : Int32)) hx hb dX11_posting_16 (by decide) ?_
  refine lv_icmp_ne (tgt := 31) hx hb dX11_posting_17 (by decide) (fun c_1 => ?_) (fun c_1 => ?_)
  · have h := br_F c_1 h
    refine lv_iload_n hx hb dX11_posting_31 rfl (lv_at hl 0 rfl) ?_
    refine W.widen (k := 2) (n := 12) (Nat.le_of_ble_eq_true rfl) (Nat.le_of_ble_eq_true rfl) ?_
    exact c_xr h (c_ri (o := (r_2.1, r_2.2)) C hM (fun _ => rfl) hr hlk dX11_posting_32 rfl)
  · have h := br_T c_1 h
    exact c_throwW5 (text := "no such posting") C hM (fun _ => rfl) hst hout hlk (by decide +kernel) (wl_in (i := 1244) (by decide +kernel)) (wl_in (i := 39) (by decide +kernel)) dX11_posting_20 dX11_posting_23 dX11_posting_24 dX11_posting_27 dX11_posting_30 hl.1 (Nat.le_of_ble_eq_true rfl) (Nat.le_of_ble_eq_true rfl) (Nat.le_of_ble_eq_true rfl) (Nat.le_of_ble_eq_true rfl) (Nat.le_of_ble_eq_true rfl) (Nat.le_of_ble_eq_true rfl) h
/-! Lorewick.rare(I)I -/
abbrev rc_X11_rare : Room := { frames := 7, cells := 2, slots := 12, locals := 122 }
def fc_X11_rare (σ : cS) (x1 : Int32) : Option ((Nat ⊕ Int32) × cS) :=
  xb (fc_X11_needPlay σ) fun v_1 u_1 =>
  (fc_X8_current u_1).bind fun r_2 =>
  (dr r_2.2 7 r_2.1).bind fun i_3 =>
  (fc_X2_wordsOfPath r_2.2 r_2.1).bind fun r_4 =>
  (fc_X8_byRarity r_4.2 r_4.1 x1).bind fun r_5 =>
  if r_5.1 = (-1 : Int32) then
    some (.inl 5, r_5.2)
  else
    some (.inr r_5.1, r_5.2)
set_option maxHeartbeats 4000000 in
set_option maxRecDepth 100000 in
theorem cc_X11_rare (l : Launch) (hst : l.stackTraces = false) (D : va_G) (ca : Nat → ClassId) (A : Nat → Prop) (α : cAl) (σ : cS) (x1 : Int32) (o : (Nat ⊕ Int32) × cS) (h : fc_X11_rare σ x1 = some o) : cMetX false l yX11_rare cX11_rare 3 ((some FieldType.int)) rc_X11_rare 2 12 D ca true A α σ [cr α 0 (some 0), .int x1] (o.1.map id (fun (v : Int32) _ => some (.int v))) o.2 := by
  refine vx_ofW (cc := cX11_rare) (maxL := 3) (ret := (some FieldType.int)) (by decide) rfl ?_
  intro p e s m args below meth c s₁ B hml hout hv
  obtain ⟨rfl, hP, hK, hD0, hSh, hA, hG⟩ := hv
  have C : cC p s m _ c cX11_rare 3 RX11 D ca A α := ⟨B.exec, B.bytes, hml, findClass_of_methodNamed B.named, fun w hw => atoms_spec (ws := mWs yX11_rare cX11_rare 3 ((some FieldType.int))) B.pre w (List.mem_cons_of_mem _ hw), hK, hG⟩
  have hM : cM D ca true A s.heap σ α σ α s.heap [] := ⟨hP, hD0, hSh, va_S.rf, hA, cX.rf⟩
  have h17 : 0 < cn σ 17 := c_17 hM
  have hr := B.returns
  have hlk := B.notSynchronized
  have hx := C.1
  have hb := C.2.1
  have hl := lv_entry ([cr α 0 (some 0), .int x1]) (n := 3) (Nat.le_of_ble_eq_true rfl)
  rw [lg_entry_eq]
  generalize (lg_sl ([cr α 0 (some 0), .int x1]) ++ List.replicate (3 - (lg_sl ([cr α 0 (some 0), .int x1])).length) Slot.unset).toArray = ls at hl ⊢
  have hl : lv_has ls 3 [(0, cr α 0 (some 0)), (1, .int x1)] := hl
  unfold fc_X11_rare at h
  refine c_aload_n (t := 0) (x := (some 0)) hx hb dX11_rare_0 rfl (lv_at hl 0 rfl) ?_
  obtain ⟨r_1, u_1, hr_1⟩ := xb_some h
  refine c_gox2 (T := (fun (_ : Unit) _ => none)) (T2 := (fun (v : Int32) _ => some (.int v))) h hr_1 (c_rVx (As := []) (rest := []) C hM h17 (hM.cst 0 0 rfl) (by decide) (cc_X11_needPlay l hst D ca A α σ _ hr_1) cw_X11_260 ⟨rfl, rfl⟩ ⟨Nat.le_of_ble_eq_true rfl, Nat.le_of_ble_eq_true rfl⟩ rfl rfl (cats_le _ (Nat.le_of_ble_eq_true rfl)) hl.1 dX11_rare_1 ⟨Nat.le_of_ble_eq_true rfl, Nat.le_of_ble_eq_true rfl⟩) C hM (fun _ => ⟨rfl, rfl⟩) hout hlk (Nat.le_of_ble_eq_true rfl) (Nat.le_of_ble_eq_true rfl) (fun v_1 H locs α9 hα h hX_1 hM => ?_)
  obtain rfl : α = α9 := (hα rfl).symm
  refine W_st (st' := []) rfl ?_
  refine c_aload_n (t := 0) (x := (some 0)) hx hb dX11_rare_4 rfl (lv_at hl 0 rfl) ?_
  refine c_getb C hM (k := 0) (f := 3) (j := 0) (t := 4) (hM.cst 0 0 rfl) (by decide) fl_X11_41 dX11_rare_5 ?_
  refine c_aload_n (t := 0) (x := (some 0)) hx hb dX11_rare_8 rfl (lv_at hl 0 rfl) ?_
  refine c_getb C hM (k := 0) (f := 3) (j := 0) (t := 4) (hM.cst 0 0 rfl) (by decide) fl_X11_41 dX11_rare_9 ?_
  obtain ⟨r_2, hr_2, h⟩ := bd_of h
  refine c_go0 (c_rV (As := []) (rest := [cr α 4 (some 0)]) C hM h17 (hM.cst 4 0 rfl) (by decide) (cc_X8_current l D ca A α u_1 _ hr_2) cw_X11_338 ⟨rfl, rfl⟩ ⟨Nat.le_of_ble_eq_true rfl, Nat.le_of_ble_eq_true rfl⟩ rfl rfl (cats_le _ (Nat.le_of_ble_eq_true rfl)) hl.1 dX11_rare_12 ⟨Nat.le_of_ble_eq_true rfl, Nat.le_of_ble_eq_true rfl⟩) hM (fun H locs hM => ?_)
  refine W_st (st' := [cr α 7 r_2.1, cr α 4 (some 0)]) rfl ?_
  obtain ⟨i_3, hd_3, h⟩ := bd_of h
  obtain ⟨r_4, hr_4, h⟩ := bd_of h
  refine c_go0 (c_rV (As := []) (rest := [cr α 4 (some 0)]) C hM h17 hd_3 (by decide) (cc_X2_wordsOfPath l D ca A α r_2.2 r_2.1 _ hr_4) cw_X11_363 ⟨rfl, rfl⟩ ⟨Nat.le_of_ble_eq_true rfl, Nat.le_of_ble_eq_true rfl⟩ rfl rfl (cats_le _ (Nat.le_of_ble_eq_true rfl)) hl.1 dX11_rare_15 ⟨Nat.le_of_ble_eq_true rfl, Nat.le_of_ble_eq_true rfl⟩) hM (fun H locs hM => ?_)
  refine W_st (st' := [.long r_4.1, cr α 4 (some 0)]) rfl ?_
  refine lv_iload_n hx hb dX11_rare_18 rfl (lv_at hl 1 rfl) ?_
  obtain ⟨r_5, hr_5, h⟩ := bd_of h
  refine c_go0 (c_rV (As := [.long r_4.1, .int x1]) (rest := []) C hM h17 (hM.cst 4 0 rfl) (by decide) (cc_X8_byRarity l D ca A α r_4.2 r_4.1 x1 _ hr_5) cw_X11_380 ⟨rfl, rfl⟩ ⟨Nat.le_of_ble_eq_true rfl, Nat.le_of_ble_eq_true rfl⟩ rfl rfl (cats_le _ (Nat.le_of_ble_eq_true rfl)) hl.1 dX11_rare_19 ⟨Nat.le_of_ble_eq_true rfl, Nat.le_of_ble_eq_true rfl⟩) hM (fun H locs hM => ?_)
  refine W_st (st' := [.int r_5.1]) rfl ?_
  refine lv_istore_n (lv' := [(2, .int r_5.1), (0, cr α 0 (some 0)), (1, .int x1)]) hx hb dX11_rare_22 rfl hl (by decide) rfl (fun ls hl => ?_)
  refine lv_iload_n hx hb dX11_rare_23 rfl (lv_at hl 0 rfl) ?_
  refine lv_iconst (v := (-1 : Int32)) hx hb dX11_rare_24 (by decide) ?_
  refine lv_icmp_ne (tgt := 39) hx hb dX11_rare_25 (by decide) (fun c_1 => ?_) (fun c_1 => ?_)
  · have h := br_F c_1 h
    refine lv_iload_n hx hb dX11_rare_39 rfl (lv_at hl 0 rfl) ?_
    refine W.widen (k := 2) (n := 12) (Nat.le_of_ble_eq_true rfl) (Nat.le_of_ble_eq_true rfl) ?_
    exact c_xr h (c_ri (o := (r_5.1, r_5.2)) C hM (fun _ => rfl) hr hlk dX11_rare_40 rfl)
  · have h := br_T c_1 h
    exact c_throwW5 (text := "no such word") C hM (fun _ => rfl) hst hout hlk (by decide +kernel) (wl_in (i := 1244) (by decide +kernel)) (wl_in (i := 39) (by decide +kernel)) dX11_rare_28 dX11_rare_31 dX11_rare_32 dX11_rare_35 dX11_rare_38 hl.1 (Nat.le_of_ble_eq_true rfl) (Nat.le_of_ble_eq_true rfl) (Nat.le_of_ble_eq_true rfl) (Nat.le_of_ble_eq_true rfl) (Nat.le_of_ble_eq_true rfl) (Nat.le_of_ble_eq_true rfl) h
/-! Lorewick.needNotOwned(I)V -/
abbrev rc_X11_needNotOwned : Room := { frames := 6, cells := 1, slots := 6, locals := 126 }
def fc_X11_needNotOwned (σ : cS) (x1 : Int32) : Option ((Nat ⊕ Unit) × cS) :=
  (fc_X8_current σ).bind fun r_1 =>
  (fc_X5_isOwnedAt r_1.2 x1 r_1.1).bind fun r_2 =>
  if r_2.1 = 0 then
    some (.inr (), r_2.2)
  else
    some (.inl 3, r_2.2)
set_option maxHeartbeats 4000000 in
set_option maxRecDepth 100000 in
theorem cc_X11_needNotOwned (l : Launch) (hst : l.stackTraces = false) (D : va_G) (ca : Nat → ClassId) (A : Nat → Prop) (α : cAl) (σ : cS) (x1 : Int32) (o : (Nat ⊕ Unit) × cS) (h : fc_X11_needNotOwned σ x1 = some o) : cMetX false l yX11_needNotOwned cX11_needNotOwned 2 ((none : Option FieldType)) rc_X11_needNotOwned 1 6 D ca true A α σ [cr α 0 (some 0), .int x1] (o.1.map id (fun (_ : Unit) _ => none)) o.2 := by
  refine vx_ofW (cc := cX11_needNotOwned) (maxL := 2) (ret := (none : Option FieldType)) (by decide) rfl ?_
  intro p e s m args below meth c s₁ B hml hout hv
  obtain ⟨rfl, hP, hK, hD0, hSh, hA, hG⟩ := hv
  have C : cC p s m _ c cX11_needNotOwned 2 RX11 D ca A α := ⟨B.exec, B.bytes, hml, findClass_of_methodNamed B.named, fun w hw => atoms_spec (ws := mWs yX11_needNotOwned cX11_needNotOwned 2 ((none : Option FieldType))) B.pre w (List.mem_cons_of_mem _ hw), hK, hG⟩
  have hM : cM D ca true A s.heap σ α σ α s.heap [] := ⟨hP, hD0, hSh, va_S.rf, hA, cX.rf⟩
  have h17 : 0 < cn σ 17 := c_17 hM
  have hr := B.returns
  have hlk := B.notSynchronized
  have hx := C.1
  have hb := C.2.1
  have hl := lv_entry ([cr α 0 (some 0), .int x1]) (n := 2) (Nat.le_of_ble_eq_true rfl)
  rw [lg_entry_eq]
  generalize (lg_sl ([cr α 0 (some 0), .int x1]) ++ List.replicate (2 - (lg_sl ([cr α 0 (some 0), .int x1])).length) Slot.unset).toArray = ls at hl ⊢
  have hl : lv_has ls 2 [(0, cr α 0 (some 0)), (1, .int x1)] := hl
  unfold fc_X11_needNotOwned at h
  refine c_aload_n (t := 0) (x := (some 0)) hx hb dX11_needNotOwned_0 rfl (lv_at hl 0 rfl) ?_
  refine c_getb C hM (k := 0) (f := 4) (j := 0) (t := 5) (hM.cst 0 0 rfl) (by decide) fl_X11_48 dX11_needNotOwned_1 ?_
  refine lv_iload_n hx hb dX11_needNotOwned_4 rfl (lv_at hl 1 rfl) ?_
  refine c_aload_n (t := 0) (x := (some 0)) hx hb dX11_needNotOwned_5 rfl (lv_at hl 0 rfl) ?_
  refine c_getb C hM (k := 0) (f := 3) (j := 0) (t := 4) (hM.cst 0 0 rfl) (by decide) fl_X11_41 dX11_needNotOwned_6 ?_
  obtain ⟨r_1, hr_1, h⟩ := bd_of h
  refine c_go0 (c_rV (As := []) (rest := [.int x1, cr α 5 (some 0)]) C hM h17 (hM.cst 4 0 rfl) (by decide) (cc_X8_current l D ca A α σ _ hr_1) cw_X11_338 ⟨rfl, rfl⟩ ⟨Nat.le_of_ble_eq_true rfl, Nat.le_of_ble_eq_true rfl⟩ rfl rfl (cats_le _ (Nat.le_of_ble_eq_true rfl)) hl.1 dX11_needNotOwned_9 ⟨Nat.le_of_ble_eq_true rfl, Nat.le_of_ble_eq_true rfl⟩) hM (fun H locs hM => ?_)
  refine W_st (st' := [cr α 7 r_1.1, .int x1, cr α 5 (some 0)]) rfl ?_
  obtain ⟨r_2, hr_2, h⟩ := bd_of h
  refine c_go0 (c_rV (As := [.int x1, cr α 7 r_1.1]) (rest := []) C hM h17 (hM.cst 5 0 rfl) (by decide) (cc_X5_isOwnedAt l D ca A α r_1.2 x1 r_1.1 _ hr_2) cw_X11_429 ⟨rfl, rfl⟩ ⟨Nat.le_of_ble_eq_true rfl, Nat.le_of_ble_eq_true rfl⟩ rfl rfl (cats_le _ (Nat.le_of_ble_eq_true rfl)) hl.1 dX11_needNotOwned_12 ⟨Nat.le_of_ble_eq_true rfl, Nat.le_of_ble_eq_true rfl⟩) hM (fun H locs hM => ?_)
  refine W_st (st' := [.int r_2.1]) rfl ?_
  refine lv_if_eq (tgt := 29) hx hb dX11_needNotOwned_15 (by decide) (fun c_1 => ?_) (fun c_1 => ?_)
  · have h := br_T c_1 h
    refine W.widen (k := 1) (n := 6) (Nat.le_of_ble_eq_true rfl) (Nat.le_of_ble_eq_true rfl) ?_
    exact c_xr h (c_rv (o := r_2.2) C hM (fun _ => rfl) hr hlk dX11_needNotOwned_29 rfl)
  · have h := br_F c_1 h
    exact c_throwW (k := 3) (text := "it is owned") C hM (fun _ => rfl) hst hout hlk (by decide +kernel) cx_at3 cx_ot3 (wl_in (i := 638) (by decide +kernel)) (wl_in (i := 22) (by decide +kernel)) rfl dX11_needNotOwned_18 dX11_needNotOwned_21 dX11_needNotOwned_22 dX11_needNotOwned_25 dX11_needNotOwned_28 hl.1 (Nat.le_of_ble_eq_true rfl) (Nat.le_of_ble_eq_true rfl) (Nat.le_of_ble_eq_true rfl) (Nat.le_of_ble_eq_true rfl) (Nat.le_of_ble_eq_true rfl) (Nat.le_of_ble_eq_true rfl) h
/-! Lorewick.price(I)I -/
abbrev rc_X11_price : Room := { frames := 7, cells := 3, slots := 18, locals := 154 }
def fc_X11_price (σ : cS) (x1 : Int32) : Option ((Nat ⊕ Int32) × cS) :=
  xb (fc_X11_needHint σ x1) fun v_1 u_1 =>
  xb (fc_X11_needPlay u_1) fun v_2 u_2 =>
  xb (fc_X11_needNotOwned u_2 x1) fun v_3 u_3 =>
  (fc_X8_current u_3).bind fun r_4 =>
  (fc_X5_priceAt r_4.2 x1 r_4.1).bind fun r_5 =>
  some (.inr r_5.1, r_5.2)
set_option maxHeartbeats 4000000 in
set_option maxRecDepth 100000 in
theorem cc_X11_price (l : Launch) (hst : l.stackTraces = false) (D : va_G) (ca : Nat → ClassId) (A : Nat → Prop) (α : cAl) (σ : cS) (x1 : Int32) (o : (Nat ⊕ Int32) × cS) (h : fc_X11_price σ x1 = some o) : cMetX false l yX11_price cX11_price 2 ((some FieldType.int)) rc_X11_price 3 18 D ca true A α σ [cr α 0 (some 0), .int x1] (o.1.map id (fun (v : Int32) _ => some (.int v))) o.2 := by
  refine vx_ofW (cc := cX11_price) (maxL := 2) (ret := (some FieldType.int)) (by decide) rfl ?_
  intro p e s m args below meth c s₁ B hml hout hv
  obtain ⟨rfl, hP, hK, hD0, hSh, hA, hG⟩ := hv
  have C : cC p s m _ c cX11_price 2 RX11 D ca A α := ⟨B.exec, B.bytes, hml, findClass_of_methodNamed B.named, fun w hw => atoms_spec (ws := mWs yX11_price cX11_price 2 ((some FieldType.int))) B.pre w (List.mem_cons_of_mem _ hw), hK, hG⟩
  have hM : cM D ca true A s.heap σ α σ α s.heap [] := ⟨hP, hD0, hSh, va_S.rf, hA, cX.rf⟩
  have h17 : 0 < cn σ 17 := c_17 hM
  have hr := B.returns
  have hlk := B.notSynchronized
  have hx := C.1
  have hb := C.2.1
  have hl := lv_entry ([cr α 0 (some 0), .int x1]) (n := 2) (Nat.le_of_ble_eq_true rfl)
  rw [lg_entry_eq]
  generalize (lg_sl ([cr α 0 (some 0), .int x1]) ++ List.replicate (2 - (lg_sl ([cr α 0 (some 0), .int x1])).length) Slot.unset).toArray = ls at hl ⊢
  have hl : lv_has ls 2 [(0, cr α 0 (some 0)), (1, .int x1)] := hl
  unfold fc_X11_price at h
  refine c_aload_n (t := 0) (x := (some 0)) hx hb dX11_price_0 rfl (lv_at hl 0 rfl) ?_
  refine lv_iload_n hx hb dX11_price_1 rfl (lv_at hl 1 rfl) ?_
  obtain ⟨r_1, u_1, hr_1⟩ := xb_some h
  refine c_gox2 (T := (fun (_ : Unit) _ => none)) (T2 := (fun (v : Int32) _ => some (.int v))) h hr_1 (c_rVx (As := [.int x1]) (rest := []) C hM h17 (hM.cst 0 0 rfl) (by decide) (cc_X11_needHint l hst D ca A α σ x1 _ hr_1) cw_X11_214 ⟨rfl, rfl⟩ ⟨Nat.le_of_ble_eq_true rfl, Nat.le_of_ble_eq_true rfl⟩ rfl rfl (cats_le _ (Nat.le_of_ble_eq_true rfl)) hl.1 dX11_price_2 ⟨Nat.le_of_ble_eq_true rfl, Nat.le_of_ble_eq_true rfl⟩) C hM (fun _ => ⟨rfl, rfl⟩) hout hlk (Nat.le_of_ble_eq_true rfl) (Nat.le_of_ble_eq_true rfl) (fun v_1 H locs α9 hα h hX_1 hM => ?_)
  obtain rfl : α = α9 := (hα rfl).symm
  refine W_st (st' := []) rfl ?_
  refine c_aload_n (t := 0) (x := (some 0)) hx hb dX11_price_5 rfl (lv_at hl 0 rfl) ?_
  obtain ⟨r_2, u_2, hr_2⟩ := xb_some h
  refine c_gox2 (T := (fun (_ : Unit) _ => none)) (T2 := (fun (v : Int32) _ => some (.int v))) h hr_2 (c_rVx (As := []) (rest := []) C hM h17 (hM.cst 0 0 rfl) (by decide) (cc_X11_needPlay l hst D ca A α u_1 _ hr_2) cw_X11_260 ⟨rfl, rfl⟩ ⟨Nat.le_of_ble_eq_true rfl, Nat.le_of_ble_eq_true rfl⟩ rfl rfl (cats_le _ (Nat.le_of_ble_eq_true rfl)) hl.1 dX11_price_6 ⟨Nat.le_of_ble_eq_true rfl, Nat.le_of_ble_eq_true rfl⟩) C hM (fun _ => ⟨rfl, rfl⟩) hout hlk (Nat.le_of_ble_eq_true rfl) (Nat.le_of_ble_eq_true rfl) (fun v_2 H locs α9 hα h hX_2 hM => ?_)
  obtain rfl : α = α9 := (hα rfl).symm
  refine W_st (st' := []) rfl ?_
  refine c_aload_n (t := 0) (x := (some 0)) hx hb dX11_price_9 rfl (lv_at hl 0 rfl) ?_
  refine lv_iload_n hx hb dX11_price_10 rfl (lv_at hl 1 rfl) ?_
  obtain ⟨r_3, u_3, hr_3⟩ := xb_some h
  refine c_gox2 (T := (fun (_ : Unit) _ => none)) (T2 := (fun (v : Int32) _ => some (.int v))) h hr_3 (c_rVx (As := [.int x1]) (rest := []) C hM h17 (hM.cst 0 0 rfl) (by decide) (cc_X11_needNotOwned l hst D ca A α u_2 x1 _ hr_3) cw_X11_386 ⟨rfl, rfl⟩ ⟨Nat.le_of_ble_eq_true rfl, Nat.le_of_ble_eq_true rfl⟩ rfl rfl (cats_le _ (Nat.le_of_ble_eq_true rfl)) hl.1 dX11_price_11 ⟨Nat.le_of_ble_eq_true rfl, Nat.le_of_ble_eq_true rfl⟩) C hM (fun _ => ⟨rfl, rfl⟩) hout hlk (Nat.le_of_ble_eq_true rfl) (Nat.le_of_ble_eq_true rfl) (fun v_3 H locs α9 hα h hX_3 hM => ?_)
  obtain rfl : α = α9 := (hα rfl).symm
  refine W_st (st' := []) rfl ?_
  refine c_aload_n (t := 0) (x := (some 0)) hx hb dX11_price_14 rfl (lv_at hl 0 rfl) ?_
  refine c_getb C hM (k := 0) (f := 4) (j := 0) (t := 5) (hM.cst 0 0 rfl) (by decide) fl_X11_48 dX11_price_15 ?_
  refine lv_iload_n hx hb dX11_price_18 rfl (lv_at hl 1 rfl) ?_
  refine c_aload_n (t := 0) (x := (some 0)) hx hb dX11_price_19 rfl (lv_at hl 0 rfl) ?_
  refine c_getb C hM (k := 0) (f := 3) (j := 0) (t := 4) (hM.cst 0 0 rfl) (by decide) fl_X11_41 dX11_price_20 ?_
  obtain ⟨r_4, hr_4, h⟩ := bd_of h
  refine c_go0 (c_rV (As := []) (rest := [.int x1, cr α 5 (some 0)]) C hM h17 (hM.cst 4 0 rfl) (by decide) (cc_X8_current l D ca A α u_3 _ hr_4) cw_X11_338 ⟨rfl, rfl⟩ ⟨Nat.le_of_ble_eq_true rfl, Nat.le_of_ble_eq_true rfl⟩ rfl rfl (cats_le _ (Nat.le_of_ble_eq_true rfl)) hl.1 dX11_price_23 ⟨Nat.le_of_ble_eq_true rfl, Nat.le_of_ble_eq_true rfl⟩) hM (fun H locs hM => ?_)
  refine W_st (st' := [cr α 7 r_4.1, .int x1, cr α 5 (some 0)]) rfl ?_
  refine c_aload_n (t := 0) (x := (some 0)) hx hb dX11_price_26 rfl (lv_at hl 0 rfl) ?_
  refine c_getb C hM (k := 0) (f := 3) (j := 0) (t := 4) (hM.cst 0 0 rfl) (by decide) fl_X11_41 dX11_price_27 ?_
  obtain ⟨r_5, hr_5, h⟩ := bd_of h
  refine c_go0 (c_rV (As := [.int x1, cr α 7 r_4.1, cr α 4 (some 0)]) (rest := []) C hM h17 (hM.cst 5 0 rfl) (by decide) (cc_X5_priceAt l D ca A α r_4.2 x1 r_4.1 _ hr_5) cw_X11_389 ⟨rfl, rfl⟩ ⟨Nat.le_of_ble_eq_true rfl, Nat.le_of_ble_eq_true rfl⟩ rfl rfl (cats_le _ (Nat.le_of_ble_eq_true rfl)) hl.1 dX11_price_30 ⟨Nat.le_of_ble_eq_true rfl, Nat.le_of_ble_eq_true rfl⟩) hM (fun H locs hM => ?_)
  refine W_st (st' := [.int r_5.1]) rfl ?_
  exact c_xr h (c_ri (o := (r_5.1, r_5.2)) C hM (fun _ => rfl) hr hlk dX11_price_33 rfl)
/-! Lorewick.buy(I)I -/
abbrev rc_X11_buy : Room := { frames := 10, cells := 12, slots := 470, locals := 277 }
def fc_X11_buy (σ : cS) (x1 : Int32) : Option ((Nat ⊕ Int32) × cS) :=
  xb (fc_X11_needHint σ x1) fun v_1 u_1 =>
  xb (fc_X11_needPlay u_1) fun v_2 u_2 =>
  (fc_X8_isFull u_2).bind fun r_3 =>
  if r_3.1 = 0 then
    xb (fc_X11_needNotOwned r_3.2 x1) fun v_4 u_4 =>
    if x1 < 0 ∨ 12 ≤ x1.toNatClampNeg then none else
    (fc_X8_current u_4).bind fun r_5 =>
    (dr r_5.2 7 r_5.1).bind fun i_6 =>
    (fc_X2_wordsOfPath r_5.2 r_5.1).bind fun r_7 =>
    if (lg_cmp ((cJ u_4 15 3 x1.toNatClampNeg) &&& (r_7.1 ^^^ (-1 : Int64))) (0 : Int64)) = 0 then
      some (.inl 3, r_7.2)
    else
      (fc_X8_current r_7.2).bind fun r_8 =>
      (fc_X5_priceAt r_8.2 x1 r_8.1).bind fun r_9 =>
      if r_9.1 ≤ (cI r_9.2 5 0 4) then
        (fc_X8_current r_9.2).bind fun r_10 =>
        (dr r_10.2 7 r_10.1).bind fun i_11 =>
        (fc_X6_copy r_10.2 (some 0) (cR r_10.2 7 i_11 3)).bind fun r_12 =>
        (dr (uN r_12 8 0 0) 8 (some (cn r_12 8))).bind fun i_16 =>
        (fc_X1_init (uN r_12 8 0 0) (some (cn r_12 8)) (some 12) x1 (-1 : Int32)).bind fun r_15 =>
        (fc_X11_follow r_15 (some (cn r_12 8))).bind fun r_17 =>
        (fc_X8_current (uN (uI r_17 5 0 4 ((cI r_17 5 0 4) - r_9.1)) 9 0 0)).bind fun r_22 =>
        (dr r_22.2 9 (some (cn (uI r_17 5 0 4 ((cI r_17 5 0 4) - r_9.1)) 9))).bind fun i_24 =>
        (fc_X4_init r_22.2 (some (cn (uI r_17 5 0 4 ((cI r_17 5 0 4) - r_9.1)) 9)) x1 r_22.1 r_9.1).bind fun r_23 =>
        (fc_Jx4a65c_add_9ea2d r_23 (some 1) (some (cn (uI r_17 5 0 4 ((cI r_17 5 0 4) - r_9.1)) 9)) 9).bind fun r_25 =>
        some (.inr (cI r_25.2 4 0 2), r_25.2)
      else
        some (.inl 5, r_9.2)
  else
    some (.inl 2, r_3.2)
set_option maxHeartbeats 4000000 in
set_option maxRecDepth 100000 in
theorem cc_X11_buy (l : Launch) (hst : l.stackTraces = false) (D : va_G) (ca : Nat → ClassId) (A : Nat → Prop) (α : cAl) (σ : cS) (x1 : Int32) (o : (Nat ⊕ Int32) × cS) (h : fc_X11_buy σ x1 = some o) : cMetX true l yX11_buy cX11_buy 3 ((some FieldType.int)) rc_X11_buy 12 470 D ca true A α σ [cr α 0 (some 0), .int x1] (o.1.map id (fun (v : Int32) _ => some (.int v))) o.2 := by
  refine vx_ofW (cc := cX11_buy) (maxL := 3) (ret := (some FieldType.int)) (by decide) rfl ?_
  intro p e s m args below meth c s₁ B hml hout hv
  obtain ⟨rfl, hP, hK, hD0, hSh, hA, hG⟩ := hv
  have C : cC p s m _ c cX11_buy 3 RX11 D ca A α := ⟨B.exec, B.bytes, hml, findClass_of_methodNamed B.named, fun w hw => atoms_spec (ws := mWs yX11_buy cX11_buy 3 ((some FieldType.int))) B.pre w (List.mem_cons_of_mem _ hw), hK, hG⟩
  have hM : cM D ca true A s.heap σ α σ α s.heap [] := ⟨hP, hD0, hSh, va_S.rf, hA, cX.rf⟩
  have h17 : 0 < cn σ 17 := c_17 hM
  have hr := B.returns
  have hlk := B.notSynchronized
  have hx := C.1
  have hb := C.2.1
  have hl := lv_entry ([cr α 0 (some 0), .int x1]) (n := 3) (Nat.le_of_ble_eq_true rfl)
  rw [lg_entry_eq]
  generalize (lg_sl ([cr α 0 (some 0), .int x1]) ++ List.replicate (3 - (lg_sl ([cr α 0 (some 0), .int x1])).length) Slot.unset).toArray = ls at hl ⊢
  have hl : lv_has ls 3 [(0, cr α 0 (some 0)), (1, .int x1)] := hl
  unfold fc_X11_buy at h
  refine c_aload_n (t := 0) (x := (some 0)) hx hb dX11_buy_0 rfl (lv_at hl 0 rfl) ?_
  refine lv_iload_n hx hb dX11_buy_1 rfl (lv_at hl 1 rfl) ?_
  obtain ⟨r_1, u_1, hr_1⟩ := xb_some h
  refine c_gox2 (T := (fun (_ : Unit) _ => none)) (T2 := (fun (v : Int32) _ => some (.int v))) h hr_1 (c_rVx (As := [.int x1]) (rest := []) C hM h17 (hM.cst 0 0 rfl) (by decide) (cc_X11_needHint l hst D ca A α σ x1 _ hr_1) cw_X11_214 ⟨rfl, rfl⟩ ⟨Nat.le_of_ble_eq_true rfl, Nat.le_of_ble_eq_true rfl⟩ rfl rfl (cats_le _ (Nat.le_of_ble_eq_true rfl)) hl.1 dX11_buy_2 ⟨Nat.le_of_ble_eq_true rfl, Nat.le_of_ble_eq_true rfl⟩) C hM (fun h => by cases h) hout hlk (Nat.le_of_ble_eq_true rfl) (Nat.le_of_ble_eq_true rfl) (fun v_1 H locs α9 hα h hX_1 hM => ?_)
  obtain rfl : α = α9 := (hα rfl).symm
  refine W_st (st' := []) rfl ?_
  refine c_aload_n (t := 0) (x := (some 0)) hx hb dX11_buy_5 rfl (lv_at hl 0 rfl) ?_
  obtain ⟨r_2, u_2, hr_2⟩ := xb_some h
  refine c_gox2 (T := (fun (_ : Unit) _ => none)) (T2 := (fun (v : Int32) _ => some (.int v))) h hr_2 (c_rVx (As := []) (rest := []) C hM h17 (hM.cst 0 0 rfl) (by decide) (cc_X11_needPlay l hst D ca A α u_1 _ hr_2) cw_X11_260 ⟨rfl, rfl⟩ ⟨Nat.le_of_ble_eq_true rfl, Nat.le_of_ble_eq_true rfl⟩ rfl rfl (cats_le _ (Nat.le_of_ble_eq_true rfl)) hl.1 dX11_buy_6 ⟨Nat.le_of_ble_eq_true rfl, Nat.le_of_ble_eq_true rfl⟩) C hM (fun h => by cases h) hout hlk (Nat.le_of_ble_eq_true rfl) (Nat.le_of_ble_eq_true rfl) (fun v_2 H locs α9 hα h hX_2 hM => ?_)
  obtain rfl : α = α9 := (hα rfl).symm
  refine W_st (st' := []) rfl ?_
  refine c_aload_n (t := 0) (x := (some 0)) hx hb dX11_buy_9 rfl (lv_at hl 0 rfl) ?_
  refine c_getb C hM (k := 0) (f := 3) (j := 0) (t := 4) (hM.cst 0 0 rfl) (by decide) fl_X11_41 dX11_buy_10 ?_
  obtain ⟨r_3, hr_3, h⟩ := bd_of h
  refine c_go0 (c_rV (As := []) (rest := []) C hM h17 (hM.cst 4 0 rfl) (by decide) (cc_X8_isFull l D ca A α u_2 _ hr_3) cw_X11_393 ⟨rfl, rfl⟩ ⟨Nat.le_of_ble_eq_true rfl, Nat.le_of_ble_eq_true rfl⟩ rfl rfl (cats_le _ (Nat.le_of_ble_eq_true rfl)) hl.1 dX11_buy_13 ⟨Nat.le_of_ble_eq_true rfl, Nat.le_of_ble_eq_true rfl⟩) hM (fun H locs hM => ?_)
  refine W_st (st' := [.int r_3.1]) rfl ?_
  refine lv_if_eq (tgt := 30) hx hb dX11_buy_16 (by decide) (fun c_1 => ?_) (fun c_1 => ?_)
  · have h := br_T c_1 h
    refine c_aload_n (t := 0) (x := (some 0)) hx hb dX11_buy_30 rfl (lv_at hl 0 rfl) ?_
    refine lv_iload_n hx hb dX11_buy_31 rfl (lv_at hl 1 rfl) ?_
    obtain ⟨r_4, u_4, hr_4⟩ := xb_some h
    refine c_gox2 (T := (fun (_ : Unit) _ => none)) (T2 := (fun (v : Int32) _ => some (.int v))) h hr_4 (c_rVx (As := [.int x1]) (rest := []) C hM h17 (hM.cst 0 0 rfl) (by decide) (cc_X11_needNotOwned l hst D ca A α r_3.2 x1 _ hr_4) cw_X11_386 ⟨rfl, rfl⟩ ⟨Nat.le_of_ble_eq_true rfl, Nat.le_of_ble_eq_true rfl⟩ rfl rfl (cats_le _ (Nat.le_of_ble_eq_true rfl)) hl.1 dX11_buy_32 ⟨Nat.le_of_ble_eq_true rfl, Nat.le_of_ble_eq_true rfl⟩) C hM (fun h => by cases h) hout hlk (Nat.le_of_ble_eq_true rfl) (Nat.le_of_ble_eq_true rfl) (fun v_4 H locs α9 hα h hX_4 hM => ?_)
    obtain rfl : α = α9 := (hα rfl).symm
    refine W_st (st' := []) rfl ?_
    refine c_aload_n (t := 0) (x := (some 0)) hx hb dX11_buy_35 rfl (lv_at hl 0 rfl) ?_
    refine c_getb C hM (k := 0) (f := 4) (j := 0) (t := 5) (hM.cst 0 0 rfl) (by decide) fl_X11_48 dX11_buy_36 ?_
    refine c_getb C hM (k := 5) (f := 1) (j := 3) (t := 15) (hM.cst 5 0 rfl) (by decide) fl_X11_217 dX11_buy_39 ?_
    refine lv_iload_n hx hb dX11_buy_42 rfl (lv_at hl 1 rfl) ?_
    obtain ⟨c_2, h⟩ := ko_of h
    refine c_lald C hM (hM.cst 15 3 rfl) (by rw [hM.ln 15 3 12 (by decide)]; exact c_2) dX11_buy_43 ?_
    refine c_aload_n (t := 0) (x := (some 0)) hx hb dX11_buy_44 rfl (lv_at hl 0 rfl) ?_
    refine c_getb C hM (k := 0) (f := 3) (j := 0) (t := 4) (hM.cst 0 0 rfl) (by decide) fl_X11_41 dX11_buy_45 ?_
    obtain ⟨r_5, hr_5, h⟩ := bd_of h
    refine c_go0 (c_rV (As := []) (rest := [.long (cJ u_4 15 3 x1.toNatClampNeg)]) C hM h17 (hM.cst 4 0 rfl) (by decide) (cc_X8_current l D ca A α u_4 _ hr_5) cw_X11_338 ⟨rfl, rfl⟩ ⟨Nat.le_of_ble_eq_true rfl, Nat.le_of_ble_eq_true rfl⟩ rfl rfl (cats_le _ (Nat.le_of_ble_eq_true rfl)) hl.1 dX11_buy_48 ⟨Nat.le_of_ble_eq_true rfl, Nat.le_of_ble_eq_true rfl⟩) hM (fun H locs hM => ?_)
    refine W_st (st' := [cr α 7 r_5.1, .long (cJ u_4 15 3 x1.toNatClampNeg)]) rfl ?_
    obtain ⟨i_6, hd_6, h⟩ := bd_of h
    obtain ⟨r_7, hr_7, h⟩ := bd_of h
    refine c_go0 (c_rV (As := []) (rest := [.long (cJ u_4 15 3 x1.toNatClampNeg)]) C hM h17 hd_6 (by decide) (cc_X2_wordsOfPath l D ca A α r_5.2 r_5.1 _ hr_7) cw_X11_363 ⟨rfl, rfl⟩ ⟨Nat.le_of_ble_eq_true rfl, Nat.le_of_ble_eq_true rfl⟩ rfl rfl (cats_le _ (Nat.le_of_ble_eq_true rfl)) hl.1 dX11_buy_51 ⟨Nat.le_of_ble_eq_true rfl, Nat.le_of_ble_eq_true rfl⟩) hM (fun H locs hM => ?_)
    refine W_st (st' := [.long r_7.1, .long (cJ u_4 15 3 x1.toNatClampNeg)]) rfl ?_
    refine lv_ldc2 (own := RX11) (v := (-1 : Int64)) hx hb C.2.2.2.1 (C.2.2.2.2.1 _ (wl_in (i := 1433) (by decide +kernel))) dX11_buy_54 ?_
    refine lv_lxor hx hb dX11_buy_57 ?_
    refine lv_land hx hb dX11_buy_58 ?_
    refine lv_lconst (v := (0 : Int64)) hx hb dX11_buy_59 (by decide) ?_
    refine W.lcmp hx hb dX11_buy_60 ?_
    refine lv_if_ne (tgt := 75) hx hb dX11_buy_61 (by decide) (fun c_3 => ?_) (fun c_3 => ?_)
    · have h := br_F c_3 h
      refine c_aload_n (t := 0) (x := (some 0)) hx hb dX11_buy_75 rfl (lv_at hl 0 rfl) ?_
      refine c_getb C hM (k := 0) (f := 4) (j := 0) (t := 5) (hM.cst 0 0 rfl) (by decide) fl_X11_48 dX11_buy_76 ?_
      refine lv_iload_n hx hb dX11_buy_79 rfl (lv_at hl 1 rfl) ?_
      refine c_aload_n (t := 0) (x := (some 0)) hx hb dX11_buy_80 rfl (lv_at hl 0 rfl) ?_
      refine c_getb C hM (k := 0) (f := 3) (j := 0) (t := 4) (hM.cst 0 0 rfl) (by decide) fl_X11_41 dX11_buy_81 ?_
      obtain ⟨r_8, hr_8, h⟩ := bd_of h
      refine c_go0 (c_rV (As := []) (rest := [.int x1, cr α 5 (some 0)]) C hM h17 (hM.cst 4 0 rfl) (by decide) (cc_X8_current l D ca A α r_7.2 _ hr_8) cw_X11_338 ⟨rfl, rfl⟩ ⟨Nat.le_of_ble_eq_true rfl, Nat.le_of_ble_eq_true rfl⟩ rfl rfl (cats_le _ (Nat.le_of_ble_eq_true rfl)) hl.1 dX11_buy_84 ⟨Nat.le_of_ble_eq_true rfl, Nat.le_of_ble_eq_true rfl⟩) hM (fun H locs hM => ?_)
      refine W_st (st' := [cr α 7 r_8.1, .int x1, cr α 5 (some 0)]) rfl ?_
      refine c_aload_n (t := 0) (x := (some 0)) hx hb dX11_buy_87 rfl (lv_at hl 0 rfl) ?_
      refine c_getb C hM (k := 0) (f := 3) (j := 0) (t := 4) (hM.cst 0 0 rfl) (by decide) fl_X11_41 dX11_buy_88 ?_
      obtain ⟨r_9, hr_9, h⟩ := bd_of h
      refine c_go0 (c_rV (As := [.int x1, cr α 7 r_8.1, cr α 4 (some 0)]) (rest := []) C hM h17 (hM.cst 5 0 rfl) (by decide) (cc_X5_priceAt l D ca A α r_8.2 x1 r_8.1 _ hr_9) cw_X11_389 ⟨rfl, rfl⟩ ⟨Nat.le_of_ble_eq_true rfl, Nat.le_of_ble_eq_true rfl⟩ rfl rfl (cats_le _ (Nat.le_of_ble_eq_true rfl)) hl.1 dX11_buy_91 ⟨Nat.le_of_ble_eq_true rfl, Nat.le_of_ble_eq_true rfl⟩) hM (fun H locs hM => ?_)
      refine W_st (st' := [.int r_9.1]) rfl ?_
      refine lv_istore_n (lv' := [(2, .int r_9.1), (0, cr α 0 (some 0)), (1, .int x1)]) hx hb dX11_buy_94 rfl hl (by decide) rfl (fun ls hl => ?_)
      refine lv_iload_n hx hb dX11_buy_95 rfl (lv_at hl 0 rfl) ?_
      refine c_aload_n (t := 0) (x := (some 0)) hx hb dX11_buy_96 rfl (lv_at hl 1 rfl) ?_
      refine c_getb C hM (k := 0) (f := 4) (j := 0) (t := 5) (hM.cst 0 0 rfl) (by decide) fl_X11_48 dX11_buy_97 ?_
      refine c_geti C hM (k := 5) (f := 4) (hM.cst 5 0 rfl) rfl fl_X11_403 dX11_buy_100 ?_
      refine lv_icmp_le (tgt := 117) hx hb dX11_buy_103 (by decide) (fun c_4 => ?_) (fun c_4 => ?_)
      · have h := br_T c_4 h
        refine c_aload_n (t := 0) (x := (some 0)) hx hb dX11_buy_117 rfl (lv_at hl 1 rfl) ?_
        refine c_getb C hM (k := 0) (f := 5) (j := 0) (t := 6) (hM.cst 0 0 rfl) (by decide) fl_X11_55 dX11_buy_118 ?_
        refine c_aload_n (t := 0) (x := (some 0)) hx hb dX11_buy_121 rfl (lv_at hl 1 rfl) ?_
        refine c_getb C hM (k := 0) (f := 3) (j := 0) (t := 4) (hM.cst 0 0 rfl) (by decide) fl_X11_41 dX11_buy_122 ?_
        obtain ⟨r_10, hr_10, h⟩ := bd_of h
        refine c_go0 (c_rV (As := []) (rest := [cr α 6 (some 0)]) C hM h17 (hM.cst 4 0 rfl) (by decide) (cc_X8_current l D ca A α r_9.2 _ hr_10) cw_X11_338 ⟨rfl, rfl⟩ ⟨Nat.le_of_ble_eq_true rfl, Nat.le_of_ble_eq_true rfl⟩ rfl rfl (cats_le _ (Nat.le_of_ble_eq_true rfl)) hl.1 dX11_buy_125 ⟨Nat.le_of_ble_eq_true rfl, Nat.le_of_ble_eq_true rfl⟩) hM (fun H locs hM => ?_)
        refine W_st (st' := [cr α 7 r_10.1, cr α 6 (some 0)]) rfl ?_
        obtain ⟨i_11, hd_11, h⟩ := bd_of h
        refine c_getrt C hM (k := 7) (f := 3) (t := 6) hd_11 (by decide) fl_X11_408 dX11_buy_128 ?_
        obtain ⟨r_12, hr_12, h⟩ := bd_of h
        refine c_go0 (c_rV (As := [cr α 6 (cR r_10.2 7 i_11 3)]) (rest := []) C hM h17 (hM.cst 6 0 rfl) (by decide) (cc_X6_copy l D ca A α r_10.2 (some 0) (cR r_10.2 7 i_11 3) _ hr_12) cw_X11_411 ⟨rfl, rfl⟩ ⟨Nat.le_of_ble_eq_true rfl, Nat.le_of_ble_eq_true rfl⟩ rfl rfl (cats_le _ (Nat.le_of_ble_eq_true rfl)) hl.1 dX11_buy_131 ⟨Nat.le_of_ble_eq_true rfl, Nat.le_of_ble_eq_true rfl⟩) hM (fun H locs hM => ?_)
        refine W_st (st' := []) rfl ?_
        refine c_aload_n (t := 0) (x := (some 0)) hx hb dX11_buy_134 rfl (lv_at hl 1 rfl) ?_
        have hlv_14 := c_lvc hM 0 0 rfl
        refine c_new (k := 8) C hM (by decide) ⟨⟨wl_in (i := 934) (by decide +kernel), wl_in (i := 935) (by decide +kernel)⟩, wl_in (i := 32) (by decide +kernel)⟩ (Nat.le_of_ble_eq_true rfl) (Nat.le_of_ble_eq_true rfl) dX11_buy_135 (fun H α_1 hX_13 hM => ?_)
        have e_14 : cr α 0 (some 0) = cr α_1 0 (some 0) := cr_to hX_13 hlv_14
        have hl := lv_to (lv_sub hl [0, 1, 2] rfl) (show ([(2, .int r_9.1), (0, cr α 0 (some 0)), (1, .int x1)] : List (Nat × Value)) = [(2, .int r_9.1), (0, cr α_1 0 (some 0)), (1, .int x1)] by rw [e_14])
        refine W_st (st' := [cr α_1 8 (some (cn r_12 8)), cr α_1 0 (some 0)]) (show ([cr α_1 8 (some (cn r_12 8)), cr α 0 (some 0)] : List Value) = _ by rw [e_14]) ?_
        refine lv_dup hx hb dX11_buy_138 cr_cat ?_
        refine c_getV C hM 12 (nm := "BUY") (by decide) fl_X11_415 dX11_buy_139 ?_
        refine lv_iload_n hx hb dX11_buy_142 rfl (lv_at hl 2 rfl) ?_
        refine lv_iconst (v := (-1 : Int32)) hx hb dX11_buy_143 (by decide) ?_
        obtain ⟨i_16, hd_16, h⟩ := bd_of h
        obtain ⟨r_15, hr_15, h⟩ := bd_of h
        refine c_go0 (c_rI (As := [cr α_1 18 (some 12), .int x1, .int (-1 : Int32)]) (rest := [cr α_1 8 (some (cn r_12 8)), cr α_1 0 (some 0)]) C hM h17 hd_16 (cc_X1_init l D ca A α_1 (uN r_12 8 0 0) (some (cn r_12 8)) (some 12) x1 (-1 : Int32) _ hr_15) cw_X11_246 ⟨rfl, rfl⟩ ⟨Nat.le_of_ble_eq_true rfl, Nat.le_of_ble_eq_true rfl⟩ rfl rfl (cats_le _ (Nat.le_of_ble_eq_true rfl)) hl.1 dX11_buy_144 ⟨Nat.le_of_ble_eq_true rfl, Nat.le_of_ble_eq_true rfl⟩) hM (fun H locs hM => ?_)
        refine W_st (st' := [cr α_1 8 (some (cn r_12 8)), cr α_1 0 (some 0)]) rfl ?_
        have hlv_18 := c_lvc hM 0 0 rfl
        obtain ⟨r_17, hr_17, h⟩ := bd_of h
        refine c_go1 (c_rV (As := [cr α_1 8 (some (cn r_12 8))]) (rest := []) C hM h17 (hM.cst 0 0 rfl) (by decide) (cc_X11_follow l D ca A α_1 r_15 (some (cn r_12 8)) _ hr_17) cw_X11_275 ⟨rfl, rfl⟩ ⟨Nat.le_of_ble_eq_true rfl, Nat.le_of_ble_eq_true rfl⟩ rfl rfl (cats_le _ (Nat.le_of_ble_eq_true rfl)) hl.1 dX11_buy_147 ⟨Nat.le_of_ble_eq_true rfl, Nat.le_of_ble_eq_true rfl⟩) hM (fun H locs α_2 hX_17 hM => ?_)
        have e_18 : cr α_1 0 (some 0) = cr α_2 0 (some 0) := cr_to hX_17 hlv_18
        have hl := lv_to (lv_sub hl [0, 1, 2] rfl) (show ([(2, .int r_9.1), (0, cr α_1 0 (some 0)), (1, .int x1)] : List (Nat × Value)) = [(2, .int r_9.1), (0, cr α_2 0 (some 0)), (1, .int x1)] by rw [e_18])
        refine W_st (st' := []) rfl ?_
        refine c_aload_n (t := 0) (x := (some 0)) hx hb dX11_buy_150 rfl (lv_at hl 1 rfl) ?_
        refine c_getb C hM (k := 0) (f := 4) (j := 0) (t := 5) (hM.cst 0 0 rfl) (by decide) fl_X11_48 dX11_buy_151 ?_
        refine lv_dup hx hb dX11_buy_154 cr_cat ?_
        refine c_geti C hM (k := 5) (f := 4) (hM.cst 5 0 rfl) rfl fl_X11_403 dX11_buy_155 ?_
        refine lv_iload_n hx hb dX11_buy_158 rfl (lv_at hl 0 rfl) ?_
        refine lv_isub hx hb dX11_buy_159 ?_
        refine c_puti C hM (k := 5) (f := 4) (hM.cst 5 0 rfl) rfl fl_X11_403 (Or.inl rfl) dX11_buy_160 (fun H locs hM => ?_)
        refine c_aload_n (t := 0) (x := (some 0)) hx hb dX11_buy_163 rfl (lv_at hl 1 rfl) ?_
        refine c_getb C hM (k := 0) (f := 4) (j := 0) (t := 5) (hM.cst 0 0 rfl) (by decide) fl_X11_48 dX11_buy_164 ?_
        refine c_getb C hM (k := 5) (f := 3) (j := 1) (t := 10) (hM.cst 5 0 rfl) (by decide) fl_X11_418 dX11_buy_167 ?_
        have hlv_20 := c_lvc hM 0 0 rfl
        have hlv_21 := c_lvc hM 10 1 rfl
        refine c_new (k := 9) C hM (by decide) ⟨⟨wl_in (i := 1438) (by decide +kernel), wl_in (i := 1439) (by decide +kernel)⟩, wl_in (i := 40) (by decide +kernel)⟩ (Nat.le_of_ble_eq_true rfl) (Nat.le_of_ble_eq_true rfl) dX11_buy_170 (fun H α_3 hX_19 hM => ?_)
        have e_20 : cr α_2 0 (some 0) = cr α_3 0 (some 0) := cr_to hX_19 hlv_20
        have e_21 : cr α_2 10 (some 1) = cr α_3 10 (some 1) := cr_to hX_19 hlv_21
        have hl := lv_to (lv_sub hl [0, 1, 2] rfl) (show ([(2, .int r_9.1), (0, cr α_2 0 (some 0)), (1, .int x1)] : List (Nat × Value)) = [(2, .int r_9.1), (0, cr α_3 0 (some 0)), (1, .int x1)] by rw [e_20])
        refine W_st (st' := [cr α_3 9 (some (cn (uI r_17 5 0 4 ((cI r_17 5 0 4) - r_9.1)) 9)), cr α_3 10 (some 1)]) (show ([cr α_3 9 (some (cn (uI r_17 5 0 4 ((cI r_17 5 0 4) - r_9.1)) 9)), cr α_2 10 (some 1)] : List Value) = _ by rw [e_21]) ?_
        refine lv_dup hx hb dX11_buy_173 cr_cat ?_
        refine lv_iload_n hx hb dX11_buy_174 rfl (lv_at hl 2 rfl) ?_
        refine c_aload_n (t := 0) (x := (some 0)) hx hb dX11_buy_175 rfl (lv_at hl 1 rfl) ?_
        refine c_getb C hM (k := 0) (f := 3) (j := 0) (t := 4) (hM.cst 0 0 rfl) (by decide) fl_X11_41 dX11_buy_176 ?_
        obtain ⟨r_22, hr_22, h⟩ := bd_of h
        refine c_go0 (c_rV (As := []) (rest := [.int x1, cr α_3 9 (some (cn (uI r_17 5 0 4 ((cI r_17 5 0 4) - r_9.1)) 9)), cr α_3 9 (some (cn (uI r_17 5 0 4 ((cI r_17 5 0 4) - r_9.1)) 9)), cr α_3 10 (some 1)]) C hM h17 (hM.cst 4 0 rfl) (by decide) (cc_X8_current l D ca A α_3 (uN (uI r_17 5 0 4 ((cI r_17 5 0 4) - r_9.1)) 9 0 0) _ hr_22) cw_X11_338 ⟨rfl, rfl⟩ ⟨Nat.le_of_ble_eq_true rfl, Nat.le_of_ble_eq_true rfl⟩ rfl rfl (cats_le _ (Nat.le_of_ble_eq_true rfl)) hl.1 dX11_buy_179 ⟨Nat.le_of_ble_eq_true rfl, Nat.le_of_ble_eq_true rfl⟩) hM (fun H locs hM => ?_)
        refine W_st (st' := [cr α_3 7 r_22.1, .int x1, cr α_3 9 (some (cn (uI r_17 5 0 4 ((cI r_17 5 0 4) - r_9.1)) 9)), cr α_3 9 (some (cn (uI r_17 5 0 4 ((cI r_17 5 0 4) - r_9.1)) 9)), cr α_3 10 (some 1)]) rfl ?_
        refine lv_iload_n hx hb dX11_buy_182 rfl (lv_at hl 0 rfl) ?_
        obtain ⟨i_24, hd_24, h⟩ := bd_of h
        obtain ⟨r_23, hr_23, h⟩ := bd_of h
        refine c_go0 (c_rI (As := [.int x1, cr α_3 7 r_22.1, .int r_9.1]) (rest := [cr α_3 9 (some (cn (uI r_17 5 0 4 ((cI r_17 5 0 4) - r_9.1)) 9)), cr α_3 10 (some 1)]) C hM h17 hd_24 (cc_X4_init l D ca A α_3 r_22.2 (some (cn (uI r_17 5 0 4 ((cI r_17 5 0 4) - r_9.1)) 9)) x1 r_22.1 r_9.1 _ hr_23) cw_X11_423 ⟨rfl, rfl⟩ ⟨Nat.le_of_ble_eq_true rfl, Nat.le_of_ble_eq_true rfl⟩ rfl rfl (cats_le _ (Nat.le_of_ble_eq_true rfl)) hl.1 dX11_buy_183 ⟨Nat.le_of_ble_eq_true rfl, Nat.le_of_ble_eq_true rfl⟩) hM (fun H locs hM => ?_)
        refine W_st (st' := [cr α_3 9 (some (cn (uI r_17 5 0 4 ((cI r_17 5 0 4) - r_9.1)) 9)), cr α_3 10 (some 1)]) rfl ?_
        have hlv_26 := c_lvc hM 0 0 rfl
        obtain ⟨r_25, hr_25, h⟩ := bd_of h
        refine c_go1 (c_rV (As := [cr α_3 9 (some (cn (uI r_17 5 0 4 ((cI r_17 5 0 4) - r_9.1)) 9))]) (rest := []) C hM h17 (hM.cst 10 1 rfl) (by decide) (cc_Jx4a65c_add_9ea2d l D ca A α_3 r_23 (some 1) (some (cn (uI r_17 5 0 4 ((cI r_17 5 0 4) - r_9.1)) 9)) 9 _ hr_25) cw_X11_426 ⟨rfl, rfl⟩ ⟨Nat.le_of_ble_eq_true rfl, Nat.le_of_ble_eq_true rfl⟩ rfl rfl (cats_le _ (Nat.le_of_ble_eq_true rfl)) hl.1 dX11_buy_186 ⟨Nat.le_of_ble_eq_true rfl, Nat.le_of_ble_eq_true rfl⟩) hM (fun H locs α_4 hX_25 hM => ?_)
        have e_26 : cr α_3 0 (some 0) = cr α_4 0 (some 0) := cr_to hX_25 hlv_26
        have hl := lv_to (lv_sub hl [1] rfl) (show ([(0, cr α_3 0 (some 0))] : List (Nat × Value)) = [(0, cr α_4 0 (some 0))] by rw [e_26])
        refine W_st (st' := [.int r_25.1]) rfl ?_
        refine lv_pop hx hb dX11_buy_189 rfl ?_
        refine c_aload_n (t := 0) (x := (some 0)) hx hb dX11_buy_190 rfl (lv_at hl 0 rfl) ?_
        refine c_getb C hM (k := 0) (f := 3) (j := 0) (t := 4) (hM.cst 0 0 rfl) (by decide) fl_X11_41 dX11_buy_191 ?_
        refine c_geti C hM (k := 4) (f := 2) (hM.cst 4 0 rfl) rfl fl_X11_300 dX11_buy_194 ?_
        exact c_xr h (c_ri (o := ((cI r_25.2 4 0 2), r_25.2)) C hM (fun h => by cases h) hr hlk dX11_buy_197 rfl)
      · have h := br_F c_4 h
        exact c_throwW5 (text := "not so many coins") C hM (fun h => by cases h) hst hout hlk (by decide +kernel) (wl_in (i := 1244) (by decide +kernel)) (wl_in (i := 39) (by decide +kernel)) dX11_buy_106 dX11_buy_109 dX11_buy_110 dX11_buy_113 dX11_buy_116 hl.1 (Nat.le_of_ble_eq_true rfl) (Nat.le_of_ble_eq_true rfl) (Nat.le_of_ble_eq_true rfl) (Nat.le_of_ble_eq_true rfl) (Nat.le_of_ble_eq_true rfl) (Nat.le_of_ble_eq_true rfl) h
    · have h := br_T c_3 h
      exact c_throwW (k := 3) (text := "all its words are known") C hM (fun h => by cases h) hst hout hlk (by decide +kernel) cx_at3 cx_ot3 (wl_in (i := 638) (by decide +kernel)) (wl_in (i := 22) (by decide +kernel)) rfl dX11_buy_64 dX11_buy_67 dX11_buy_68 dX11_buy_71 dX11_buy_74 hl.1 (Nat.le_of_ble_eq_true rfl) (Nat.le_of_ble_eq_true rfl) (Nat.le_of_ble_eq_true rfl) (Nat.le_of_ble_eq_true rfl) (Nat.le_of_ble_eq_true rfl) (Nat.le_of_ble_eq_true rfl) h
  · have h := br_F c_1 h
    exact c_throwW (k := 2) (text := "there are 80 nodes") C hM (fun h => by cases h) hst hout hlk (by decide +kernel) cx_at2 cx_ot2 (wl_in (i := 597) (by decide +kernel)) (wl_in (i := 21) (by decide +kernel)) rfl dX11_buy_19 dX11_buy_22 dX11_buy_23 dX11_buy_26 dX11_buy_29 hl.1 (Nat.le_of_ble_eq_true rfl) (Nat.le_of_ble_eq_true rfl) (Nat.le_of_ble_eq_true rfl) (Nat.le_of_ble_eq_true rfl) (Nat.le_of_ble_eq_true rfl) (Nat.le_of_ble_eq_true rfl) h
/-! Lorewick.isOwned(I)Z -/
abbrev rc_X11_isOwned : Room := { frames := 7, cells := 2, slots := 12, locals := 126 }
def fc_X11_isOwned (σ : cS) (x1 : Int32) : Option ((Nat ⊕ Int32) × cS) :=
  xb (fc_X11_needHint σ x1) fun v_1 u_1 =>
  xb (fc_X11_needPlay u_1) fun v_2 u_2 =>
  (fc_X8_current u_2).bind fun r_3 =>
  (fc_X5_isOwnedAt r_3.2 x1 r_3.1).bind fun r_4 =>
  if ¬ (r_4.1 &&& 1 = r_4.1) then none else
  some (.inr r_4.1, r_4.2)
set_option maxHeartbeats 4000000 in
set_option maxRecDepth 100000 in
theorem cc_X11_isOwned (l : Launch) (hst : l.stackTraces = false) (D : va_G) (ca : Nat → ClassId) (A : Nat → Prop) (α : cAl) (σ : cS) (x1 : Int32) (o : (Nat ⊕ Int32) × cS) (h : fc_X11_isOwned σ x1 = some o) : cMetX false l yX11_isOwned cX11_isOwned 2 ((some FieldType.boolean)) rc_X11_isOwned 2 12 D ca true A α σ [cr α 0 (some 0), .int x1] (o.1.map id (fun (v : Int32) _ => some (.int v))) o.2 := by
  refine vx_ofW (cc := cX11_isOwned) (maxL := 2) (ret := (some FieldType.boolean)) (by decide) rfl ?_
  intro p e s m args below meth c s₁ B hml hout hv
  obtain ⟨rfl, hP, hK, hD0, hSh, hA, hG⟩ := hv
  have C : cC p s m _ c cX11_isOwned 2 RX11 D ca A α := ⟨B.exec, B.bytes, hml, findClass_of_methodNamed B.named, fun w hw => atoms_spec (ws := mWs yX11_isOwned cX11_isOwned 2 ((some FieldType.boolean))) B.pre w (List.mem_cons_of_mem _ hw), hK, hG⟩
  have hM : cM D ca true A s.heap σ α σ α s.heap [] := ⟨hP, hD0, hSh, va_S.rf, hA, cX.rf⟩
  have h17 : 0 < cn σ 17 := c_17 hM
  have hr := B.returns
  have hlk := B.notSynchronized
  have hx := C.1
  have hb := C.2.1
  have hl := lv_entry ([cr α 0 (some 0), .int x1]) (n := 2) (Nat.le_of_ble_eq_true rfl)
  rw [lg_entry_eq]
  generalize (lg_sl ([cr α 0 (some 0), .int x1]) ++ List.replicate (2 - (lg_sl ([cr α 0 (some 0), .int x1])).length) Slot.unset).toArray = ls at hl ⊢
  have hl : lv_has ls 2 [(0, cr α 0 (some 0)), (1, .int x1)] := hl
  unfold fc_X11_isOwned at h
  refine c_aload_n (t := 0) (x := (some 0)) hx hb dX11_isOwned_0 rfl (lv_at hl 0 rfl) ?_
  refine lv_iload_n hx hb dX11_isOwned_1 rfl (lv_at hl 1 rfl) ?_
  obtain ⟨r_1, u_1, hr_1⟩ := xb_some h
  refine c_gox2 (T := (fun (_ : Unit) _ => none)) (T2 := (fun (v : Int32) _ => some (.int v))) h hr_1 (c_rVx (As := [.int x1]) (rest := []) C hM h17 (hM.cst 0 0 rfl) (by decide) (cc_X11_needHint l hst D ca A α σ x1 _ hr_1) cw_X11_214 ⟨rfl, rfl⟩ ⟨Nat.le_of_ble_eq_true rfl, Nat.le_of_ble_eq_true rfl⟩ rfl rfl (cats_le _ (Nat.le_of_ble_eq_true rfl)) hl.1 dX11_isOwned_2 ⟨Nat.le_of_ble_eq_true rfl, Nat.le_of_ble_eq_true rfl⟩) C hM (fun _ => ⟨rfl, rfl⟩) hout hlk (Nat.le_of_ble_eq_true rfl) (Nat.le_of_ble_eq_true rfl) (fun v_1 H locs α9 hα h hX_1 hM => ?_)
  obtain rfl : α = α9 := (hα rfl).symm
  refine W_st (st' := []) rfl ?_
  refine c_aload_n (t := 0) (x := (some 0)) hx hb dX11_isOwned_5 rfl (lv_at hl 0 rfl) ?_
  obtain ⟨r_2, u_2, hr_2⟩ := xb_some h
  refine c_gox2 (T := (fun (_ : Unit) _ => none)) (T2 := (fun (v : Int32) _ => some (.int v))) h hr_2 (c_rVx (As := []) (rest := []) C hM h17 (hM.cst 0 0 rfl) (by decide) (cc_X11_needPlay l hst D ca A α u_1 _ hr_2) cw_X11_260 ⟨rfl, rfl⟩ ⟨Nat.le_of_ble_eq_true rfl, Nat.le_of_ble_eq_true rfl⟩ rfl rfl (cats_le _ (Nat.le_of_ble_eq_true rfl)) hl.1 dX11_isOwned_6 ⟨Nat.le_of_ble_eq_true rfl, Nat.le_of_ble_eq_true rfl⟩) C hM (fun _ => ⟨rfl, rfl⟩) hout hlk (Nat.le_of_ble_eq_true rfl) (Nat.le_of_ble_eq_true rfl) (fun v_2 H locs α9 hα h hX_2 hM => ?_)
  obtain rfl : α = α9 := (hα rfl).symm
  refine W_st (st' := []) rfl ?_
  refine c_aload_n (t := 0) (x := (some 0)) hx hb dX11_isOwned_9 rfl (lv_at hl 0 rfl) ?_
  refine c_getb C hM (k := 0) (f := 4) (j := 0) (t := 5) (hM.cst 0 0 rfl) (by decide) fl_X11_48 dX11_isOwned_10 ?_
  refine lv_iload_n hx hb dX11_isOwned_13 rfl (lv_at hl 1 rfl) ?_
  refine c_aload_n (t := 0) (x := (some 0)) hx hb dX11_isOwned_14 rfl (lv_at hl 0 rfl) ?_
  refine c_getb C hM (k := 0) (f := 3) (j := 0) (t := 4) (hM.cst 0 0 rfl) (by decide) fl_X11_41 dX11_isOwned_15 ?_
  obtain ⟨r_3, hr_3, h⟩ := bd_of h
  refine c_go0 (c_rV (As := []) (rest := [.int x1, cr α 5 (some 0)]) C hM h17 (hM.cst 4 0 rfl) (by decide) (cc_X8_current l D ca A α u_2 _ hr_3) cw_X11_338 ⟨rfl, rfl⟩ ⟨Nat.le_of_ble_eq_true rfl, Nat.le_of_ble_eq_true rfl⟩ rfl rfl (cats_le _ (Nat.le_of_ble_eq_true rfl)) hl.1 dX11_isOwned_18 ⟨Nat.le_of_ble_eq_true rfl, Nat.le_of_ble_eq_true rfl⟩) hM (fun H locs hM => ?_)
  refine W_st (st' := [cr α 7 r_3.1, .int x1, cr α 5 (some 0)]) rfl ?_
  obtain ⟨r_4, hr_4, h⟩ := bd_of h
  refine c_go0 (c_rV (As := [.int x1, cr α 7 r_3.1]) (rest := []) C hM h17 (hM.cst 5 0 rfl) (by decide) (cc_X5_isOwnedAt l D ca A α r_3.2 x1 r_3.1 _ hr_4) cw_X11_429 ⟨rfl, rfl⟩ ⟨Nat.le_of_ble_eq_true rfl, Nat.le_of_ble_eq_true rfl⟩ rfl rfl (cats_le _ (Nat.le_of_ble_eq_true rfl)) hl.1 dX11_isOwned_21 ⟨Nat.le_of_ble_eq_true rfl, Nat.le_of_ble_eq_true rfl⟩) hM (fun H locs hM => ?_)
  refine W_st (st' := [.int r_4.1]) rfl ?_
  obtain ⟨c_1, h⟩ := ko_of h
  exact c_xr h (c_rz (o := (r_4.1, r_4.2)) C hM (fun _ => rfl) hr hlk dX11_isOwned_24 (by rw [if_pos (Classical.not_not.mp c_1)]))
/-! Lorewick.read(I)I -/
abbrev rc_X11_read : Room := { frames := 10, cells := 10, slots := 267, locals := 277 }
def fc_X11_read (σ : cS) (x1 : Int32) : Option ((Nat ⊕ Int32) × cS) :=
  xb (fc_X11_needHint σ x1) fun v_1 u_1 =>
  xb (fc_X11_needPlay u_1) fun v_2 u_2 =>
  (dr (uN u_2 8 0 0) 8 (some (cn u_2 8))).bind fun i_6 =>
  (fc_X1_init (uN u_2 8 0 0) (some (cn u_2 8)) (some 13) x1 (-1 : Int32)).bind fun r_5 =>
  xb (fc_X11_needNodeFor r_5 (some (cn u_2 8))) fun v_7 u_7 =>
  (fc_X8_current u_7).bind fun r_8 =>
  (fc_X5_isOwnedAt r_8.2 x1 r_8.1).bind fun r_9 =>
  if r_9.1 = 0 then
    some (.inl 3, r_9.2)
  else
    (fc_X8_current r_9.2).bind fun r_10 =>
    (dr r_10.2 7 r_10.1).bind fun i_11 =>
    (fc_X6_copy r_10.2 (some 0) (cR r_10.2 7 i_11 3)).bind fun r_12 =>
    (fc_X11_follow r_12 (some (cn u_2 8))).bind fun r_13 =>
    some (.inr (cI r_13 4 0 2), r_13)
set_option maxHeartbeats 4000000 in
set_option maxRecDepth 100000 in
theorem cc_X11_read (l : Launch) (hst : l.stackTraces = false) (D : va_G) (ca : Nat → ClassId) (A : Nat → Prop) (α : cAl) (σ : cS) (x1 : Int32) (o : (Nat ⊕ Int32) × cS) (h : fc_X11_read σ x1 = some o) : cMetX true l yX11_read cX11_read 3 ((some FieldType.int)) rc_X11_read 10 267 D ca true A α σ [cr α 0 (some 0), .int x1] (o.1.map id (fun (v : Int32) _ => some (.int v))) o.2 := by
  refine vx_ofW (cc := cX11_read) (maxL := 3) (ret := (some FieldType.int)) (by decide) rfl ?_
  intro p e s m args below meth c s₁ B hml hout hv
  obtain ⟨rfl, hP, hK, hD0, hSh, hA, hG⟩ := hv
  have C : cC p s m _ c cX11_read 3 RX11 D ca A α := ⟨B.exec, B.bytes, hml, findClass_of_methodNamed B.named, fun w hw => atoms_spec (ws := mWs yX11_read cX11_read 3 ((some FieldType.int))) B.pre w (List.mem_cons_of_mem _ hw), hK, hG⟩
  have hM : cM D ca true A s.heap σ α σ α s.heap [] := ⟨hP, hD0, hSh, va_S.rf, hA, cX.rf⟩
  have h17 : 0 < cn σ 17 := c_17 hM
  have hr := B.returns
  have hlk := B.notSynchronized
  have hx := C.1
  have hb := C.2.1
  have hl := lv_entry ([cr α 0 (some 0), .int x1]) (n := 3) (Nat.le_of_ble_eq_true rfl)
  rw [lg_entry_eq]
  generalize (lg_sl ([cr α 0 (some 0), .int x1]) ++ List.replicate (3 - (lg_sl ([cr α 0 (some 0), .int x1])).length) Slot.unset).toArray = ls at hl ⊢
  have hl : lv_has ls 3 [(0, cr α 0 (some 0)), (1, .int x1)] := hl
  unfold fc_X11_read at h
  refine c_aload_n (t := 0) (x := (some 0)) hx hb dX11_read_0 rfl (lv_at hl 0 rfl) ?_
  refine lv_iload_n hx hb dX11_read_1 rfl (lv_at hl 1 rfl) ?_
  obtain ⟨r_1, u_1, hr_1⟩ := xb_some h
  refine c_gox2 (T := (fun (_ : Unit) _ => none)) (T2 := (fun (v : Int32) _ => some (.int v))) h hr_1 (c_rVx (As := [.int x1]) (rest := []) C hM h17 (hM.cst 0 0 rfl) (by decide) (cc_X11_needHint l hst D ca A α σ x1 _ hr_1) cw_X11_214 ⟨rfl, rfl⟩ ⟨Nat.le_of_ble_eq_true rfl, Nat.le_of_ble_eq_true rfl⟩ rfl rfl (cats_le _ (Nat.le_of_ble_eq_true rfl)) hl.1 dX11_read_2 ⟨Nat.le_of_ble_eq_true rfl, Nat.le_of_ble_eq_true rfl⟩) C hM (fun h => by cases h) hout hlk (Nat.le_of_ble_eq_true rfl) (Nat.le_of_ble_eq_true rfl) (fun v_1 H locs α9 hα h hX_1 hM => ?_)
  obtain rfl : α = α9 := (hα rfl).symm
  refine W_st (st' := []) rfl ?_
  refine c_aload_n (t := 0) (x := (some 0)) hx hb dX11_read_5 rfl (lv_at hl 0 rfl) ?_
  obtain ⟨r_2, u_2, hr_2⟩ := xb_some h
  refine c_gox2 (T := (fun (_ : Unit) _ => none)) (T2 := (fun (v : Int32) _ => some (.int v))) h hr_2 (c_rVx (As := []) (rest := []) C hM h17 (hM.cst 0 0 rfl) (by decide) (cc_X11_needPlay l hst D ca A α u_1 _ hr_2) cw_X11_260 ⟨rfl, rfl⟩ ⟨Nat.le_of_ble_eq_true rfl, Nat.le_of_ble_eq_true rfl⟩ rfl rfl (cats_le _ (Nat.le_of_ble_eq_true rfl)) hl.1 dX11_read_6 ⟨Nat.le_of_ble_eq_true rfl, Nat.le_of_ble_eq_true rfl⟩) C hM (fun h => by cases h) hout hlk (Nat.le_of_ble_eq_true rfl) (Nat.le_of_ble_eq_true rfl) (fun v_2 H locs α9 hα h hX_2 hM => ?_)
  obtain rfl : α = α9 := (hα rfl).symm
  refine W_st (st' := []) rfl ?_
  have hlv_4 := c_lvc hM 0 0 rfl
  refine c_new (k := 8) C hM (by decide) ⟨⟨wl_in (i := 934) (by decide +kernel), wl_in (i := 935) (by decide +kernel)⟩, wl_in (i := 32) (by decide +kernel)⟩ (Nat.le_of_ble_eq_true rfl) (Nat.le_of_ble_eq_true rfl) dX11_read_9 (fun H α_1 hX_3 hM => ?_)
  have e_4 : cr α 0 (some 0) = cr α_1 0 (some 0) := cr_to hX_3 hlv_4
  have hl := lv_to (lv_sub hl [0, 1] rfl) (show ([(0, cr α 0 (some 0)), (1, .int x1)] : List (Nat × Value)) = [(0, cr α_1 0 (some 0)), (1, .int x1)] by rw [e_4])
  refine W_st (st' := [cr α_1 8 (some (cn u_2 8))]) rfl ?_
  refine lv_dup hx hb dX11_read_12 cr_cat ?_
  refine c_getV C hM 13 (nm := "READ") (by decide) fl_X11_433 dX11_read_13 ?_
  refine lv_iload_n hx hb dX11_read_16 rfl (lv_at hl 1 rfl) ?_
  refine lv_iconst (v := (-1 : Int32)) hx hb dX11_read_17 (by decide) ?_
  obtain ⟨i_6, hd_6, h⟩ := bd_of h
  obtain ⟨r_5, hr_5, h⟩ := bd_of h
  refine c_go0 (c_rI (As := [cr α_1 18 (some 13), .int x1, .int (-1 : Int32)]) (rest := [cr α_1 8 (some (cn u_2 8))]) C hM h17 hd_6 (cc_X1_init l D ca A α_1 (uN u_2 8 0 0) (some (cn u_2 8)) (some 13) x1 (-1 : Int32) _ hr_5) cw_X11_246 ⟨rfl, rfl⟩ ⟨Nat.le_of_ble_eq_true rfl, Nat.le_of_ble_eq_true rfl⟩ rfl rfl (cats_le _ (Nat.le_of_ble_eq_true rfl)) hl.1 dX11_read_18 ⟨Nat.le_of_ble_eq_true rfl, Nat.le_of_ble_eq_true rfl⟩) hM (fun H locs hM => ?_)
  refine W_st (st' := [cr α_1 8 (some (cn u_2 8))]) rfl ?_
  refine c_astore_n (t := 8) (x := (some (cn u_2 8))) (lv' := [(2, cr α_1 8 (some (cn u_2 8))), (0, cr α_1 0 (some 0)), (1, .int x1)]) hx hb dX11_read_21 rfl hl (by decide) rfl (fun ls hl => ?_)
  refine c_aload_n (t := 0) (x := (some 0)) hx hb dX11_read_22 rfl (lv_at hl 1 rfl) ?_
  refine c_aload_n (t := 8) (x := (some (cn u_2 8))) hx hb dX11_read_23 rfl (lv_at hl 0 rfl) ?_
  obtain ⟨r_7, u_7, hr_7⟩ := xb_some h
  refine c_gox2 (T := (fun (_ : Unit) _ => none)) (T2 := (fun (v : Int32) _ => some (.int v))) h hr_7 (c_rVx (As := [cr α_1 8 (some (cn u_2 8))]) (rest := []) C hM h17 (hM.cst 0 0 rfl) (by decide) (cc_X11_needNodeFor l hst D ca A α_1 r_5 (some (cn u_2 8)) _ hr_7) cw_X11_271 ⟨rfl, rfl⟩ ⟨Nat.le_of_ble_eq_true rfl, Nat.le_of_ble_eq_true rfl⟩ rfl rfl (cats_le _ (Nat.le_of_ble_eq_true rfl)) hl.1 dX11_read_24 ⟨Nat.le_of_ble_eq_true rfl, Nat.le_of_ble_eq_true rfl⟩) C hM (fun h => by cases h) hout hlk (Nat.le_of_ble_eq_true rfl) (Nat.le_of_ble_eq_true rfl) (fun v_7 H locs α9 hα h hX_7 hM => ?_)
  obtain rfl : α_1 = α9 := (hα rfl).symm
  refine W_st (st' := []) rfl ?_
  refine c_aload_n (t := 0) (x := (some 0)) hx hb dX11_read_27 rfl (lv_at hl 1 rfl) ?_
  refine c_getb C hM (k := 0) (f := 4) (j := 0) (t := 5) (hM.cst 0 0 rfl) (by decide) fl_X11_48 dX11_read_28 ?_
  refine lv_iload_n hx hb dX11_read_31 rfl (lv_at hl 2 rfl) ?_
  refine c_aload_n (t := 0) (x := (some 0)) hx hb dX11_read_32 rfl (lv_at hl 1 rfl) ?_
  refine c_getb C hM (k := 0) (f := 3) (j := 0) (t := 4) (hM.cst 0 0 rfl) (by decide) fl_X11_41 dX11_read_33 ?_
  obtain ⟨r_8, hr_8, h⟩ := bd_of h
  refine c_go0 (c_rV (As := []) (rest := [.int x1, cr α_1 5 (some 0)]) C hM h17 (hM.cst 4 0 rfl) (by decide) (cc_X8_current l D ca A α_1 u_7 _ hr_8) cw_X11_338 ⟨rfl, rfl⟩ ⟨Nat.le_of_ble_eq_true rfl, Nat.le_of_ble_eq_true rfl⟩ rfl rfl (cats_le _ (Nat.le_of_ble_eq_true rfl)) hl.1 dX11_read_36 ⟨Nat.le_of_ble_eq_true rfl, Nat.le_of_ble_eq_true rfl⟩) hM (fun H locs hM => ?_)
  refine W_st (st' := [cr α_1 7 r_8.1, .int x1, cr α_1 5 (some 0)]) rfl ?_
  obtain ⟨r_9, hr_9, h⟩ := bd_of h
  refine c_go0 (c_rV (As := [.int x1, cr α_1 7 r_8.1]) (rest := []) C hM h17 (hM.cst 5 0 rfl) (by decide) (cc_X5_isOwnedAt l D ca A α_1 r_8.2 x1 r_8.1 _ hr_9) cw_X11_429 ⟨rfl, rfl⟩ ⟨Nat.le_of_ble_eq_true rfl, Nat.le_of_ble_eq_true rfl⟩ rfl rfl (cats_le _ (Nat.le_of_ble_eq_true rfl)) hl.1 dX11_read_39 ⟨Nat.le_of_ble_eq_true rfl, Nat.le_of_ble_eq_true rfl⟩) hM (fun H locs hM => ?_)
  refine W_st (st' := [.int r_9.1]) rfl ?_
  refine lv_if_ne (tgt := 56) hx hb dX11_read_42 (by decide) (fun c_1 => ?_) (fun c_1 => ?_)
  · have h := br_F c_1 h
    refine c_aload_n (t := 0) (x := (some 0)) hx hb dX11_read_56 rfl (lv_at hl 1 rfl) ?_
    refine c_getb C hM (k := 0) (f := 5) (j := 0) (t := 6) (hM.cst 0 0 rfl) (by decide) fl_X11_55 dX11_read_57 ?_
    refine c_aload_n (t := 0) (x := (some 0)) hx hb dX11_read_60 rfl (lv_at hl 1 rfl) ?_
    refine c_getb C hM (k := 0) (f := 3) (j := 0) (t := 4) (hM.cst 0 0 rfl) (by decide) fl_X11_41 dX11_read_61 ?_
    obtain ⟨r_10, hr_10, h⟩ := bd_of h
    refine c_go0 (c_rV (As := []) (rest := [cr α_1 6 (some 0)]) C hM h17 (hM.cst 4 0 rfl) (by decide) (cc_X8_current l D ca A α_1 r_9.2 _ hr_10) cw_X11_338 ⟨rfl, rfl⟩ ⟨Nat.le_of_ble_eq_true rfl, Nat.le_of_ble_eq_true rfl⟩ rfl rfl (cats_le _ (Nat.le_of_ble_eq_true rfl)) hl.1 dX11_read_64 ⟨Nat.le_of_ble_eq_true rfl, Nat.le_of_ble_eq_true rfl⟩) hM (fun H locs hM => ?_)
    refine W_st (st' := [cr α_1 7 r_10.1, cr α_1 6 (some 0)]) rfl ?_
    obtain ⟨i_11, hd_11, h⟩ := bd_of h
    refine c_getrt C hM (k := 7) (f := 3) (t := 6) hd_11 (by decide) fl_X11_408 dX11_read_67 ?_
    obtain ⟨r_12, hr_12, h⟩ := bd_of h
    refine c_go0 (c_rV (As := [cr α_1 6 (cR r_10.2 7 i_11 3)]) (rest := []) C hM h17 (hM.cst 6 0 rfl) (by decide) (cc_X6_copy l D ca A α_1 r_10.2 (some 0) (cR r_10.2 7 i_11 3) _ hr_12) cw_X11_411 ⟨rfl, rfl⟩ ⟨Nat.le_of_ble_eq_true rfl, Nat.le_of_ble_eq_true rfl⟩ rfl rfl (cats_le _ (Nat.le_of_ble_eq_true rfl)) hl.1 dX11_read_70 ⟨Nat.le_of_ble_eq_true rfl, Nat.le_of_ble_eq_true rfl⟩) hM (fun H locs hM => ?_)
    refine W_st (st' := []) rfl ?_
    refine c_aload_n (t := 0) (x := (some 0)) hx hb dX11_read_73 rfl (lv_at hl 1 rfl) ?_
    refine c_aload_n (t := 8) (x := (some (cn u_2 8))) hx hb dX11_read_74 rfl (lv_at hl 0 rfl) ?_
    have hlv_14 := c_lvc hM 0 0 rfl
    obtain ⟨r_13, hr_13, h⟩ := bd_of h
    refine c_go1 (c_rV (As := [cr α_1 8 (some (cn u_2 8))]) (rest := []) C hM h17 (hM.cst 0 0 rfl) (by decide) (cc_X11_follow l D ca A α_1 r_12 (some (cn u_2 8)) _ hr_13) cw_X11_275 ⟨rfl, rfl⟩ ⟨Nat.le_of_ble_eq_true rfl, Nat.le_of_ble_eq_true rfl⟩ rfl rfl (cats_le _ (Nat.le_of_ble_eq_true rfl)) hl.1 dX11_read_75 ⟨Nat.le_of_ble_eq_true rfl, Nat.le_of_ble_eq_true rfl⟩) hM (fun H locs α_2 hX_13 hM => ?_)
    have e_14 : cr α_1 0 (some 0) = cr α_2 0 (some 0) := cr_to hX_13 hlv_14
    have hl := lv_to (lv_sub hl [1] rfl) (show ([(0, cr α_1 0 (some 0))] : List (Nat × Value)) = [(0, cr α_2 0 (some 0))] by rw [e_14])
    refine W_st (st' := []) rfl ?_
    refine c_aload_n (t := 0) (x := (some 0)) hx hb dX11_read_78 rfl (lv_at hl 0 rfl) ?_
    refine c_getb C hM (k := 0) (f := 3) (j := 0) (t := 4) (hM.cst 0 0 rfl) (by decide) fl_X11_41 dX11_read_79 ?_
    refine c_geti C hM (k := 4) (f := 2) (hM.cst 4 0 rfl) rfl fl_X11_300 dX11_read_82 ?_
    exact c_xr h (c_ri (o := ((cI r_13 4 0 2), r_13)) C hM (fun h => by cases h) hr hlk dX11_read_85 rfl)
  · have h := br_T c_1 h
    exact c_throwW (k := 3) (text := "it is not owned") C hM (fun h => by cases h) hst hout hlk (by decide +kernel) cx_at3 cx_ot3 (wl_in (i := 638) (by decide +kernel)) (wl_in (i := 22) (by decide +kernel)) rfl dX11_read_45 dX11_read_48 dX11_read_49 dX11_read_52 dX11_read_55 hl.1 (Nat.le_of_ble_eq_true rfl) (Nat.le_of_ble_eq_true rfl) (Nat.le_of_ble_eq_true rfl) (Nat.le_of_ble_eq_true rfl) (Nat.le_of_ble_eq_true rfl) (Nat.le_of_ble_eq_true rfl) h
/-! Lorewick.coins()I -/
abbrev rc_X11_coins : Room := { frames := 0, cells := 0, slots := 0, locals := 0 }
def fc_X11_coins (σ : cS) : Option (Int32 × cS) :=
  some ((cI σ 5 0 4), σ)
set_option maxHeartbeats 4000000 in
set_option maxRecDepth 100000 in
theorem cc_X11_coins (l : Launch) (D : va_G) (ca : Nat → ClassId) (A : Nat → Prop) (α : cAl) (σ : cS) (o : Int32 × cS) (h : fc_X11_coins σ  = some o) : cMet false l yX11_coins cX11_coins 1 ((some FieldType.int)) rc_X11_coins 0 0 D ca true A α σ [cr α 0 (some 0)] (fun _ => some (.int o.1)) o.2 := by
  refine Met.ofW (cc := cX11_coins) (maxL := 1) (ret := (some FieldType.int)) (by decide) rfl ?_
  intro p e s m args below meth c s₁ B hml hv
  obtain ⟨rfl, hP, hK, hD0, hSh, hA, hG⟩ := hv
  have C : cC p s m _ c cX11_coins 1 RX11 D ca A α := ⟨B.exec, B.bytes, hml, findClass_of_methodNamed B.named, fun w hw => atoms_spec (ws := mWs yX11_coins cX11_coins 1 ((some FieldType.int))) B.pre w (List.mem_cons_of_mem _ hw), hK, hG⟩
  have hM : cM D ca true A s.heap σ α σ α s.heap [] := ⟨hP, hD0, hSh, va_S.rf, hA, cX.rf⟩
  have h17 : 0 < cn σ 17 := c_17 hM
  have hr := B.returns
  have hlk := B.notSynchronized
  have hx := C.1
  have hb := C.2.1
  have hl := lv_entry ([cr α 0 (some 0)]) (n := 1) (Nat.le_of_ble_eq_true rfl)
  rw [lg_entry_eq]
  generalize (lg_sl ([cr α 0 (some 0)]) ++ List.replicate (1 - (lg_sl ([cr α 0 (some 0)])).length) Slot.unset).toArray = ls at hl ⊢
  have hl : lv_has ls 1 [(0, cr α 0 (some 0))] := hl
  unfold fc_X11_coins at h
  refine c_aload_n (t := 0) (x := (some 0)) hx hb dX11_coins_0 rfl (lv_at hl 0 rfl) ?_
  refine c_getb C hM (k := 0) (f := 4) (j := 0) (t := 5) (hM.cst 0 0 rfl) (by decide) fl_X11_48 dX11_coins_1 ?_
  refine c_geti C hM (k := 5) (f := 4) (hM.cst 5 0 rfl) rfl fl_X11_403 dX11_coins_4 ?_
  exact c_ri C hM (fun _ => rfl) hr hlk dX11_coins_7 h
/-! Lorewick.earn(I)I -/
abbrev rc_X11_earn : Room := { frames := 6, cells := 1, slots := 6, locals := 90 }
def fc_X11_earn_11 (σ : cS) : Option ((Nat ⊕ Int32) × cS) :=
    some (.inl 1, σ)
set_option maxHeartbeats 4000000 in
set_option maxRecDepth 100000 in
theorem gc_X11_earn_11 {p : Program} {l : Launch} {e : Env} {s : State} {m : MethodId} {args : Array Value} {below : List Frame} {meth : Method} {c : Code} {D : va_G} {ca : Nat → ClassId} {A : Nat → Prop} {σ0 : cS} {α : cAl} {o : (Nat ⊕ Int32) × cS} (C : cC p s m args c cX11_earn 2 RX11 D ca A α) (hr : meth.sig.returnType = (some FieldType.int)) (hlk : meth.locks = false) (h17 : 0 < cn σ0 17) (hst : l.stackTraces = false) (hout : ∀ x ∈ c.exceptionTable.toList, False) : ∀ (σ : cS) (H : Heap) (locs : List Loc) (ls : Array Slot), cM D ca true A s.heap σ0 α σ α H locs → lv_has ls 2 [] → fc_X11_earn_11 σ = some o → W p l e rc_X11_earn s m args below meth c H locs 0 0 (vx_MQ below (cQx false D ca true A α σ0 (o.1.map id (fun (v : Int32) _ => some (.int v))) o.2) (cXC false D ca true A α σ0 (o.1.map id (fun (v : Int32) _ => some (.int v))) o.2) args s 1 6 A) (F0 m 11 ls []) := by
  have hx := C.1
  have hb := C.2.1
  intro σ H locs ls hM hl h
  unfold fc_X11_earn_11 at h
  exact c_throwW (k := 1) (text := "the coins are out of range") C hM (fun _ => rfl) hst hout hlk (by decide +kernel) cx_at1 cx_ot1 (wl_in (i := 525) (by decide +kernel)) (wl_in (i := 20) (by decide +kernel)) rfl dX11_earn_11 dX11_earn_14 dX11_earn_15 dX11_earn_18 dX11_earn_21 hl.1 (Nat.le_of_ble_eq_true rfl) (Nat.le_of_ble_eq_true rfl) (Nat.le_of_ble_eq_true rfl) (Nat.le_of_ble_eq_true rfl) (Nat.le_of_ble_eq_true rfl) (Nat.le_of_ble_eq_true rfl) h
def fc_X11_earn (σ : cS) (x1 : Int32) : Option ((Nat ⊕ Int32) × cS) :=
  if x1 < (1 : Int32) then
    fc_X11_earn_11 σ
  else
    if x1 ≤ (99 : Int32) then
      some (.inr (cI (uI (uI σ 5 0 4 ((cI σ 5 0 4) + x1)) 5 0 5 ((cI (uI σ 5 0 4 ((cI σ 5 0 4) + x1)) 5 0 5) + x1)) 5 0 4), (uI (uI σ 5 0 4 ((cI σ 5 0 4) + x1)) 5 0 5 ((cI (uI σ 5 0 4 ((cI σ 5 0 4) + x1)) 5 0 5) + x1)))
    else
      fc_X11_earn_11 σ
set_option maxHeartbeats 4000000 in
set_option maxRecDepth 100000 in
theorem cc_X11_earn (l : Launch) (hst : l.stackTraces = false) (D : va_G) (ca : Nat → ClassId) (A : Nat → Prop) (α : cAl) (σ : cS) (x1 : Int32) (o : (Nat ⊕ Int32) × cS) (h : fc_X11_earn σ x1 = some o) : cMetX false l yX11_earn cX11_earn 2 ((some FieldType.int)) rc_X11_earn 1 6 D ca true A α σ [cr α 0 (some 0), .int x1] (o.1.map id (fun (v : Int32) _ => some (.int v))) o.2 := by
  refine vx_ofW (cc := cX11_earn) (maxL := 2) (ret := (some FieldType.int)) (by decide) rfl ?_
  intro p e s m args below meth c s₁ B hml hout hv
  obtain ⟨rfl, hP, hK, hD0, hSh, hA, hG⟩ := hv
  have C : cC p s m _ c cX11_earn 2 RX11 D ca A α := ⟨B.exec, B.bytes, hml, findClass_of_methodNamed B.named, fun w hw => atoms_spec (ws := mWs yX11_earn cX11_earn 2 ((some FieldType.int))) B.pre w (List.mem_cons_of_mem _ hw), hK, hG⟩
  have hM : cM D ca true A s.heap σ α σ α s.heap [] := ⟨hP, hD0, hSh, va_S.rf, hA, cX.rf⟩
  have h17 : 0 < cn σ 17 := c_17 hM
  have hr := B.returns
  have hlk := B.notSynchronized
  have hx := C.1
  have hb := C.2.1
  have hl := lv_entry ([cr α 0 (some 0), .int x1]) (n := 2) (Nat.le_of_ble_eq_true rfl)
  rw [lg_entry_eq]
  generalize (lg_sl ([cr α 0 (some 0), .int x1]) ++ List.replicate (2 - (lg_sl ([cr α 0 (some 0), .int x1])).length) Slot.unset).toArray = ls at hl ⊢
  have hl : lv_has ls 2 [(0, cr α 0 (some 0)), (1, .int x1)] := hl
  unfold fc_X11_earn at h
  refine lv_iload_n hx hb dX11_earn_0 rfl (lv_at hl 1 rfl) ?_
  refine lv_iconst (v := (1 : Int32)) hx hb dX11_earn_1 (by decide) ?_
  refine lv_icmp_lt (tgt := 11) hx hb dX11_earn_2 (by decide) (fun c_1 => ?_) (fun c_1 => ?_)
  · have h := br_T c_1 h
    exact gc_X11_earn_11 C hr hlk h17 hst hout  _ _ _ _ hM (lv_sub hl [] rfl) h
  · have h := br_F c_1 h
    refine lv_iload_n hx hb dX11_earn_5 rfl (lv_at hl 1 rfl) ?_
    refine lv_bipush (v := (99 : Int32)) hx hb dX11_earn_6 (by decide) ?_
    refine lv_icmp_le (tgt := 22) hx hb dX11_earn_8 (by decide) (fun c_2 => ?_) (fun c_2 => ?_)
    · have h := br_T c_2 h
      refine c_aload_n (t := 0) (x := (some 0)) hx hb dX11_earn_22 rfl (lv_at hl 0 rfl) ?_
      refine c_getb C hM (k := 0) (f := 4) (j := 0) (t := 5) (hM.cst 0 0 rfl) (by decide) fl_X11_48 dX11_earn_23 ?_
      refine lv_dup hx hb dX11_earn_26 cr_cat ?_
      refine c_geti C hM (k := 5) (f := 4) (hM.cst 5 0 rfl) rfl fl_X11_403 dX11_earn_27 ?_
      refine lv_iload_n hx hb dX11_earn_30 rfl (lv_at hl 1 rfl) ?_
      refine lv_iadd hx hb dX11_earn_31 ?_
      refine c_puti C hM (k := 5) (f := 4) (hM.cst 5 0 rfl) rfl fl_X11_403 (Or.inl rfl) dX11_earn_32 (fun H locs hM => ?_)
      refine c_aload_n (t := 0) (x := (some 0)) hx hb dX11_earn_35 rfl (lv_at hl 0 rfl) ?_
      refine c_getb C hM (k := 0) (f := 4) (j := 0) (t := 5) (hM.cst 0 0 rfl) (by decide) fl_X11_48 dX11_earn_36 ?_
      refine lv_dup hx hb dX11_earn_39 cr_cat ?_
      refine c_geti C hM (k := 5) (f := 5) (hM.cst 5 0 rfl) rfl fl_X11_440 dX11_earn_40 ?_
      refine lv_iload_n hx hb dX11_earn_43 rfl (lv_at hl 1 rfl) ?_
      refine lv_iadd hx hb dX11_earn_44 ?_
      refine c_puti C hM (k := 5) (f := 5) (hM.cst 5 0 rfl) rfl fl_X11_440 (Or.inl rfl) dX11_earn_45 (fun H locs hM => ?_)
      refine c_aload_n (t := 0) (x := (some 0)) hx hb dX11_earn_48 rfl (lv_at hl 0 rfl) ?_
      refine c_getb C hM (k := 0) (f := 4) (j := 0) (t := 5) (hM.cst 0 0 rfl) (by decide) fl_X11_48 dX11_earn_49 ?_
      refine c_geti C hM (k := 5) (f := 4) (hM.cst 5 0 rfl) rfl fl_X11_403 dX11_earn_52 ?_
      refine W.widen (k := 1) (n := 6) (Nat.le_of_ble_eq_true rfl) (Nat.le_of_ble_eq_true rfl) ?_
      exact c_xr h (c_ri (o := ((cI (uI (uI σ 5 0 4 ((cI σ 5 0 4) + x1)) 5 0 5 ((cI (uI σ 5 0 4 ((cI σ 5 0 4) + x1)) 5 0 5) + x1)) 5 0 4), (uI (uI σ 5 0 4 ((cI σ 5 0 4) + x1)) 5 0 5 ((cI (uI σ 5 0 4 ((cI σ 5 0 4) + x1)) 5 0 5) + x1)))) C hM (fun _ => rfl) hr hlk dX11_earn_55 rfl)
    · have h := br_F c_2 h
      exact gc_X11_earn_11 C hr hlk h17 hst hout  _ _ _ _ hM (lv_sub hl [] rfl) h
/-! Lorewick.sales()I -/
abbrev rc_X11_sales : Room := { frames := 1, cells := 0, slots := 0, locals := 20 }
def fc_X11_sales (σ : cS) : Option (Int32 × cS) :=
  (fc_Jx4a65c_size_8abf5 σ (some 1)).bind fun r_1 =>
  some (r_1.1, r_1.2)
set_option maxHeartbeats 4000000 in
set_option maxRecDepth 100000 in
theorem cc_X11_sales (l : Launch) (D : va_G) (ca : Nat → ClassId) (A : Nat → Prop) (α : cAl) (σ : cS) (o : Int32 × cS) (h : fc_X11_sales σ  = some o) : cMet false l yX11_sales cX11_sales 1 ((some FieldType.int)) rc_X11_sales 0 0 D ca true A α σ [cr α 0 (some 0)] (fun _ => some (.int o.1)) o.2 := by
  refine Met.ofW (cc := cX11_sales) (maxL := 1) (ret := (some FieldType.int)) (by decide) rfl ?_
  intro p e s m args below meth c s₁ B hml hv
  obtain ⟨rfl, hP, hK, hD0, hSh, hA, hG⟩ := hv
  have C : cC p s m _ c cX11_sales 1 RX11 D ca A α := ⟨B.exec, B.bytes, hml, findClass_of_methodNamed B.named, fun w hw => atoms_spec (ws := mWs yX11_sales cX11_sales 1 ((some FieldType.int))) B.pre w (List.mem_cons_of_mem _ hw), hK, hG⟩
  have hM : cM D ca true A s.heap σ α σ α s.heap [] := ⟨hP, hD0, hSh, va_S.rf, hA, cX.rf⟩
  have h17 : 0 < cn σ 17 := c_17 hM
  have hr := B.returns
  have hlk := B.notSynchronized
  have hx := C.1
  have hb := C.2.1
  have hl := lv_entry ([cr α 0 (some 0)]) (n := 1) (Nat.le_of_ble_eq_true rfl)
  rw [lg_entry_eq]
  generalize (lg_sl ([cr α 0 (some 0)]) ++ List.replicate (1 - (lg_sl ([cr α 0 (some 0)])).length) Slot.unset).toArray = ls at hl ⊢
  have hl : lv_has ls 1 [(0, cr α 0 (some 0))] := hl
  unfold fc_X11_sales at h
  refine c_aload_n (t := 0) (x := (some 0)) hx hb dX11_sales_0 rfl (lv_at hl 0 rfl) ?_
  refine c_getb C hM (k := 0) (f := 4) (j := 0) (t := 5) (hM.cst 0 0 rfl) (by decide) fl_X11_48 dX11_sales_1 ?_
  refine c_getb C hM (k := 5) (f := 3) (j := 1) (t := 10) (hM.cst 5 0 rfl) (by decide) fl_X11_418 dX11_sales_4 ?_
  obtain ⟨r_1, hr_1, h⟩ := bd_of h
  refine c_go0 (c_rV (As := []) (rest := []) C hM h17 (hM.cst 10 1 rfl) (by decide) (cc_Jx4a65c_size_8abf5 l D ca A α σ (some 1) _ hr_1) cw_X11_307 ⟨rfl, rfl⟩ ⟨Nat.le_of_ble_eq_true rfl, Nat.le_of_ble_eq_true rfl⟩ rfl rfl (cats_le _ (Nat.le_of_ble_eq_true rfl)) hl.1 dX11_sales_7 ⟨Nat.le_of_ble_eq_true rfl, Nat.le_of_ble_eq_true rfl⟩) hM (fun H locs hM => ?_)
  refine W_st (st' := [.int r_1.1]) rfl ?_
  exact c_ri C hM (fun _ => rfl) hr hlk dX11_sales_10 h
/-! Lorewick.sale(IC)I -/
abbrev rc_X11_sale : Room := { frames := 6, cells := 1, slots := 6, locals := 102 }
def fc_X11_sale_18 (σ : cS) : Option ((Nat ⊕ Int32) × cS) :=
    some (.inl 4, σ)
set_option maxHeartbeats 4000000 in
set_option maxRecDepth 100000 in
theorem gc_X11_sale_18 {p : Program} {l : Launch} {e : Env} {s : State} {m : MethodId} {args : Array Value} {below : List Frame} {meth : Method} {c : Code} {D : va_G} {ca : Nat → ClassId} {A : Nat → Prop} {σ0 : cS} {α : cAl} {o : (Nat ⊕ Int32) × cS} (C : cC p s m args c cX11_sale 4 RX11 D ca A α) (hr : meth.sig.returnType = (some FieldType.int)) (hlk : meth.locks = false) (h17 : 0 < cn σ0 17) (hst : l.stackTraces = false) (hout : ∀ x ∈ c.exceptionTable.toList, False) : ∀ (σ : cS) (H : Heap) (locs : List Loc) (ls : Array Slot), cM D ca true A s.heap σ0 α σ α H locs → lv_has ls 4 [] → fc_X11_sale_18 σ = some o → W p l e rc_X11_sale s m args below meth c H locs 0 0 (vx_MQ below (cQx false D ca true A α σ0 (o.1.map id (fun (v : Int32) _ => some (.int v))) o.2) (cXC false D ca true A α σ0 (o.1.map id (fun (v : Int32) _ => some (.int v))) o.2) args s 1 6 A) (F0 m 18 ls []) := by
  have hx := C.1
  have hb := C.2.1
  intro σ H locs ls hM hl h
  unfold fc_X11_sale_18 at h
  exact c_throwW (k := 4) (text := "no such sale") C hM (fun _ => rfl) hst hout hlk (by decide +kernel) cx_at4 cx_ot4 (wl_in (i := 715) (by decide +kernel)) (wl_in (i := 23) (by decide +kernel)) rfl dX11_sale_18 dX11_sale_21 dX11_sale_22 dX11_sale_25 dX11_sale_28 hl.1 (Nat.le_of_ble_eq_true rfl) (Nat.le_of_ble_eq_true rfl) (Nat.le_of_ble_eq_true rfl) (Nat.le_of_ble_eq_true rfl) (Nat.le_of_ble_eq_true rfl) (Nat.le_of_ble_eq_true rfl) h
def fc_X11_sale (σ : cS) (x1 : Int32) (x2 : Int32) : Option ((Nat ⊕ Int32) × cS) :=
  if x1 < 0 then
    fc_X11_sale_18 σ
  else
    (fc_Jx4a65c_size_8abf5 σ (some 1)).bind fun r_1 =>
    if x1 < r_1.1 then
      (fc_Jx4a65c_get_915e3 r_1.2 (some 1) x1 9).bind fun r_2 =>
      if ¬ (lvq r_2.2 9 r_2.1 = true) then none else
      if x2 = (99 : Int32) then
        (dr r_2.2 9 r_2.1).bind fun i_3 =>
        some (.inr (cI r_2.2 9 i_3 2), r_2.2)
      else
      if x2 = (104 : Int32) then
        (dr r_2.2 9 r_2.1).bind fun i_4 =>
        some (.inr (cI r_2.2 9 i_4 0), r_2.2)
      else
      if x2 = (110 : Int32) then
        (dr r_2.2 9 r_2.1).bind fun i_5 =>
        (dr r_2.2 7 (cR r_2.2 9 i_5 1)).bind fun i_6 =>
        some (.inr (cI r_2.2 7 i_6 0), r_2.2)
      else
        some (.inl 1, r_2.2)
    else
      fc_X11_sale_18 r_1.2
set_option maxHeartbeats 4000000 in
set_option maxRecDepth 100000 in
theorem cc_X11_sale (l : Launch) (hst : l.stackTraces = false) (D : va_G) (ca : Nat → ClassId) (A : Nat → Prop) (α : cAl) (σ : cS) (x1 : Int32) (x2 : Int32) (o : (Nat ⊕ Int32) × cS) (h : fc_X11_sale σ x1 x2 = some o) : cMetX false l yX11_sale cX11_sale 4 ((some FieldType.int)) rc_X11_sale 1 6 D ca true A α σ [cr α 0 (some 0), .int x1, .int x2] (o.1.map id (fun (v : Int32) _ => some (.int v))) o.2 := by
  refine vx_ofW (cc := cX11_sale) (maxL := 4) (ret := (some FieldType.int)) (by decide) rfl ?_
  intro p e s m args below meth c s₁ B hml hout hv
  obtain ⟨rfl, hP, hK, hD0, hSh, hA, hG⟩ := hv
  have C : cC p s m _ c cX11_sale 4 RX11 D ca A α := ⟨B.exec, B.bytes, hml, findClass_of_methodNamed B.named, fun w hw => atoms_spec (ws := mWs yX11_sale cX11_sale 4 ((some FieldType.int))) B.pre w (List.mem_cons_of_mem _ hw), hK, hG⟩
  have hM : cM D ca true A s.heap σ α σ α s.heap [] := ⟨hP, hD0, hSh, va_S.rf, hA, cX.rf⟩
  have h17 : 0 < cn σ 17 := c_17 hM
  have hr := B.returns
  have hlk := B.notSynchronized
  have hx := C.1
  have hb := C.2.1
  have hl := lv_entry ([cr α 0 (some 0), .int x1, .int x2]) (n := 4) (Nat.le_of_ble_eq_true rfl)
  rw [lg_entry_eq]
  generalize (lg_sl ([cr α 0 (some 0), .int x1, .int x2]) ++ List.replicate (4 - (lg_sl ([cr α 0 (some 0), .int x1, .int x2])).length) Slot.unset).toArray = ls at hl ⊢
  have hl : lv_has ls 4 [(0, cr α 0 (some 0)), (1, .int x1), (2, .int x2)] := hl
  unfold fc_X11_sale at h
  refine lv_iload_n hx hb dX11_sale_0 rfl (lv_at hl 1 rfl) ?_
  refine lv_if_lt (tgt := 18) hx hb dX11_sale_1 (by decide) (fun c_1 => ?_) (fun c_1 => ?_)
  · have h := br_T c_1 h
    exact gc_X11_sale_18 C hr hlk h17 hst hout  _ _ _ _ hM (lv_sub hl [] rfl) h
  · have h := br_F c_1 h
    refine lv_iload_n hx hb dX11_sale_4 rfl (lv_at hl 1 rfl) ?_
    refine c_aload_n (t := 0) (x := (some 0)) hx hb dX11_sale_5 rfl (lv_at hl 0 rfl) ?_
    refine c_getb C hM (k := 0) (f := 4) (j := 0) (t := 5) (hM.cst 0 0 rfl) (by decide) fl_X11_48 dX11_sale_6 ?_
    refine c_getb C hM (k := 5) (f := 3) (j := 1) (t := 10) (hM.cst 5 0 rfl) (by decide) fl_X11_418 dX11_sale_9 ?_
    obtain ⟨r_1, hr_1, h⟩ := bd_of h
    refine c_go0 (c_rV (As := []) (rest := [.int x1]) C hM h17 (hM.cst 10 1 rfl) (by decide) (cc_Jx4a65c_size_8abf5 l D ca A α σ (some 1) _ hr_1) cw_X11_307 ⟨rfl, rfl⟩ ⟨Nat.le_of_ble_eq_true rfl, Nat.le_of_ble_eq_true rfl⟩ rfl rfl (cats_le _ (Nat.le_of_ble_eq_true rfl)) hl.1 dX11_sale_12 ⟨Nat.le_of_ble_eq_true rfl, Nat.le_of_ble_eq_true rfl⟩) hM (fun H locs hM => ?_)
    refine W_st (st' := [.int r_1.1, .int x1]) rfl ?_
    refine lv_icmp_lt (tgt := 29) hx hb dX11_sale_15 (by decide) (fun c_2 => ?_) (fun c_2 => ?_)
    · have h := br_T c_2 h
      refine c_aload_n (t := 0) (x := (some 0)) hx hb dX11_sale_29 rfl (lv_at hl 0 rfl) ?_
      refine c_getb C hM (k := 0) (f := 4) (j := 0) (t := 5) (hM.cst 0 0 rfl) (by decide) fl_X11_48 dX11_sale_30 ?_
      refine c_getb C hM (k := 5) (f := 3) (j := 1) (t := 10) (hM.cst 5 0 rfl) (by decide) fl_X11_418 dX11_sale_33 ?_
      refine lv_iload_n hx hb dX11_sale_36 rfl (lv_at hl 1 rfl) ?_
      obtain ⟨r_2, hr_2, h⟩ := bd_of h
      refine c_go0 (c_rV (As := [.int x1]) (rest := []) C hM h17 (hM.cst 10 1 rfl) (by decide) (cc_Jx4a65c_get_915e3 l D ca A α r_1.2 (some 1) x1 9 _ hr_2) cw_X11_448 ⟨rfl, rfl⟩ ⟨Nat.le_of_ble_eq_true rfl, Nat.le_of_ble_eq_true rfl⟩ rfl rfl (cats_le _ (Nat.le_of_ble_eq_true rfl)) hl.1 dX11_sale_37 ⟨Nat.le_of_ble_eq_true rfl, Nat.le_of_ble_eq_true rfl⟩) hM (fun H locs hM => ?_)
      refine W_st (st' := [cr α 9 r_2.1]) rfl ?_
      obtain ⟨c_3, h⟩ := ko_of h
      refine c_castk C hM (k := 9) (Classical.not_not.mp c_3) (by decide) kl_X11_421 dX11_sale_40 ?_
      refine c_astore_n (t := 9) (x := r_2.1) (lv' := [(3, cr α 9 r_2.1), (0, cr α 0 (some 0)), (1, .int x1), (2, .int x2)]) hx hb dX11_sale_43 rfl hl (by decide) rfl (fun ls hl => ?_)
      refine lv_iload_n hx hb dX11_sale_44 rfl (lv_at hl 3 rfl) ?_
      by_cases c_4 : x2 = (99 : Int32)
      · have h := br_T c_4 h
        refine xr_int c_4 ?_
        refine lv_lookup (tgt := 93) hx hb dX11_sale_45 rfl rfl (by decide) ?_
        refine c_aload_n (t := 9) (x := r_2.1) hx hb dX11_sale_93 rfl (lv_at hl 0 rfl) ?_
        obtain ⟨i_3, hd_3, h⟩ := bd_of h
        refine c_geti C hM (k := 9) (f := 2) hd_3 rfl fl_X11_458 dX11_sale_94 ?_
        refine W.widen (k := 1) (n := 6) (Nat.le_of_ble_eq_true rfl) (Nat.le_of_ble_eq_true rfl) ?_
        exact c_xr h (c_ri (o := ((cI r_2.2 9 i_3 2), r_2.2)) C hM (fun _ => rfl) hr hlk dX11_sale_97 rfl)
      · have h := br_F c_4 h
        by_cases c_5 : x2 = (104 : Int32)
        · have h := br_T c_5 h
          refine xr_int c_5 ?_
          refine lv_lookup (tgt := 80) hx hb dX11_sale_45 rfl rfl (by decide) ?_
          refine c_aload_n (t := 9) (x := r_2.1) hx hb dX11_sale_80 rfl (lv_at hl 0 rfl) ?_
          obtain ⟨i_4, hd_4, h⟩ := bd_of h
          refine c_geti C hM (k := 9) (f := 0) hd_4 rfl fl_X11_452 dX11_sale_81 ?_
          refine W.widen (k := 1) (n := 6) (Nat.le_of_ble_eq_true rfl) (Nat.le_of_ble_eq_true rfl) ?_
          exact c_xr h (c_ri (o := ((cI r_2.2 9 i_4 0), r_2.2)) C hM (fun _ => rfl) hr hlk dX11_sale_84 rfl)
        · have h := br_F c_5 h
          by_cases c_6 : x2 = (110 : Int32)
          · have h := br_T c_6 h
            refine xr_int c_6 ?_
            refine lv_lookup (tgt := 85) hx hb dX11_sale_45 rfl rfl (by decide) ?_
            refine c_aload_n (t := 9) (x := r_2.1) hx hb dX11_sale_85 rfl (lv_at hl 0 rfl) ?_
            obtain ⟨i_5, hd_5, h⟩ := bd_of h
            refine c_getrt C hM (k := 9) (f := 1) (t := 7) hd_5 (by decide) fl_X11_455 dX11_sale_86 ?_
            obtain ⟨i_6, hd_6, h⟩ := bd_of h
            refine c_geti C hM (k := 7) (f := 0) hd_6 rfl fl_X11_325 dX11_sale_89 ?_
            refine W.widen (k := 1) (n := 6) (Nat.le_of_ble_eq_true rfl) (Nat.le_of_ble_eq_true rfl) ?_
            exact c_xr h (c_ri (o := ((cI r_2.2 7 i_6 0), r_2.2)) C hM (fun _ => rfl) hr hlk dX11_sale_92 rfl)
          · have h := br_F c_6 h
            refine lv_lookup (tgt := 98) (off := 53) hx hb dX11_sale_45 rfl ((lv_osw c_4 rfl).trans ((lv_osw c_5 rfl).trans ((lv_osw c_6 rfl).trans rfl))) (by decide) ?_
            exact c_throwW (k := 1) (text := "no such thing") C hM (fun _ => rfl) hst hout hlk (by decide +kernel) cx_at1 cx_ot1 (wl_in (i := 525) (by decide +kernel)) (wl_in (i := 20) (by decide +kernel)) rfl dX11_sale_98 dX11_sale_101 dX11_sale_102 dX11_sale_105 dX11_sale_108 hl.1 (Nat.le_of_ble_eq_true rfl) (Nat.le_of_ble_eq_true rfl) (Nat.le_of_ble_eq_true rfl) (Nat.le_of_ble_eq_true rfl) (Nat.le_of_ble_eq_true rfl) (Nat.le_of_ble_eq_true rfl) h
    · have h := br_F c_2 h
      exact gc_X11_sale_18 C hr hlk h17 hst hout  _ _ _ _ hM (lv_sub hl [] rfl) h
/-! Lorewick.merge(I)I -/
abbrev rc_X11_merge : Room := { frames := 10, cells := 10, slots := 267, locals := 277 }
def fc_X11_merge (σ : cS) (x1 : Int32) : Option ((Nat ⊕ Int32) × cS) :=
  xb (fc_X11_nodeOf σ x1) fun v_1 u_1 =>
  xb (fc_X11_needPlay u_1) fun v_2 u_2 =>
  (fc_X8_current u_2).bind fun r_3 =>
  (dr r_3.2 7 r_3.1).bind fun i_4 =>
  (fc_X6_copy r_3.2 (some 0) (cR r_3.2 7 i_4 3)).bind fun r_5 =>
  (dr r_5 7 v_1).bind fun i_6 =>
  (fc_X3_pickUpAsIn r_5 (some 0) (cR r_5 7 i_6 3)).bind fun r_7 =>
  if r_7.1 = 0 then
    some (.inl 3, r_7.2)
  else
    (dr (uN r_7.2 8 0 0) 8 (some (cn r_7.2 8))).bind fun i_11 =>
    (fc_X1_init (uN r_7.2 8 0 0) (some (cn r_7.2 8)) (some 14) x1 (-1 : Int32)).bind fun r_10 =>
    xb (fc_X11_needNodeFor r_10 (some (cn r_7.2 8))) fun v_12 u_12 =>
    (fc_X11_follow u_12 (some (cn r_7.2 8))).bind fun r_13 =>
    some (.inr r_7.1, r_13)
set_option maxHeartbeats 4000000 in
set_option maxRecDepth 100000 in
theorem cc_X11_merge (l : Launch) (hst : l.stackTraces = false) (D : va_G) (ca : Nat → ClassId) (A : Nat → Prop) (α : cAl) (σ : cS) (x1 : Int32) (o : (Nat ⊕ Int32) × cS) (h : fc_X11_merge σ x1 = some o) : cMetX true l yX11_merge cX11_merge 5 ((some FieldType.int)) rc_X11_merge 10 267 D ca true A α σ [cr α 0 (some 0), .int x1] (o.1.map id (fun (v : Int32) _ => some (.int v))) o.2 := by
  refine vx_ofW (cc := cX11_merge) (maxL := 5) (ret := (some FieldType.int)) (by decide) rfl ?_
  intro p e s m args below meth c s₁ B hml hout hv
  obtain ⟨rfl, hP, hK, hD0, hSh, hA, hG⟩ := hv
  have C : cC p s m _ c cX11_merge 5 RX11 D ca A α := ⟨B.exec, B.bytes, hml, findClass_of_methodNamed B.named, fun w hw => atoms_spec (ws := mWs yX11_merge cX11_merge 5 ((some FieldType.int))) B.pre w (List.mem_cons_of_mem _ hw), hK, hG⟩
  have hM : cM D ca true A s.heap σ α σ α s.heap [] := ⟨hP, hD0, hSh, va_S.rf, hA, cX.rf⟩
  have h17 : 0 < cn σ 17 := c_17 hM
  have hr := B.returns
  have hlk := B.notSynchronized
  have hx := C.1
  have hb := C.2.1
  have hl := lv_entry ([cr α 0 (some 0), .int x1]) (n := 5) (Nat.le_of_ble_eq_true rfl)
  rw [lg_entry_eq]
  generalize (lg_sl ([cr α 0 (some 0), .int x1]) ++ List.replicate (5 - (lg_sl ([cr α 0 (some 0), .int x1])).length) Slot.unset).toArray = ls at hl ⊢
  have hl : lv_has ls 5 [(0, cr α 0 (some 0)), (1, .int x1)] := hl
  unfold fc_X11_merge at h
  refine c_aload_n (t := 0) (x := (some 0)) hx hb dX11_merge_0 rfl (lv_at hl 0 rfl) ?_
  refine lv_iload_n hx hb dX11_merge_1 rfl (lv_at hl 1 rfl) ?_
  obtain ⟨r_1, u_1, hr_1⟩ := xb_some h
  refine c_gox2 (T := (fun (v : Option Nat) α1 => some (cr α1 7 v))) (T2 := (fun (v : Int32) _ => some (.int v))) h hr_1 (c_rVx (As := [.int x1]) (rest := []) C hM h17 (hM.cst 0 0 rfl) (by decide) (cc_X11_nodeOf l hst D ca A α σ x1 _ hr_1) cw_X11_312 ⟨rfl, rfl⟩ ⟨Nat.le_of_ble_eq_true rfl, Nat.le_of_ble_eq_true rfl⟩ rfl rfl (cats_le _ (Nat.le_of_ble_eq_true rfl)) hl.1 dX11_merge_2 ⟨Nat.le_of_ble_eq_true rfl, Nat.le_of_ble_eq_true rfl⟩) C hM (fun h => by cases h) hout hlk (Nat.le_of_ble_eq_true rfl) (Nat.le_of_ble_eq_true rfl) (fun v_1 H locs α9 hα h hX_1 hM => ?_)
  obtain rfl : α = α9 := (hα rfl).symm
  refine W_st (st' := [cr α 7 v_1]) rfl ?_
  refine c_astore_n (t := 7) (x := v_1) (lv' := [(2, cr α 7 v_1), (0, cr α 0 (some 0)), (1, .int x1)]) hx hb dX11_merge_5 rfl hl (by decide) rfl (fun ls hl => ?_)
  refine c_aload_n (t := 0) (x := (some 0)) hx hb dX11_merge_6 rfl (lv_at hl 1 rfl) ?_
  obtain ⟨r_2, u_2, hr_2⟩ := xb_some h
  refine c_gox2 (T := (fun (_ : Unit) _ => none)) (T2 := (fun (v : Int32) _ => some (.int v))) h hr_2 (c_rVx (As := []) (rest := []) C hM h17 (hM.cst 0 0 rfl) (by decide) (cc_X11_needPlay l hst D ca A α u_1 _ hr_2) cw_X11_260 ⟨rfl, rfl⟩ ⟨Nat.le_of_ble_eq_true rfl, Nat.le_of_ble_eq_true rfl⟩ rfl rfl (cats_le _ (Nat.le_of_ble_eq_true rfl)) hl.1 dX11_merge_7 ⟨Nat.le_of_ble_eq_true rfl, Nat.le_of_ble_eq_true rfl⟩) C hM (fun h => by cases h) hout hlk (Nat.le_of_ble_eq_true rfl) (Nat.le_of_ble_eq_true rfl) (fun v_2 H locs α9 hα h hX_2 hM => ?_)
  obtain rfl : α = α9 := (hα rfl).symm
  refine W_st (st' := []) rfl ?_
  refine c_aload_n (t := 0) (x := (some 0)) hx hb dX11_merge_10 rfl (lv_at hl 1 rfl) ?_
  refine c_getb C hM (k := 0) (f := 5) (j := 0) (t := 6) (hM.cst 0 0 rfl) (by decide) fl_X11_55 dX11_merge_11 ?_
  refine c_aload_n (t := 0) (x := (some 0)) hx hb dX11_merge_14 rfl (lv_at hl 1 rfl) ?_
  refine c_getb C hM (k := 0) (f := 3) (j := 0) (t := 4) (hM.cst 0 0 rfl) (by decide) fl_X11_41 dX11_merge_15 ?_
  obtain ⟨r_3, hr_3, h⟩ := bd_of h
  refine c_go0 (c_rV (As := []) (rest := [cr α 6 (some 0)]) C hM h17 (hM.cst 4 0 rfl) (by decide) (cc_X8_current l D ca A α u_2 _ hr_3) cw_X11_338 ⟨rfl, rfl⟩ ⟨Nat.le_of_ble_eq_true rfl, Nat.le_of_ble_eq_true rfl⟩ rfl rfl (cats_le _ (Nat.le_of_ble_eq_true rfl)) hl.1 dX11_merge_18 ⟨Nat.le_of_ble_eq_true rfl, Nat.le_of_ble_eq_true rfl⟩) hM (fun H locs hM => ?_)
  refine W_st (st' := [cr α 7 r_3.1, cr α 6 (some 0)]) rfl ?_
  obtain ⟨i_4, hd_4, h⟩ := bd_of h
  refine c_getrt C hM (k := 7) (f := 3) (t := 6) hd_4 (by decide) fl_X11_408 dX11_merge_21 ?_
  obtain ⟨r_5, hr_5, h⟩ := bd_of h
  refine c_go0 (c_rV (As := [cr α 6 (cR r_3.2 7 i_4 3)]) (rest := []) C hM h17 (hM.cst 6 0 rfl) (by decide) (cc_X6_copy l D ca A α r_3.2 (some 0) (cR r_3.2 7 i_4 3) _ hr_5) cw_X11_411 ⟨rfl, rfl⟩ ⟨Nat.le_of_ble_eq_true rfl, Nat.le_of_ble_eq_true rfl⟩ rfl rfl (cats_le _ (Nat.le_of_ble_eq_true rfl)) hl.1 dX11_merge_24 ⟨Nat.le_of_ble_eq_true rfl, Nat.le_of_ble_eq_true rfl⟩) hM (fun H locs hM => ?_)
  refine W_st (st' := []) rfl ?_
  refine c_aload_n (t := 0) (x := (some 0)) hx hb dX11_merge_27 rfl (lv_at hl 1 rfl) ?_
  refine c_getb C hM (k := 0) (f := 2) (j := 0) (t := 3) (hM.cst 0 0 rfl) (by decide) fl_X11_34 dX11_merge_28 ?_
  refine c_aload_n (t := 0) (x := (some 0)) hx hb dX11_merge_31 rfl (lv_at hl 1 rfl) ?_
  refine c_getb C hM (k := 0) (f := 5) (j := 0) (t := 6) (hM.cst 0 0 rfl) (by decide) fl_X11_55 dX11_merge_32 ?_
  refine c_aload_n (t := 7) (x := v_1) hx hb dX11_merge_35 rfl (lv_at hl 0 rfl) ?_
  obtain ⟨i_6, hd_6, h⟩ := bd_of h
  refine c_getrt C hM (k := 7) (f := 3) (t := 6) hd_6 (by decide) fl_X11_408 dX11_merge_36 ?_
  obtain ⟨r_7, hr_7, h⟩ := bd_of h
  refine c_go0 (c_rV (As := [cr α 6 (some 0), cr α 6 (cR r_5 7 i_6 3)]) (rest := []) C hM h17 (hM.cst 3 0 rfl) (by decide) (cc_X3_pickUpAsIn l D ca A α r_5 (some 0) (cR r_5 7 i_6 3) _ hr_7) cw_X11_463 ⟨rfl, rfl⟩ ⟨Nat.le_of_ble_eq_true rfl, Nat.le_of_ble_eq_true rfl⟩ rfl rfl (cats_le _ (Nat.le_of_ble_eq_true rfl)) hl.1 dX11_merge_39 ⟨Nat.le_of_ble_eq_true rfl, Nat.le_of_ble_eq_true rfl⟩) hM (fun H locs hM => ?_)
  refine W_st (st' := [.int r_7.1]) rfl ?_
  refine lv_istore_n (lv' := [(3, .int r_7.1), (2, cr α 7 v_1), (0, cr α 0 (some 0)), (1, .int x1)]) hx hb dX11_merge_42 rfl hl (by decide) (by first | rfl | (simp only [List.filter, cr_cat]; rfl)) (fun ls hl => ?_)
  refine lv_iload_n hx hb dX11_merge_43 rfl (lv_at hl 0 rfl) ?_
  refine lv_if_ne (tgt := 58) hx hb dX11_merge_44 (by decide) (fun c_1 => ?_) (fun c_1 => ?_)
  · have h := br_F c_1 h
    have hlv_9 := c_lvc hM 0 0 rfl
    refine c_new (k := 8) C hM (by decide) ⟨⟨wl_in (i := 934) (by decide +kernel), wl_in (i := 935) (by decide +kernel)⟩, wl_in (i := 32) (by decide +kernel)⟩ (Nat.le_of_ble_eq_true rfl) (Nat.le_of_ble_eq_true rfl) dX11_merge_58 (fun H α_1 hX_8 hM => ?_)
    have e_9 : cr α 0 (some 0) = cr α_1 0 (some 0) := cr_to hX_8 hlv_9
    have hl := lv_to (lv_sub hl [0, 2, 3] rfl) (show ([(3, .int r_7.1), (0, cr α 0 (some 0)), (1, .int x1)] : List (Nat × Value)) = [(3, .int r_7.1), (0, cr α_1 0 (some 0)), (1, .int x1)] by rw [e_9])
    refine W_st (st' := [cr α_1 8 (some (cn r_7.2 8))]) rfl ?_
    refine lv_dup hx hb dX11_merge_61 cr_cat ?_
    refine c_getV C hM 14 (nm := "MERGE") (by decide) fl_X11_469 dX11_merge_62 ?_
    refine lv_iload_n hx hb dX11_merge_65 rfl (lv_at hl 2 rfl) ?_
    refine lv_iconst (v := (-1 : Int32)) hx hb dX11_merge_66 (by decide) ?_
    obtain ⟨i_11, hd_11, h⟩ := bd_of h
    obtain ⟨r_10, hr_10, h⟩ := bd_of h
    refine c_go0 (c_rI (As := [cr α_1 18 (some 14), .int x1, .int (-1 : Int32)]) (rest := [cr α_1 8 (some (cn r_7.2 8))]) C hM h17 hd_11 (cc_X1_init l D ca A α_1 (uN r_7.2 8 0 0) (some (cn r_7.2 8)) (some 14) x1 (-1 : Int32) _ hr_10) cw_X11_246 ⟨rfl, rfl⟩ ⟨Nat.le_of_ble_eq_true rfl, Nat.le_of_ble_eq_true rfl⟩ rfl rfl (cats_le _ (Nat.le_of_ble_eq_true rfl)) hl.1 dX11_merge_67 ⟨Nat.le_of_ble_eq_true rfl, Nat.le_of_ble_eq_true rfl⟩) hM (fun H locs hM => ?_)
    refine W_st (st' := [cr α_1 8 (some (cn r_7.2 8))]) rfl ?_
    refine c_astore (t := 8) (x := (some (cn r_7.2 8))) (lv' := [(4, cr α_1 8 (some (cn r_7.2 8))), (3, .int r_7.1), (0, cr α_1 0 (some 0)), (1, .int x1)]) hx hb dX11_merge_70 hl (by decide) rfl (fun ls hl => ?_)
    refine c_aload_n (t := 0) (x := (some 0)) hx hb dX11_merge_72 rfl (lv_at hl 2 rfl) ?_
    refine c_aload (t := 8) (x := (some (cn r_7.2 8))) hx hb dX11_merge_73 (lv_at hl 0 rfl) ?_
    obtain ⟨r_12, u_12, hr_12⟩ := xb_some h
    refine c_gox2 (T := (fun (_ : Unit) _ => none)) (T2 := (fun (v : Int32) _ => some (.int v))) h hr_12 (c_rVx (As := [cr α_1 8 (some (cn r_7.2 8))]) (rest := []) C hM h17 (hM.cst 0 0 rfl) (by decide) (cc_X11_needNodeFor l hst D ca A α_1 r_10 (some (cn r_7.2 8)) _ hr_12) cw_X11_271 ⟨rfl, rfl⟩ ⟨Nat.le_of_ble_eq_true rfl, Nat.le_of_ble_eq_true rfl⟩ rfl rfl (cats_le _ (Nat.le_of_ble_eq_true rfl)) hl.1 dX11_merge_75 ⟨Nat.le_of_ble_eq_true rfl, Nat.le_of_ble_eq_true rfl⟩) C hM (fun h => by cases h) hout hlk (Nat.le_of_ble_eq_true rfl) (Nat.le_of_ble_eq_true rfl) (fun v_12 H locs α9 hα h hX_12 hM => ?_)
    obtain rfl : α_1 = α9 := (hα rfl).symm
    refine W_st (st' := []) rfl ?_
    refine c_aload_n (t := 0) (x := (some 0)) hx hb dX11_merge_78 rfl (lv_at hl 2 rfl) ?_
    refine c_aload (t := 8) (x := (some (cn r_7.2 8))) hx hb dX11_merge_79 (lv_at hl 0 rfl) ?_
    obtain ⟨r_13, hr_13, h⟩ := bd_of h
    refine c_go1 (c_rV (As := [cr α_1 8 (some (cn r_7.2 8))]) (rest := []) C hM h17 (hM.cst 0 0 rfl) (by decide) (cc_X11_follow l D ca A α_1 u_12 (some (cn r_7.2 8)) _ hr_13) cw_X11_275 ⟨rfl, rfl⟩ ⟨Nat.le_of_ble_eq_true rfl, Nat.le_of_ble_eq_true rfl⟩ rfl rfl (cats_le _ (Nat.le_of_ble_eq_true rfl)) hl.1 dX11_merge_81 ⟨Nat.le_of_ble_eq_true rfl, Nat.le_of_ble_eq_true rfl⟩) hM (fun H locs α_2 hX_13 hM => ?_)
    have hl := lv_to (lv_sub hl [1] rfl) (show ([(3, .int r_7.1)] : List (Nat × Value)) = [(3, .int r_7.1)] by rfl)
    refine W_st (st' := []) rfl ?_
    refine lv_iload_n hx hb dX11_merge_84 rfl (lv_at hl 0 rfl) ?_
    exact c_xr h (c_ri (o := (r_7.1, r_13)) C hM (fun h => by cases h) hr hlk dX11_merge_85 rfl)
  · have h := br_T c_1 h
    exact c_throwW (k := 3) (text := "none can be taken") C hM (fun h => by cases h) hst hout hlk (by decide +kernel) cx_at3 cx_ot3 (wl_in (i := 638) (by decide +kernel)) (wl_in (i := 22) (by decide +kernel)) rfl dX11_merge_47 dX11_merge_50 dX11_merge_51 dX11_merge_54 dX11_merge_57 hl.1 (Nat.le_of_ble_eq_true rfl) (Nat.le_of_ble_eq_true rfl) (Nat.le_of_ble_eq_true rfl) (Nat.le_of_ble_eq_true rfl) (Nat.le_of_ble_eq_true rfl) (Nat.le_of_ble_eq_true rfl) h
/-! Lorewick.score()I -/
abbrev rc_X11_score : Room := { frames := 8, cells := 1, slots := 6, locals := 142 }
def fc_X11_score (σ : cS) : Option ((Nat ⊕ Int32) × cS) :=
  xb (fc_X11_stateHere σ) fun v_1 u_1 =>
  (fc_X3_goalsReached u_1 v_1).bind fun r_2 =>
  some (.inr r_2.1, r_2.2)
set_option maxHeartbeats 4000000 in
set_option maxRecDepth 100000 in
theorem cc_X11_score (l : Launch) (hst : l.stackTraces = false) (D : va_G) (ca : Nat → ClassId) (A : Nat → Prop) (α : cAl) (σ : cS) (o : (Nat ⊕ Int32) × cS) (h : fc_X11_score σ  = some o) : cMetX false l yX11_score cX11_score 1 ((some FieldType.int)) rc_X11_score 1 6 D ca true A α σ [cr α 0 (some 0)] (o.1.map id (fun (v : Int32) _ => some (.int v))) o.2 := by
  refine vx_ofW (cc := cX11_score) (maxL := 1) (ret := (some FieldType.int)) (by decide) rfl ?_
  intro p e s m args below meth c s₁ B hml hout hv
  obtain ⟨rfl, hP, hK, hD0, hSh, hA, hG⟩ := hv
  have C : cC p s m _ c cX11_score 1 RX11 D ca A α := ⟨B.exec, B.bytes, hml, findClass_of_methodNamed B.named, fun w hw => atoms_spec (ws := mWs yX11_score cX11_score 1 ((some FieldType.int))) B.pre w (List.mem_cons_of_mem _ hw), hK, hG⟩
  have hM : cM D ca true A s.heap σ α σ α s.heap [] := ⟨hP, hD0, hSh, va_S.rf, hA, cX.rf⟩
  have h17 : 0 < cn σ 17 := c_17 hM
  have hr := B.returns
  have hlk := B.notSynchronized
  have hx := C.1
  have hb := C.2.1
  have hl := lv_entry ([cr α 0 (some 0)]) (n := 1) (Nat.le_of_ble_eq_true rfl)
  rw [lg_entry_eq]
  generalize (lg_sl ([cr α 0 (some 0)]) ++ List.replicate (1 - (lg_sl ([cr α 0 (some 0)])).length) Slot.unset).toArray = ls at hl ⊢
  have hl : lv_has ls 1 [(0, cr α 0 (some 0))] := hl
  unfold fc_X11_score at h
  refine c_aload_n (t := 0) (x := (some 0)) hx hb dX11_score_0 rfl (lv_at hl 0 rfl) ?_
  refine c_getb C hM (k := 0) (f := 2) (j := 0) (t := 3) (hM.cst 0 0 rfl) (by decide) fl_X11_34 dX11_score_1 ?_
  refine c_aload_n (t := 0) (x := (some 0)) hx hb dX11_score_4 rfl (lv_at hl 0 rfl) ?_
  obtain ⟨r_1, u_1, hr_1⟩ := xb_some h
  refine c_gox2 (T := (fun (v : Option Nat) α1 => some (cr α1 6 v))) (T2 := (fun (v : Int32) _ => some (.int v))) h hr_1 (c_rVx (As := []) (rest := [cr α 3 (some 0)]) C hM h17 (hM.cst 0 0 rfl) (by decide) (cc_X11_stateHere l hst D ca A α σ _ hr_1) cw_X11_278 ⟨rfl, rfl⟩ ⟨Nat.le_of_ble_eq_true rfl, Nat.le_of_ble_eq_true rfl⟩ rfl rfl (cats_le _ (Nat.le_of_ble_eq_true rfl)) hl.1 dX11_score_5 ⟨Nat.le_of_ble_eq_true rfl, Nat.le_of_ble_eq_true rfl⟩) C hM (fun _ => ⟨rfl, rfl⟩) hout hlk (Nat.le_of_ble_eq_true rfl) (Nat.le_of_ble_eq_true rfl) (fun v_1 H locs α9 hα h hX_1 hM => ?_)
  obtain rfl : α = α9 := (hα rfl).symm
  refine W_st (st' := [cr α 6 v_1, cr α 3 (some 0)]) rfl ?_
  obtain ⟨r_2, hr_2, h⟩ := bd_of h
  refine c_go0 (c_rV (As := [cr α 6 v_1]) (rest := []) C hM h17 (hM.cst 3 0 rfl) (by decide) (cc_X3_goalsReached l D ca A α u_1 v_1 _ hr_2) cw_X11_472 ⟨rfl, rfl⟩ ⟨Nat.le_of_ble_eq_true rfl, Nat.le_of_ble_eq_true rfl⟩ rfl rfl (cats_le _ (Nat.le_of_ble_eq_true rfl)) hl.1 dX11_score_8 ⟨Nat.le_of_ble_eq_true rfl, Nat.le_of_ble_eq_true rfl⟩) hM (fun H locs hM => ?_)
  refine W_st (st' := [.int r_2.1]) rfl ?_
  exact c_xr h (c_ri (o := (r_2.1, r_2.2)) C hM (fun _ => rfl) hr hlk dX11_score_11 rfl)
/-! Lorewick.steps(I)I -/
abbrev rc_X11_steps : Room := { frames := 8, cells := 3, slots := 18, locals := 142 }
def fc_X11_steps (σ : cS) (x1 : Int32) : Option ((Nat ⊕ Int32) × cS) :=
  xb (fc_X11_needRoom σ x1) fun v_1 u_1 =>
  xb (fc_X11_stateHere u_1) fun v_2 u_2 =>
  (fc_X3_distanceTo u_2 v_2 x1).bind fun r_3 =>
  if r_3.1 = (-1 : Int32) then
    some (.inl 5, r_3.2)
  else
    some (.inr r_3.1, r_3.2)
set_option maxHeartbeats 4000000 in
set_option maxRecDepth 100000 in
theorem cc_X11_steps (l : Launch) (hst : l.stackTraces = false) (D : va_G) (ca : Nat → ClassId) (A : Nat → Prop) (α : cAl) (σ : cS) (x1 : Int32) (o : (Nat ⊕ Int32) × cS) (h : fc_X11_steps σ x1 = some o) : cMetX false l yX11_steps cX11_steps 3 ((some FieldType.int)) rc_X11_steps 3 18 D ca true A α σ [cr α 0 (some 0), .int x1] (o.1.map id (fun (v : Int32) _ => some (.int v))) o.2 := by
  refine vx_ofW (cc := cX11_steps) (maxL := 3) (ret := (some FieldType.int)) (by decide) rfl ?_
  intro p e s m args below meth c s₁ B hml hout hv
  obtain ⟨rfl, hP, hK, hD0, hSh, hA, hG⟩ := hv
  have C : cC p s m _ c cX11_steps 3 RX11 D ca A α := ⟨B.exec, B.bytes, hml, findClass_of_methodNamed B.named, fun w hw => atoms_spec (ws := mWs yX11_steps cX11_steps 3 ((some FieldType.int))) B.pre w (List.mem_cons_of_mem _ hw), hK, hG⟩
  have hM : cM D ca true A s.heap σ α σ α s.heap [] := ⟨hP, hD0, hSh, va_S.rf, hA, cX.rf⟩
  have h17 : 0 < cn σ 17 := c_17 hM
  have hr := B.returns
  have hlk := B.notSynchronized
  have hx := C.1
  have hb := C.2.1
  have hl := lv_entry ([cr α 0 (some 0), .int x1]) (n := 3) (Nat.le_of_ble_eq_true rfl)
  rw [lg_entry_eq]
  generalize (lg_sl ([cr α 0 (some 0), .int x1]) ++ List.replicate (3 - (lg_sl ([cr α 0 (some 0), .int x1])).length) Slot.unset).toArray = ls at hl ⊢
  have hl : lv_has ls 3 [(0, cr α 0 (some 0)), (1, .int x1)] := hl
  unfold fc_X11_steps at h
  refine c_aload_n (t := 0) (x := (some 0)) hx hb dX11_steps_0 rfl (lv_at hl 0 rfl) ?_
  refine lv_iload_n hx hb dX11_steps_1 rfl (lv_at hl 1 rfl) ?_
  obtain ⟨r_1, u_1, hr_1⟩ := xb_some h
  refine c_gox2 (T := (fun (_ : Unit) _ => none)) (T2 := (fun (v : Int32) _ => some (.int v))) h hr_1 (c_rVx (As := [.int x1]) (rest := []) C hM h17 (hM.cst 0 0 rfl) (by decide) (cc_X11_needRoom l hst D ca A α σ x1 _ hr_1) cw_X11_122 ⟨rfl, rfl⟩ ⟨Nat.le_of_ble_eq_true rfl, Nat.le_of_ble_eq_true rfl⟩ rfl rfl (cats_le _ (Nat.le_of_ble_eq_true rfl)) hl.1 dX11_steps_2 ⟨Nat.le_of_ble_eq_true rfl, Nat.le_of_ble_eq_true rfl⟩) C hM (fun _ => ⟨rfl, rfl⟩) hout hlk (Nat.le_of_ble_eq_true rfl) (Nat.le_of_ble_eq_true rfl) (fun v_1 H locs α9 hα h hX_1 hM => ?_)
  obtain rfl : α = α9 := (hα rfl).symm
  refine W_st (st' := []) rfl ?_
  refine c_aload_n (t := 0) (x := (some 0)) hx hb dX11_steps_5 rfl (lv_at hl 0 rfl) ?_
  refine c_getb C hM (k := 0) (f := 2) (j := 0) (t := 3) (hM.cst 0 0 rfl) (by decide) fl_X11_34 dX11_steps_6 ?_
  refine c_aload_n (t := 0) (x := (some 0)) hx hb dX11_steps_9 rfl (lv_at hl 0 rfl) ?_
  obtain ⟨r_2, u_2, hr_2⟩ := xb_some h
  refine c_gox2 (T := (fun (v : Option Nat) α1 => some (cr α1 6 v))) (T2 := (fun (v : Int32) _ => some (.int v))) h hr_2 (c_rVx (As := []) (rest := [cr α 3 (some 0)]) C hM h17 (hM.cst 0 0 rfl) (by decide) (cc_X11_stateHere l hst D ca A α u_1 _ hr_2) cw_X11_278 ⟨rfl, rfl⟩ ⟨Nat.le_of_ble_eq_true rfl, Nat.le_of_ble_eq_true rfl⟩ rfl rfl (cats_le _ (Nat.le_of_ble_eq_true rfl)) hl.1 dX11_steps_10 ⟨Nat.le_of_ble_eq_true rfl, Nat.le_of_ble_eq_true rfl⟩) C hM (fun _ => ⟨rfl, rfl⟩) hout hlk (Nat.le_of_ble_eq_true rfl) (Nat.le_of_ble_eq_true rfl) (fun v_2 H locs α9 hα h hX_2 hM => ?_)
  obtain rfl : α = α9 := (hα rfl).symm
  refine W_st (st' := [cr α 6 v_2, cr α 3 (some 0)]) rfl ?_
  refine lv_iload_n hx hb dX11_steps_13 rfl (lv_at hl 1 rfl) ?_
  obtain ⟨r_3, hr_3, h⟩ := bd_of h
  refine c_go0 (c_rV (As := [cr α 6 v_2, .int x1]) (rest := []) C hM h17 (hM.cst 3 0 rfl) (by decide) (cc_X3_distanceTo l D ca A α u_2 v_2 x1 _ hr_3) cw_X11_475 ⟨rfl, rfl⟩ ⟨Nat.le_of_ble_eq_true rfl, Nat.le_of_ble_eq_true rfl⟩ rfl rfl (cats_le _ (Nat.le_of_ble_eq_true rfl)) hl.1 dX11_steps_14 ⟨Nat.le_of_ble_eq_true rfl, Nat.le_of_ble_eq_true rfl⟩) hM (fun H locs hM => ?_)
  refine W_st (st' := [.int r_3.1]) rfl ?_
  refine lv_istore_n (lv' := [(2, .int r_3.1), (0, cr α 0 (some 0)), (1, .int x1)]) hx hb dX11_steps_17 rfl hl (by decide) rfl (fun ls hl => ?_)
  refine lv_iload_n hx hb dX11_steps_18 rfl (lv_at hl 0 rfl) ?_
  refine lv_iconst (v := (-1 : Int32)) hx hb dX11_steps_19 (by decide) ?_
  refine lv_icmp_ne (tgt := 34) hx hb dX11_steps_20 (by decide) (fun c_1 => ?_) (fun c_1 => ?_)
  · have h := br_F c_1 h
    refine lv_iload_n hx hb dX11_steps_34 rfl (lv_at hl 0 rfl) ?_
    refine W.widen (k := 3) (n := 18) (Nat.le_of_ble_eq_true rfl) (Nat.le_of_ble_eq_true rfl) ?_
    exact c_xr h (c_ri (o := (r_3.1, r_3.2)) C hM (fun _ => rfl) hr hlk dX11_steps_35 rfl)
  · have h := br_T c_1 h
    exact c_throwW5 (text := "no way") C hM (fun _ => rfl) hst hout hlk (by decide +kernel) (wl_in (i := 1244) (by decide +kernel)) (wl_in (i := 39) (by decide +kernel)) dX11_steps_23 dX11_steps_26 dX11_steps_27 dX11_steps_30 dX11_steps_33 hl.1 (Nat.le_of_ble_eq_true rfl) (Nat.le_of_ble_eq_true rfl) (Nat.le_of_ble_eq_true rfl) (Nat.le_of_ble_eq_true rfl) (Nat.le_of_ble_eq_true rfl) (Nat.le_of_ble_eq_true rfl) h
