/-! The class's methods: what each makes of the state (fc_..), as the bytecode has it; and that it does (cc_..). -/
theorem fl_X3_150 : Cond.fieldLink RX3 150 "Lorewick$1" "$SwitchMap$Lorewick$Verb" "[I" ∈ wl := wl_in (i := 476) (by decide +kernel)
theorem ol_X3_155 : Cond.methodLink RX3 155 ⟨"Lorewick$Verb", "ordinal", "()I"⟩ ∈ wl := wl_in (i := 477) (by decide +kernel)
theorem cw_X3_159 : cCallV RX3 159 (cRn 3) yX3_pickUp cX3_pickUp 4 ((some FieldType.boolean)) 2 := ⟨⟨wl_in (i := 434) (by decide +kernel), wl_in (i := 435) (by decide +kernel), wl_in (i := 436) (by decide +kernel), wl_in (i := 5) (by decide +kernel), wl_in (i := 437) (by decide +kernel)⟩, rfl, by decide, by decide, by decide +kernel⟩
theorem cw_X3_162 : cCallV RX3 162 (cRn 3) yX3_layDown cX3_layDown 3 ((some FieldType.boolean)) 2 := ⟨⟨wl_in (i := 478) (by decide +kernel), wl_in (i := 479) (by decide +kernel), wl_in (i := 480) (by decide +kernel), wl_in (i := 5) (by decide +kernel), wl_in (i := 481) (by decide +kernel)⟩, rfl, by decide, by decide, by decide +kernel⟩
theorem cw_X3_165 : cCallV RX3 165 (cRn 3) yX3_turn cX3_turn 5 ((some FieldType.boolean)) 4 := ⟨⟨wl_in (i := 482) (by decide +kernel), wl_in (i := 483) (by decide +kernel), wl_in (i := 484) (by decide +kernel), wl_in (i := 5) (by decide +kernel), wl_in (i := 485) (by decide +kernel)⟩, rfl, by decide, by decide, by decide +kernel⟩
theorem cw_X3_173 : cCallV RX3 173 (cRn 3) yX3_countIn cX3_countIn 5 ((some FieldType.int)) 2 := ⟨⟨wl_in (i := 490) (by decide +kernel), wl_in (i := 491) (by decide +kernel), wl_in (i := 492) (by decide +kernel), wl_in (i := 5) (by decide +kernel), wl_in (i := 493) (by decide +kernel)⟩, rfl, by decide, by decide, by decide +kernel⟩
theorem fl_X3_116 : Cond.fieldLink RX3 116 (cTt 8 0).1 (cTt 8 0).2.1 (cTt 8 0).2.2.1 ∈ wl := wl_in (i := 943) (by decide +kernel)
theorem fl_X3_122 : Cond.fieldLink RX3 122 "Lorewick$Verb" "GO" "LLorewick$Verb;" ∈ wl := wl_in (i := 450) (by decide +kernel)
theorem fl_X3_133 : Cond.fieldLink RX3 133 "Lorewick$Verb" "nouns" "I" ∈ wl := wl_in (i := 2478) (by decide +kernel)
theorem fl_X3_127 : Cond.fieldLink RX3 127 (cTt 8 1).1 (cTt 8 1).2.1 (cTt 8 1).2.2.1 ∈ wl := wl_in (i := 946) (by decide +kernel)
theorem cw_X3_135 : cCallV RX3 135 (cRn 2) yX10_thingOf cX10_thingOf 3 ((some FieldType.int)) 1 := ⟨⟨wl_in (i := 460) (by decide +kernel), wl_in (i := 461) (by decide +kernel), wl_in (i := 462) (by decide +kernel), wl_in (i := 3) (by decide +kernel), wl_in (i := 463) (by decide +kernel)⟩, rfl, by decide, by decide, by decide +kernel⟩
theorem fl_X3_143 : Cond.fieldLink RX3 143 (cTt 8 2).1 (cTt 8 2).2.1 (cTt 8 2).2.2.1 ∈ wl := wl_in (i := 949) (by decide +kernel)
theorem cw_X3_146 : cCallV RX3 146 (cRn 3) yX3_stow cX3_stow 6 ((some FieldType.boolean)) 3 := ⟨⟨wl_in (i := 486) (by decide +kernel), wl_in (i := 487) (by decide +kernel), wl_in (i := 488) (by decide +kernel), wl_in (i := 5) (by decide +kernel), wl_in (i := 489) (by decide +kernel)⟩, rfl, by decide, by decide, by decide +kernel⟩
theorem cw_X3_139 : cCallV RX3 139 (cRn 3) yX3_handle cX3_handle 4 ((some FieldType.boolean)) 3 := ⟨⟨wl_in (i := 472) (by decide +kernel), wl_in (i := 473) (by decide +kernel), wl_in (i := 474) (by decide +kernel), wl_in (i := 5) (by decide +kernel), wl_in (i := 475) (by decide +kernel)⟩, rfl, by decide, by decide, by decide +kernel⟩
theorem cw_X3_130 : cCallV RX3 130 (cRn 3) yX3_move cX3_move 4 ((some FieldType.boolean)) 2 := ⟨⟨wl_in (i := 452) (by decide +kernel), wl_in (i := 453) (by decide +kernel), wl_in (i := 454) (by decide +kernel), wl_in (i := 5) (by decide +kernel), wl_in (i := 455) (by decide +kernel)⟩, rfl, by decide, by decide, by decide +kernel⟩
theorem fl_X4_7 : Cond.fieldLink RX4 7 (cTt 9 0).1 (cTt 9 0).2.1 (cTt 9 0).2.2.1 ∈ wl := wl_in (i := 1444) (by decide +kernel)
theorem fl_X4_13 : Cond.fieldLink RX4 13 (cTt 9 1).1 (cTt 9 1).2.1 (cTt 9 1).2.2.1 ∈ wl := wl_in (i := 1447) (by decide +kernel)
theorem fl_X4_17 : Cond.fieldLink RX4 17 (cTt 9 2).1 (cTt 9 2).2.1 (cTt 9 2).2.2.1 ∈ wl := wl_in (i := 1450) (by decide +kernel)
theorem fl_X5_30 : Cond.fieldLink RX5 30 (cTt 5 2).1 (cTt 5 2).2.1 (cTt 5 2).2.2.1 ∈ wl := wl_in (i := 238) (by decide +kernel)
theorem cw_X5_33 : cCallV RX5 33 (cRn 10) yJx4a65c_size_8abf5 cJx4a65c_size_8abf5 1 ((some FieldType.int)) 0 := ⟨⟨wl_in (i := 502) (by decide +kernel), wl_in (i := 353) (by decide +kernel), wl_in (i := 354) (by decide +kernel), wl_in (i := 9) (by decide +kernel), wl_in (i := 355) (by decide +kernel)⟩, rfl, by decide, by decide, by decide +kernel⟩
theorem cw_X5_37 : cCallV RX5 37 (cRn 10) yJx4a65c_get_915e3 cJx4a65c_get_915e3 2 ((some (FieldType.object "java/lang/Object"))) 1 := ⟨⟨wl_in (i := 503) (by decide +kernel), wl_in (i := 361) (by decide +kernel), wl_in (i := 362) (by decide +kernel), wl_in (i := 9) (by decide +kernel), wl_in (i := 363) (by decide +kernel)⟩, rfl, by decide, by decide, by decide +kernel⟩
theorem kl_X5_41 : Cond.classLink RX5 41 (cRn 9) ∈ wl := wl_in (i := 504) (by decide +kernel)
theorem fl_X5_43 : Cond.fieldLink RX5 43 (cTt 9 0).1 (cTt 9 0).2.1 (cTt 9 0).2.2.1 ∈ wl := wl_in (i := 1445) (by decide +kernel)
theorem cw_X11_1 : cCallV RX11 1 (cRn 7) yX2_isOnPathOf cX2_isOnPathOf 3 ((some FieldType.boolean)) 1 := ⟨⟨wl_in (i := 508) (by decide +kernel), wl_in (i := 509) (by decide +kernel), wl_in (i := 510) (by decide +kernel), wl_in (i := 35) (by decide +kernel), wl_in (i := 511) (by decide +kernel)⟩, rfl, by decide, by decide, by decide +kernel⟩
theorem fl_X5_46 : Cond.fieldLink RX5 46 (cTt 9 1).1 (cTt 9 1).2.1 (cTt 9 1).2.2.1 ∈ wl := wl_in (i := 1448) (by decide +kernel)
theorem cw_X5_50 : cCallN RX5 50 yX11_areOnOnePath "Lorewick" cX11_areOnOnePath 2 ((some FieldType.boolean)) 2 := ⟨⟨wn_in (i := 505) (by decide +kernel), wl_in (i := 1) (by decide +kernel), wl_in (i := 507) (by decide +kernel)⟩, by decide, by decide, by decide +kernel⟩
theorem cw_X8_26 : cCallV RX8 26 (cRn 10) yJx4a65c_size_8abf5 cJx4a65c_size_8abf5 1 ((some FieldType.int)) 0 := ⟨⟨wl_in (i := 417) (by decide +kernel), wl_in (i := 353) (by decide +kernel), wl_in (i := 354) (by decide +kernel), wl_in (i := 9) (by decide +kernel), wl_in (i := 355) (by decide +kernel)⟩, rfl, by decide, by decide, by decide +kernel⟩
theorem cw_X8_34 : cCallV RX8 34 (cRn 10) yJx4a65c_get_915e3 cJx4a65c_get_915e3 2 ((some (FieldType.object "java/lang/Object"))) 1 := ⟨⟨wl_in (i := 972) (by decide +kernel), wl_in (i := 361) (by decide +kernel), wl_in (i := 362) (by decide +kernel), wl_in (i := 9) (by decide +kernel), wl_in (i := 363) (by decide +kernel)⟩, rfl, by decide, by decide, by decide +kernel⟩
theorem kl_X8_38 : Cond.classLink RX8 38 (cRn 7) ∈ wl := wl_in (i := 966) (by decide +kernel)
theorem fl_X8_73 : Cond.fieldLink RX8 73 (cTt 7 4).1 (cTt 7 4).2.1 (cTt 7 4).2.2.1 ∈ wl := wl_in (i := 991) (by decide +kernel)
/-! Lorewick$Rules.handle(LLorewick$State;LLorewick$Verb;I)Z -/
abbrev rc_X3_handle : Room := { frames := 3, cells := 0, slots := 0, locals := 68 }
def fc_X3_handle_108 (σ : cS) (s0 : Int32) : Option (Int32 × cS) :=
    if s0 &&& 1 = s0 then some (s0, σ) else none
set_option maxHeartbeats 4000000 in
set_option maxRecDepth 100000 in
theorem gc_X3_handle_108 {p : Program} {l : Launch} {e : Env} {s : State} {m : MethodId} {args : Array Value} {below : List Frame} {meth : Method} {c : Code} {D : va_G} {ca : Nat → ClassId} {A : Nat → Prop} {σ0 : cS} {α : cAl} {o : Int32 × cS} (C : cC p s m args c cX3_handle 4 RX3 D ca A α) (hr : meth.sig.returnType = (some FieldType.boolean)) (hlk : meth.locks = false) (h17 : 0 < cn σ0 17) : ∀ (σ : cS) (s0 : Int32) (H : Heap) (locs : List Loc) (ls : Array Slot), cM D ca true A s.heap σ0 α σ α H locs → lv_has ls 4 [] → fc_X3_handle_108 σ s0 = some o → W p l e rc_X3_handle s m args below meth c H locs 0 0 (MQ below (cQ false D ca true A α σ0 (fun _ => some (.int o.1)) o.2) args s 0 0 A) (F0 m 108 ls [.int s0]) := by
  have hx := C.1
  have hb := C.2.1
  intro σ s0 H locs ls hM hl h
  unfold fc_X3_handle_108 at h
  exact c_rz C hM (fun _ => rfl) hr hlk dX3_handle_108 h
def fc_X3_handle_107 (σ : cS) : Option (Int32 × cS) :=
    fc_X3_handle_108 σ (0 : Int32)
set_option maxHeartbeats 4000000 in
set_option maxRecDepth 100000 in
theorem gc_X3_handle_107 {p : Program} {l : Launch} {e : Env} {s : State} {m : MethodId} {args : Array Value} {below : List Frame} {meth : Method} {c : Code} {D : va_G} {ca : Nat → ClassId} {A : Nat → Prop} {σ0 : cS} {α : cAl} {o : Int32 × cS} (C : cC p s m args c cX3_handle 4 RX3 D ca A α) (hr : meth.sig.returnType = (some FieldType.boolean)) (hlk : meth.locks = false) (h17 : 0 < cn σ0 17) : ∀ (σ : cS) (H : Heap) (locs : List Loc) (ls : Array Slot), cM D ca true A s.heap σ0 α σ α H locs → lv_has ls 4 [] → fc_X3_handle_107 σ = some o → W p l e rc_X3_handle s m args below meth c H locs 0 0 (MQ below (cQ false D ca true A α σ0 (fun _ => some (.int o.1)) o.2) args s 0 0 A) (F0 m 107 ls []) := by
  have hx := C.1
  have hb := C.2.1
  intro σ H locs ls hM hl h
  unfold fc_X3_handle_107 at h
  refine lv_iconst (v := (0 : Int32)) hx hb dX3_handle_107 (by decide) ?_
  exact gc_X3_handle_108 C hr hlk h17  _ _ _ _ _ hM (lv_sub hl [] rfl) h
def fc_X3_handle (σ : cS) (x1 : Option Nat) (x2 : Option Nat) (x3 : Int32) : Option (Int32 × cS) :=
  (dv x2).bind fun i_1 =>
  if ¬ (¬ ((nI i_1) < 0 ∨ 15 ≤ (nI i_1).toNatClampNeg)) then none else
  if (vM.getD (nI i_1).toNatClampNeg 0) = (1 : Int32) then
    (fc_X3_pickUp σ x1 x3).bind fun r_2 =>
    if r_2.1 &&& 1 = r_2.1 then some (r_2.1, r_2.2) else none
  else
  if (vM.getD (nI i_1).toNatClampNeg 0) = (2 : Int32) then
    (fc_X3_layDown σ x1 x3).bind fun r_3 =>
    if r_3.1 &&& 1 = r_3.1 then some (r_3.1, r_3.2) else none
  else
  if (vM.getD (nI i_1).toNatClampNeg 0) = (3 : Int32) then
    (fc_X3_turn σ x1 x3 (98 : Int32) (1 : Int32)).bind fun r_4 =>
    if r_4.1 &&& 1 = r_4.1 then some (r_4.1, r_4.2) else none
  else
  if (vM.getD (nI i_1).toNatClampNeg 0) = (4 : Int32) then
    (fc_X3_turn σ x1 x3 (98 : Int32) (0 : Int32)).bind fun r_5 =>
    if r_5.1 &&& 1 = r_5.1 then some (r_5.1, r_5.2) else none
  else
  if (vM.getD (nI i_1).toNatClampNeg 0) = (5 : Int32) then
    (dr σ 6 x1).bind fun i_6 =>
    (dr σ 12 (cR σ 6 i_6 2)).bind fun i_7 =>
    if x3 < 0 ∨ cln σ 12 i_7 ≤ x3.toNatClampNeg then none else
    if (cI σ 12 i_7 x3.toNatClampNeg) ≤ 0 then
      fc_X3_handle_107 σ
    else
      (fc_X3_turn σ x1 x3 (108 : Int32) (1 : Int32)).bind fun r_8 =>
      if r_8.1 = 0 then
        fc_X3_handle_107 r_8.2
      else
        fc_X3_handle_108 r_8.2 (1 : Int32)
  else
  if (vM.getD (nI i_1).toNatClampNeg 0) = (6 : Int32) then
    (fc_X3_turn σ x1 x3 (108 : Int32) (0 : Int32)).bind fun r_9 =>
    if r_9.1 &&& 1 = r_9.1 then some (r_9.1, r_9.2) else none
  else
    if (1 : Int32) &&& 1 = (1 : Int32) then some ((1 : Int32), σ) else none
set_option maxHeartbeats 4000000 in
set_option maxRecDepth 100000 in
theorem cc_X3_handle (l : Launch) (D : va_G) (ca : Nat → ClassId) (A : Nat → Prop) (α : cAl) (σ : cS) (x1 : Option Nat) (x2 : Option Nat) (x3 : Int32) (o : Int32 × cS) (h : fc_X3_handle σ x1 x2 x3 = some o) : cMet false l yX3_handle cX3_handle 4 ((some FieldType.boolean)) rc_X3_handle 0 0 D ca true A α σ [cr α 3 (some 0), cr α 6 x1, cr α 18 x2, .int x3] (fun _ => some (.int o.1)) o.2 := by
  refine Met.ofW (cc := cX3_handle) (maxL := 4) (ret := (some FieldType.boolean)) (by decide) rfl ?_
  intro p e s m args below meth c s₁ B hml hv
  obtain ⟨rfl, hP, hK, hD0, hSh, hA, hG⟩ := hv
  have C : cC p s m _ c cX3_handle 4 RX3 D ca A α := ⟨B.exec, B.bytes, hml, findClass_of_methodNamed B.named, fun w hw => atoms_spec (ws := mWs yX3_handle cX3_handle 4 ((some FieldType.boolean))) B.pre w (List.mem_cons_of_mem _ hw), hK, hG⟩
  have hM : cM D ca true A s.heap σ α σ α s.heap [] := ⟨hP, hD0, hSh, va_S.rf, hA, cX.rf⟩
  have h17 : 0 < cn σ 17 := c_17 hM
  have hr := B.returns
  have hlk := B.notSynchronized
  have hx := C.1
  have hb := C.2.1
  have hl := lv_entry ([cr α 3 (some 0), cr α 6 x1, cr α 18 x2, .int x3]) (n := 4) (by simp [lg_r, lg_i, lg_l, lg_n])
  rw [lg_entry_eq]
  generalize (lg_sl ([cr α 3 (some 0), cr α 6 x1, cr α 18 x2, .int x3]) ++ List.replicate (4 - (lg_sl ([cr α 3 (some 0), cr α 6 x1, cr α 18 x2, .int x3])).length) Slot.unset).toArray = ls at hl ⊢
  have hl : lv_has ls 4 [(0, cr α 3 (some 0)), (1, cr α 6 x1), (2, cr α 18 x2), (3, .int x3)] := (lv_to hl (by simp only [la_r, la_i, la_l, la_n]))
  unfold fc_X3_handle at h
  refine c_getSM C hM fl_X3_150 dX3_handle_0 ?_
  refine c_aload_n (t := 18) (x := x2) hx hb dX3_handle_3 rfl (lv_at hl 2 rfl) ?_
  obtain ⟨i_1, hv_1, h⟩ := bd_of h
  refine c_ordinal C hM h17 hv_1 ol_X3_155 (rest := [cr α 20 (some 1)]) (cats_le _ (Nat.le_of_ble_eq_true rfl)) (Nat.le_of_ble_eq_true rfl) (Nat.le_of_ble_eq_true rfl) ⟨Nat.le_of_ble_eq_true rfl, Nat.le_of_ble_eq_true rfl⟩ hl.1 dX3_handle_4 (fun H locs hM => ?_)
  obtain ⟨c_1, h⟩ := ko_of h
  refine c_SMat C hM (Classical.not_not.mp c_1) dX3_handle_7 ?_
  by_cases c_2 : (vM.getD (nI i_1).toNatClampNeg 0) = (1 : Int32)
  · have h := br_T c_2 h
    refine xr_int c_2 ?_
    refine lv_tableIn (tgt := 48) hx hb dX3_handle_8 (by decide) (by decide) rfl (by decide) ?_
    refine c_aload_n (t := 3) (x := (some 0)) hx hb dX3_handle_48 rfl (lv_at hl 0 rfl) ?_
    refine c_aload_n (t := 6) (x := x1) hx hb dX3_handle_49 rfl (lv_at hl 1 rfl) ?_
    refine lv_iload_n hx hb dX3_handle_50 rfl (lv_at hl 3 rfl) ?_
    obtain ⟨r_2, hr_2, h⟩ := bd_of h
    refine c_go0 (c_rV (As := [cr α 6 x1, .int x3]) (rest := []) C hM h17 (hM.cst 3 0 rfl) (by decide) (cc_X3_pickUp l D ca A α σ x1 x3 _ hr_2) cw_X3_159 ⟨rfl, rfl⟩ ⟨Nat.le_of_ble_eq_true rfl, Nat.le_of_ble_eq_true rfl⟩ rfl rfl (cats_le _ (Nat.le_of_ble_eq_true rfl)) hl.1 dX3_handle_51 ⟨Nat.le_of_ble_eq_true rfl, Nat.le_of_ble_eq_true rfl⟩) hM (fun H locs hM => ?_)
    refine W_st (st' := [.int r_2.1]) rfl ?_
    exact c_rz C hM (fun _ => rfl) hr hlk dX3_handle_54 h
  · have h := br_F c_2 h
    by_cases c_3 : (vM.getD (nI i_1).toNatClampNeg 0) = (2 : Int32)
    · have h := br_T c_3 h
      refine xr_int c_3 ?_
      refine lv_tableIn (tgt := 55) hx hb dX3_handle_8 (by decide) (by decide) rfl (by decide) ?_
      refine c_aload_n (t := 3) (x := (some 0)) hx hb dX3_handle_55 rfl (lv_at hl 0 rfl) ?_
      refine c_aload_n (t := 6) (x := x1) hx hb dX3_handle_56 rfl (lv_at hl 1 rfl) ?_
      refine lv_iload_n hx hb dX3_handle_57 rfl (lv_at hl 3 rfl) ?_
      obtain ⟨r_3, hr_3, h⟩ := bd_of h
      refine c_go0 (c_rV (As := [cr α 6 x1, .int x3]) (rest := []) C hM h17 (hM.cst 3 0 rfl) (by decide) (cc_X3_layDown l D ca A α σ x1 x3 _ hr_3) cw_X3_162 ⟨rfl, rfl⟩ ⟨Nat.le_of_ble_eq_true rfl, Nat.le_of_ble_eq_true rfl⟩ rfl rfl (cats_le _ (Nat.le_of_ble_eq_true rfl)) hl.1 dX3_handle_58 ⟨Nat.le_of_ble_eq_true rfl, Nat.le_of_ble_eq_true rfl⟩) hM (fun H locs hM => ?_)
      refine W_st (st' := [.int r_3.1]) rfl ?_
      exact c_rz C hM (fun _ => rfl) hr hlk dX3_handle_61 h
    · have h := br_F c_3 h
      by_cases c_4 : (vM.getD (nI i_1).toNatClampNeg 0) = (3 : Int32)
      · have h := br_T c_4 h
        refine xr_int c_4 ?_
        refine lv_tableIn (tgt := 62) hx hb dX3_handle_8 (by decide) (by decide) rfl (by decide) ?_
        refine c_aload_n (t := 3) (x := (some 0)) hx hb dX3_handle_62 rfl (lv_at hl 0 rfl) ?_
        refine c_aload_n (t := 6) (x := x1) hx hb dX3_handle_63 rfl (lv_at hl 1 rfl) ?_
        refine lv_iload_n hx hb dX3_handle_64 rfl (lv_at hl 3 rfl) ?_
        refine lv_bipush (v := (98 : Int32)) hx hb dX3_handle_65 (by decide) ?_
        refine lv_iconst (v := (1 : Int32)) hx hb dX3_handle_67 (by decide) ?_
        obtain ⟨r_4, hr_4, h⟩ := bd_of h
        refine c_go0 (c_rV (As := [cr α 6 x1, .int x3, .int (98 : Int32), .int (1 : Int32)]) (rest := []) C hM h17 (hM.cst 3 0 rfl) (by decide) (cc_X3_turn l D ca A α σ x1 x3 (98 : Int32) (1 : Int32) _ hr_4) cw_X3_165 ⟨rfl, rfl⟩ ⟨Nat.le_of_ble_eq_true rfl, Nat.le_of_ble_eq_true rfl⟩ rfl rfl (cats_le _ (Nat.le_of_ble_eq_true rfl)) hl.1 dX3_handle_68 ⟨Nat.le_of_ble_eq_true rfl, Nat.le_of_ble_eq_true rfl⟩) hM (fun H locs hM => ?_)
        refine W_st (st' := [.int r_4.1]) rfl ?_
        exact c_rz C hM (fun _ => rfl) hr hlk dX3_handle_71 h
      · have h := br_F c_4 h
        by_cases c_5 : (vM.getD (nI i_1).toNatClampNeg 0) = (4 : Int32)
        · have h := br_T c_5 h
          refine xr_int c_5 ?_
          refine lv_tableIn (tgt := 72) hx hb dX3_handle_8 (by decide) (by decide) rfl (by decide) ?_
          refine c_aload_n (t := 3) (x := (some 0)) hx hb dX3_handle_72 rfl (lv_at hl 0 rfl) ?_
          refine c_aload_n (t := 6) (x := x1) hx hb dX3_handle_73 rfl (lv_at hl 1 rfl) ?_
          refine lv_iload_n hx hb dX3_handle_74 rfl (lv_at hl 3 rfl) ?_
          refine lv_bipush (v := (98 : Int32)) hx hb dX3_handle_75 (by decide) ?_
          refine lv_iconst (v := (0 : Int32)) hx hb dX3_handle_77 (by decide) ?_
          obtain ⟨r_5, hr_5, h⟩ := bd_of h
          refine c_go0 (c_rV (As := [cr α 6 x1, .int x3, .int (98 : Int32), .int (0 : Int32)]) (rest := []) C hM h17 (hM.cst 3 0 rfl) (by decide) (cc_X3_turn l D ca A α σ x1 x3 (98 : Int32) (0 : Int32) _ hr_5) cw_X3_165 ⟨rfl, rfl⟩ ⟨Nat.le_of_ble_eq_true rfl, Nat.le_of_ble_eq_true rfl⟩ rfl rfl (cats_le _ (Nat.le_of_ble_eq_true rfl)) hl.1 dX3_handle_78 ⟨Nat.le_of_ble_eq_true rfl, Nat.le_of_ble_eq_true rfl⟩) hM (fun H locs hM => ?_)
          refine W_st (st' := [.int r_5.1]) rfl ?_
          exact c_rz C hM (fun _ => rfl) hr hlk dX3_handle_81 h
        · have h := br_F c_5 h
          by_cases c_6 : (vM.getD (nI i_1).toNatClampNeg 0) = (5 : Int32)
          · have h := br_T c_6 h
            refine xr_int c_6 ?_
            refine lv_tableIn (tgt := 82) hx hb dX3_handle_8 (by decide) (by decide) rfl (by decide) ?_
            refine c_aload_n (t := 6) (x := x1) hx hb dX3_handle_82 rfl (lv_at hl 1 rfl) ?_
            obtain ⟨i_6, hd_6, h⟩ := bd_of h
            refine c_getrt C hM (k := 6) (f := 2) (t := 12) hd_6 (by decide) fl_X3_33 dX3_handle_83 ?_
            refine lv_iload_n hx hb dX3_handle_86 rfl (lv_at hl 3 rfl) ?_
            obtain ⟨i_7, hd_7, h⟩ := bd_of h
            obtain ⟨c_7, h⟩ := ko_of h
            refine c_iald C hM hd_7 c_7 dX3_handle_87 ?_
            refine lv_if_le (tgt := 107) hx hb dX3_handle_88 (by decide) (fun c_8 => ?_) (fun c_8 => ?_)
            · have h := br_T c_8 h
              exact gc_X3_handle_107 C hr hlk h17  _ _ _ _ hM (lv_sub hl [] rfl) h
            · have h := br_F c_8 h
              refine c_aload_n (t := 3) (x := (some 0)) hx hb dX3_handle_91 rfl (lv_at hl 0 rfl) ?_
              refine c_aload_n (t := 6) (x := x1) hx hb dX3_handle_92 rfl (lv_at hl 1 rfl) ?_
              refine lv_iload_n hx hb dX3_handle_93 rfl (lv_at hl 3 rfl) ?_
              refine lv_bipush (v := (108 : Int32)) hx hb dX3_handle_94 (by decide) ?_
              refine lv_iconst (v := (1 : Int32)) hx hb dX3_handle_96 (by decide) ?_
              obtain ⟨r_8, hr_8, h⟩ := bd_of h
              refine c_go0 (c_rV (As := [cr α 6 x1, .int x3, .int (108 : Int32), .int (1 : Int32)]) (rest := []) C hM h17 (hM.cst 3 0 rfl) (by decide) (cc_X3_turn l D ca A α σ x1 x3 (108 : Int32) (1 : Int32) _ hr_8) cw_X3_165 ⟨rfl, rfl⟩ ⟨Nat.le_of_ble_eq_true rfl, Nat.le_of_ble_eq_true rfl⟩ rfl rfl (cats_le _ (Nat.le_of_ble_eq_true rfl)) hl.1 dX3_handle_97 ⟨Nat.le_of_ble_eq_true rfl, Nat.le_of_ble_eq_true rfl⟩) hM (fun H locs hM => ?_)
              refine W_st (st' := [.int r_8.1]) rfl ?_
              refine lv_if_eq (tgt := 107) hx hb dX3_handle_100 (by decide) (fun c_9 => ?_) (fun c_9 => ?_)
              · have h := br_T c_9 h
                exact gc_X3_handle_107 C hr hlk h17  _ _ _ _ hM (lv_sub hl [] rfl) h
              · have h := br_F c_9 h
                refine lv_iconst (v := (1 : Int32)) hx hb dX3_handle_103 (by decide) ?_
                refine lv_goto (tgt := 108) hx hb dX3_handle_104 (by decide) ?_
                exact gc_X3_handle_108 C hr hlk h17  _ _ _ _ _ hM (lv_sub hl [] rfl) h
          · have h := br_F c_6 h
            by_cases c_10 : (vM.getD (nI i_1).toNatClampNeg 0) = (6 : Int32)
            · have h := br_T c_10 h
              refine xr_int c_10 ?_
              refine lv_tableIn (tgt := 109) hx hb dX3_handle_8 (by decide) (by decide) rfl (by decide) ?_
              refine c_aload_n (t := 3) (x := (some 0)) hx hb dX3_handle_109 rfl (lv_at hl 0 rfl) ?_
              refine c_aload_n (t := 6) (x := x1) hx hb dX3_handle_110 rfl (lv_at hl 1 rfl) ?_
              refine lv_iload_n hx hb dX3_handle_111 rfl (lv_at hl 3 rfl) ?_
              refine lv_bipush (v := (108 : Int32)) hx hb dX3_handle_112 (by decide) ?_
              refine lv_iconst (v := (0 : Int32)) hx hb dX3_handle_114 (by decide) ?_
              obtain ⟨r_9, hr_9, h⟩ := bd_of h
              refine c_go0 (c_rV (As := [cr α 6 x1, .int x3, .int (108 : Int32), .int (0 : Int32)]) (rest := []) C hM h17 (hM.cst 3 0 rfl) (by decide) (cc_X3_turn l D ca A α σ x1 x3 (108 : Int32) (0 : Int32) _ hr_9) cw_X3_165 ⟨rfl, rfl⟩ ⟨Nat.le_of_ble_eq_true rfl, Nat.le_of_ble_eq_true rfl⟩ rfl rfl (cats_le _ (Nat.le_of_ble_eq_true rfl)) hl.1 dX3_handle_115 ⟨Nat.le_of_ble_eq_true rfl, Nat.le_of_ble_eq_true rfl⟩) hM (fun H locs hM => ?_)
              refine W_st (st' := [.int r_9.1]) rfl ?_
              exact c_rz C hM (fun _ => rfl) hr hlk dX3_handle_118 h
            · have h := br_F c_10 h
              have c_2n : ((vM.getD (nI i_1).toNatClampNeg 0)).toInt ≠ 1 := c_ne c_2
              have c_3n : ((vM.getD (nI i_1).toNatClampNeg 0)).toInt ≠ 2 := c_ne c_3
              have c_4n : ((vM.getD (nI i_1).toNatClampNeg 0)).toInt ≠ 3 := c_ne c_4
              have c_5n : ((vM.getD (nI i_1).toNatClampNeg 0)).toInt ≠ 4 := c_ne c_5
              have c_6n : ((vM.getD (nI i_1).toNatClampNeg 0)).toInt ≠ 5 := c_ne c_6
              have c_10n : ((vM.getD (nI i_1).toNatClampNeg 0)).toInt ≠ 6 := c_ne c_10
              refine lv_tableOut (tgt := 119) hx hb dX3_handle_8 (by omega) (by decide) ?_
              refine lv_iconst (v := (1 : Int32)) hx hb dX3_handle_119 (by decide) ?_
              exact c_rz C hM (fun _ => rfl) hr hlk dX3_handle_120 h
/-! Lorewick$Rules.stow(LLorewick$State;II)Z -/
abbrev rc_X3_stow : Room := { frames := 1, cells := 0, slots := 0, locals := 24 }
def fc_X3_stow_82 (σ : cS) : Option (Int32 × cS) :=
    if (0 : Int32) &&& 1 = (0 : Int32) then some ((0 : Int32), σ) else none
set_option maxHeartbeats 4000000 in
set_option maxRecDepth 100000 in
theorem gc_X3_stow_82 {p : Program} {l : Launch} {e : Env} {s : State} {m : MethodId} {args : Array Value} {below : List Frame} {meth : Method} {c : Code} {D : va_G} {ca : Nat → ClassId} {A : Nat → Prop} {σ0 : cS} {α : cAl} {o : Int32 × cS} (C : cC p s m args c cX3_stow 6 RX3 D ca A α) (hr : meth.sig.returnType = (some FieldType.boolean)) (hlk : meth.locks = false) (h17 : 0 < cn σ0 17) : ∀ (σ : cS) (H : Heap) (locs : List Loc) (ls : Array Slot), cM D ca true A s.heap σ0 α σ α H locs → lv_has ls 6 [] → fc_X3_stow_82 σ = some o → W p l e rc_X3_stow s m args below meth c H locs 0 0 (MQ below (cQ false D ca true A α σ0 (fun _ => some (.int o.1)) o.2) args s 0 0 A) (F0 m 82 ls []) := by
  have hx := C.1
  have hb := C.2.1
  intro σ H locs ls hM hl h
  unfold fc_X3_stow_82 at h
  refine lv_iconst (v := (0 : Int32)) hx hb dX3_stow_82 (by decide) ?_
  exact c_rz C hM (fun _ => rfl) hr hlk dX3_stow_83 h
def fc_X3_stow_70 (σ : cS) (x1 : Option Nat) (x2 : Int32) (x3 : Int32) (x4 : Int32) (s0 : Int32) : Option (Int32 × cS) :=
    if x4 = 0 then
      fc_X3_stow_82 σ
    else
      if s0 = 0 then
        fc_X3_stow_82 σ
      else
        (dr σ 6 x1).bind fun i_1 =>
        (dr σ 12 (cR σ 6 i_1 1)).bind fun i_2 =>
        if x2 < 0 ∨ cln σ 12 i_2 ≤ x2.toNatClampNeg then none else
        if (1 : Int32) &&& 1 = (1 : Int32) then some ((1 : Int32), (uI σ 12 i_2 x2.toNatClampNeg ((200 : Int32) + x3))) else none
set_option maxHeartbeats 4000000 in
set_option maxRecDepth 100000 in
theorem gc_X3_stow_70 {p : Program} {l : Launch} {e : Env} {s : State} {m : MethodId} {args : Array Value} {below : List Frame} {meth : Method} {c : Code} {D : va_G} {ca : Nat → ClassId} {A : Nat → Prop} {σ0 : cS} {α : cAl} {o : Int32 × cS} (C : cC p s m args c cX3_stow 6 RX3 D ca A α) (hr : meth.sig.returnType = (some FieldType.boolean)) (hlk : meth.locks = false) (h17 : 0 < cn σ0 17) : ∀ (σ : cS) (x1 : Option Nat) (x2 : Int32) (x3 : Int32) (x4 : Int32) (s0 : Int32) (H : Heap) (locs : List Loc) (ls : Array Slot), cM D ca true A s.heap σ0 α σ α H locs → lv_has ls 6 [(1, cr α 6 x1), (2, .int x2), (3, .int x3), (4, .int x4)] → fc_X3_stow_70 σ x1 x2 x3 x4 s0 = some o → W p l e rc_X3_stow s m args below meth c H locs 0 0 (MQ below (cQ false D ca true A α σ0 (fun _ => some (.int o.1)) o.2) args s 0 0 A) (F0 m 70 ls [.int s0]) := by
  have hx := C.1
  have hb := C.2.1
  intro σ x1 x2 x3 x4 s0 H locs ls hM hl h
  unfold fc_X3_stow_70 at h
  refine lv_istore (lv' := [(5, .int s0), (1, cr α 6 x1), (2, .int x2), (3, .int x3), (4, .int x4)]) hx hb dX3_stow_70 hl (by decide) rfl (fun ls hl => ?_)
  refine lv_iload hx hb dX3_stow_72 (lv_at hl 4 rfl) ?_
  refine lv_if_eq (tgt := 82) hx hb dX3_stow_74 (by decide) (fun c_1 => ?_) (fun c_1 => ?_)
  · have h := br_T c_1 h
    exact gc_X3_stow_82 C hr hlk h17  _ _ _ _ hM (lv_sub hl [] rfl) h
  · have h := br_F c_1 h
    refine lv_iload hx hb dX3_stow_77 (lv_at hl 0 rfl) ?_
    refine lv_if_ne (tgt := 84) hx hb dX3_stow_79 (by decide) (fun c_2 => ?_) (fun c_2 => ?_)
    · have h := br_F c_2 h
      refine c_aload_n (t := 6) (x := x1) hx hb dX3_stow_84 rfl (lv_at hl 1 rfl) ?_
      obtain ⟨i_1, hd_1, h⟩ := bd_of h
      refine c_getrt C hM (k := 6) (f := 1) (t := 12) hd_1 (by decide) fl_X3_25 dX3_stow_85 ?_
      refine lv_iload_n hx hb dX3_stow_88 rfl (lv_at hl 2 rfl) ?_
      refine lv_sipush (v := (200 : Int32)) hx hb dX3_stow_89 (by decide) ?_
      refine lv_iload_n hx hb dX3_stow_92 rfl (lv_at hl 3 rfl) ?_
      refine lv_iadd hx hb dX3_stow_93 ?_
      obtain ⟨i_2, hd_2, h⟩ := bd_of h
      obtain ⟨c_3, h⟩ := ko_of h
      refine c_iast C hM hd_2 c_3 dX3_stow_94 (fun H locs hM => ?_)
      refine lv_iconst (v := (1 : Int32)) hx hb dX3_stow_95 (by decide) ?_
      exact c_rz C hM (fun _ => rfl) hr hlk dX3_stow_96 h
    · have h := br_T c_2 h
      exact gc_X3_stow_82 C hr hlk h17  _ _ _ _ hM (lv_sub hl [] rfl) h
def fc_X3_stow_69 (σ : cS) (x1 : Option Nat) (x2 : Int32) (x3 : Int32) (x4 : Int32) : Option (Int32 × cS) :=
    fc_X3_stow_70 σ x1 x2 x3 x4 (0 : Int32)
set_option maxHeartbeats 4000000 in
set_option maxRecDepth 100000 in
theorem gc_X3_stow_69 {p : Program} {l : Launch} {e : Env} {s : State} {m : MethodId} {args : Array Value} {below : List Frame} {meth : Method} {c : Code} {D : va_G} {ca : Nat → ClassId} {A : Nat → Prop} {σ0 : cS} {α : cAl} {o : Int32 × cS} (C : cC p s m args c cX3_stow 6 RX3 D ca A α) (hr : meth.sig.returnType = (some FieldType.boolean)) (hlk : meth.locks = false) (h17 : 0 < cn σ0 17) : ∀ (σ : cS) (x1 : Option Nat) (x2 : Int32) (x3 : Int32) (x4 : Int32) (H : Heap) (locs : List Loc) (ls : Array Slot), cM D ca true A s.heap σ0 α σ α H locs → lv_has ls 6 [(1, cr α 6 x1), (2, .int x2), (3, .int x3), (4, .int x4)] → fc_X3_stow_69 σ x1 x2 x3 x4 = some o → W p l e rc_X3_stow s m args below meth c H locs 0 0 (MQ below (cQ false D ca true A α σ0 (fun _ => some (.int o.1)) o.2) args s 0 0 A) (F0 m 69 ls []) := by
  have hx := C.1
  have hb := C.2.1
  intro σ x1 x2 x3 x4 H locs ls hM hl h
  unfold fc_X3_stow_69 at h
  refine lv_iconst (v := (0 : Int32)) hx hb dX3_stow_69 (by decide) ?_
  exact gc_X3_stow_70 C hr hlk h17  _ _ _ _ _ _ _ _ _ hM (lv_sub hl [0, 1, 2, 3] rfl) h
def fc_X3_stow_30 (σ : cS) (x1 : Option Nat) (x2 : Int32) (x3 : Int32) (s0 : Int32) : Option (Int32 × cS) :=
    if x3 < 0 ∨ 12 ≤ x3.toNatClampNeg then none else
    if (cI σ 14 1 x3.toNatClampNeg) = (98 : Int32) then
      (dr σ 6 x1).bind fun i_1 =>
      (dr σ 13 (cR σ 6 i_1 3)).bind fun i_2 =>
      if x3 < 0 ∨ cln σ 13 i_2 ≤ x3.toNatClampNeg then none else
      if (cI σ 13 i_2 x3.toNatClampNeg) = 0 then
        fc_X3_stow_69 σ x1 x2 x3 s0
      else
        (fc_X3_countIn σ x1 x3).bind fun r_3 =>
        if (3 : Int32) ≤ r_3.1 then
          fc_X3_stow_69 r_3.2 x1 x2 x3 s0
        else
          fc_X3_stow_70 r_3.2 x1 x2 x3 s0 (1 : Int32)
    else
      fc_X3_stow_69 σ x1 x2 x3 s0
set_option maxHeartbeats 4000000 in
set_option maxRecDepth 100000 in
theorem gc_X3_stow_30 {p : Program} {l : Launch} {e : Env} {s : State} {m : MethodId} {args : Array Value} {below : List Frame} {meth : Method} {c : Code} {D : va_G} {ca : Nat → ClassId} {A : Nat → Prop} {σ0 : cS} {α : cAl} {o : Int32 × cS} (C : cC p s m args c cX3_stow 6 RX3 D ca A α) (hr : meth.sig.returnType = (some FieldType.boolean)) (hlk : meth.locks = false) (h17 : 0 < cn σ0 17) : ∀ (σ : cS) (x1 : Option Nat) (x2 : Int32) (x3 : Int32) (s0 : Int32) (H : Heap) (locs : List Loc) (ls : Array Slot), cM D ca true A s.heap σ0 α σ α H locs → lv_has ls 6 [(0, cr α 3 (some 0)), (1, cr α 6 x1), (2, .int x2), (3, .int x3)] → fc_X3_stow_30 σ x1 x2 x3 s0 = some o → W p l e rc_X3_stow s m args below meth c H locs 0 0 (MQ below (cQ false D ca true A α σ0 (fun _ => some (.int o.1)) o.2) args s 0 0 A) (F0 m 30 ls [.int s0]) := by
  have hx := C.1
  have hb := C.2.1
  intro σ x1 x2 x3 s0 H locs ls hM hl h
  unfold fc_X3_stow_30 at h
  refine lv_istore (lv' := [(4, .int s0), (0, cr α 3 (some 0)), (1, cr α 6 x1), (2, .int x2), (3, .int x3)]) hx hb dX3_stow_30 hl (by decide) rfl (fun ls hl => ?_)
  refine c_aload_n (t := 3) (x := (some 0)) hx hb dX3_stow_32 rfl (lv_at hl 1 rfl) ?_
  refine c_getb C hM (k := 3) (f := 0) (j := 0) (t := 2) (hM.cst 3 0 rfl) (by decide) fl_X3_15 dX3_stow_33 ?_
  refine c_getb C hM (k := 2) (f := 10) (j := 1) (t := 14) (hM.cst 2 0 rfl) (by decide) fl_X3_51 dX3_stow_36 ?_
  refine lv_iload_n hx hb dX3_stow_39 rfl (lv_at hl 4 rfl) ?_
  obtain ⟨c_1, h⟩ := ko_of h
  refine c_cald C hM (hM.cst 14 1 rfl) (by rw [hM.ln 14 1 12 (by decide)]; exact c_1) dX3_stow_40 ?_
  refine lv_bipush (v := (98 : Int32)) hx hb dX3_stow_41 (by decide) ?_
  refine lv_icmp_ne (tgt := 69) hx hb dX3_stow_43 (by decide) (fun c_2 => ?_) (fun c_2 => ?_)
  · have h := br_F c_2 h
    exact gc_X3_stow_69 C hr hlk h17  _ _ _ _ _ _ _ _ hM (lv_sub hl [2, 3, 4, 0] rfl) h
  · have h := br_T c_2 h
    refine c_aload_n (t := 6) (x := x1) hx hb dX3_stow_46 rfl (lv_at hl 2 rfl) ?_
    obtain ⟨i_1, hd_1, h⟩ := bd_of h
    refine c_getrt C hM (k := 6) (f := 3) (t := 13) hd_1 (by decide) fl_X3_37 dX3_stow_47 ?_
    refine lv_iload_n hx hb dX3_stow_50 rfl (lv_at hl 4 rfl) ?_
    obtain ⟨i_2, hd_2, h⟩ := bd_of h
    obtain ⟨c_3, h⟩ := ko_of h
    refine c_zald C hM hd_2 c_3 dX3_stow_51 ?_
    refine lv_if_eq (tgt := 69) hx hb dX3_stow_52 (by decide) (fun c_4 => ?_) (fun c_4 => ?_)
    · have h := br_T c_4 h
      exact gc_X3_stow_69 C hr hlk h17  _ _ _ _ _ _ _ _ hM (lv_sub hl [2, 3, 4, 0] rfl) h
    · have h := br_F c_4 h
      refine c_aload_n (t := 3) (x := (some 0)) hx hb dX3_stow_55 rfl (lv_at hl 1 rfl) ?_
      refine c_aload_n (t := 6) (x := x1) hx hb dX3_stow_56 rfl (lv_at hl 2 rfl) ?_
      refine lv_iload_n hx hb dX3_stow_57 rfl (lv_at hl 4 rfl) ?_
      obtain ⟨r_3, hr_3, h⟩ := bd_of h
      refine c_go0 (c_rV (As := [cr α 6 x1, .int x3]) (rest := []) C hM h17 (hM.cst 3 0 rfl) (by decide) (cc_X3_countIn l D ca A α σ x1 x3 _ hr_3) cw_X3_173 ⟨rfl, rfl⟩ ⟨Nat.le_of_ble_eq_true rfl, Nat.le_of_ble_eq_true rfl⟩ rfl rfl (cats_le _ (Nat.le_of_ble_eq_true rfl)) hl.1 dX3_stow_58 ⟨Nat.le_of_ble_eq_true rfl, Nat.le_of_ble_eq_true rfl⟩) hM (fun H locs hM => ?_)
      refine W_st (st' := [.int r_3.1]) rfl ?_
      refine lv_iconst (v := (3 : Int32)) hx hb dX3_stow_61 (by decide) ?_
      refine lv_icmp_ge (tgt := 69) hx hb dX3_stow_62 (by decide) (fun c_5 => ?_) (fun c_5 => ?_)
      · have h := br_T c_5 h
        exact gc_X3_stow_69 C hr hlk h17  _ _ _ _ _ _ _ _ hM (lv_sub hl [2, 3, 4, 0] rfl) h
      · have h := br_F c_5 h
        refine lv_iconst (v := (1 : Int32)) hx hb dX3_stow_65 (by decide) ?_
        refine lv_goto (tgt := 70) hx hb dX3_stow_66 (by decide) ?_
        exact gc_X3_stow_70 C hr hlk h17  _ _ _ _ _ _ _ _ _ hM (lv_sub hl [2, 3, 4, 0] rfl) h
def fc_X3_stow_29 (σ : cS) (x1 : Option Nat) (x2 : Int32) (x3 : Int32) : Option (Int32 × cS) :=
    fc_X3_stow_30 σ x1 x2 x3 (0 : Int32)
set_option maxHeartbeats 4000000 in
set_option maxRecDepth 100000 in
theorem gc_X3_stow_29 {p : Program} {l : Launch} {e : Env} {s : State} {m : MethodId} {args : Array Value} {below : List Frame} {meth : Method} {c : Code} {D : va_G} {ca : Nat → ClassId} {A : Nat → Prop} {σ0 : cS} {α : cAl} {o : Int32 × cS} (C : cC p s m args c cX3_stow 6 RX3 D ca A α) (hr : meth.sig.returnType = (some FieldType.boolean)) (hlk : meth.locks = false) (h17 : 0 < cn σ0 17) : ∀ (σ : cS) (x1 : Option Nat) (x2 : Int32) (x3 : Int32) (H : Heap) (locs : List Loc) (ls : Array Slot), cM D ca true A s.heap σ0 α σ α H locs → lv_has ls 6 [(0, cr α 3 (some 0)), (1, cr α 6 x1), (2, .int x2), (3, .int x3)] → fc_X3_stow_29 σ x1 x2 x3 = some o → W p l e rc_X3_stow s m args below meth c H locs 0 0 (MQ below (cQ false D ca true A α σ0 (fun _ => some (.int o.1)) o.2) args s 0 0 A) (F0 m 29 ls []) := by
  have hx := C.1
  have hb := C.2.1
  intro σ x1 x2 x3 H locs ls hM hl h
  unfold fc_X3_stow_29 at h
  refine lv_iconst (v := (0 : Int32)) hx hb dX3_stow_29 (by decide) ?_
  exact gc_X3_stow_30 C hr hlk h17  _ _ _ _ _ _ _ _ hM (lv_sub hl [0, 1, 2, 3] rfl) h
def fc_X3_stow (σ : cS) (x1 : Option Nat) (x2 : Int32) (x3 : Int32) : Option (Int32 × cS) :=
  (dr σ 6 x1).bind fun i_1 =>
  (dr σ 12 (cR σ 6 i_1 1)).bind fun i_2 =>
  if x2 < 0 ∨ cln σ 12 i_2 ≤ x2.toNatClampNeg then none else
  if (cI σ 12 i_2 x2.toNatClampNeg) = (100 : Int32) then
    if x2 < 0 ∨ 12 ≤ x2.toNatClampNeg then none else
    if (cI σ 14 1 x2.toNatClampNeg) = (98 : Int32) then
      fc_X3_stow_29 σ x1 x2 x3
    else
      fc_X3_stow_30 σ x1 x2 x3 (1 : Int32)
  else
    fc_X3_stow_29 σ x1 x2 x3
set_option maxHeartbeats 4000000 in
set_option maxRecDepth 100000 in
theorem cc_X3_stow (l : Launch) (D : va_G) (ca : Nat → ClassId) (A : Nat → Prop) (α : cAl) (σ : cS) (x1 : Option Nat) (x2 : Int32) (x3 : Int32) (o : Int32 × cS) (h : fc_X3_stow σ x1 x2 x3 = some o) : cMet false l yX3_stow cX3_stow 6 ((some FieldType.boolean)) rc_X3_stow 0 0 D ca true A α σ [cr α 3 (some 0), cr α 6 x1, .int x2, .int x3] (fun _ => some (.int o.1)) o.2 := by
  refine Met.ofW (cc := cX3_stow) (maxL := 6) (ret := (some FieldType.boolean)) (by decide) rfl ?_
  intro p e s m args below meth c s₁ B hml hv
  obtain ⟨rfl, hP, hK, hD0, hSh, hA, hG⟩ := hv
  have C : cC p s m _ c cX3_stow 6 RX3 D ca A α := ⟨B.exec, B.bytes, hml, findClass_of_methodNamed B.named, fun w hw => atoms_spec (ws := mWs yX3_stow cX3_stow 6 ((some FieldType.boolean))) B.pre w (List.mem_cons_of_mem _ hw), hK, hG⟩
  have hM : cM D ca true A s.heap σ α σ α s.heap [] := ⟨hP, hD0, hSh, va_S.rf, hA, cX.rf⟩
  have h17 : 0 < cn σ 17 := c_17 hM
  have hr := B.returns
  have hlk := B.notSynchronized
  have hx := C.1
  have hb := C.2.1
  have hl := lv_entry ([cr α 3 (some 0), cr α 6 x1, .int x2, .int x3]) (n := 6) (by simp [lg_r, lg_i, lg_l, lg_n])
  rw [lg_entry_eq]
  generalize (lg_sl ([cr α 3 (some 0), cr α 6 x1, .int x2, .int x3]) ++ List.replicate (6 - (lg_sl ([cr α 3 (some 0), cr α 6 x1, .int x2, .int x3])).length) Slot.unset).toArray = ls at hl ⊢
  have hl : lv_has ls 6 [(0, cr α 3 (some 0)), (1, cr α 6 x1), (2, .int x2), (3, .int x3)] := (lv_to hl (by simp only [la_r, la_i, la_l, la_n]))
  unfold fc_X3_stow at h
  refine c_aload_n (t := 6) (x := x1) hx hb dX3_stow_0 rfl (lv_at hl 1 rfl) ?_
  obtain ⟨i_1, hd_1, h⟩ := bd_of h
  refine c_getrt C hM (k := 6) (f := 1) (t := 12) hd_1 (by decide) fl_X3_25 dX3_stow_1 ?_
  refine lv_iload_n hx hb dX3_stow_4 rfl (lv_at hl 2 rfl) ?_
  obtain ⟨i_2, hd_2, h⟩ := bd_of h
  obtain ⟨c_1, h⟩ := ko_of h
  refine c_iald C hM hd_2 c_1 dX3_stow_5 ?_
  refine lv_bipush (v := (100 : Int32)) hx hb dX3_stow_6 (by decide) ?_
  refine lv_icmp_ne (tgt := 29) hx hb dX3_stow_8 (by decide) (fun c_2 => ?_) (fun c_2 => ?_)
  · have h := br_F c_2 h
    exact gc_X3_stow_29 C hr hlk h17  _ _ _ _ _ _ _ hM (lv_sub hl [0, 1, 2, 3] rfl) h
  · have h := br_T c_2 h
    refine c_aload_n (t := 3) (x := (some 0)) hx hb dX3_stow_11 rfl (lv_at hl 0 rfl) ?_
    refine c_getb C hM (k := 3) (f := 0) (j := 0) (t := 2) (hM.cst 3 0 rfl) (by decide) fl_X3_15 dX3_stow_12 ?_
    refine c_getb C hM (k := 2) (f := 10) (j := 1) (t := 14) (hM.cst 2 0 rfl) (by decide) fl_X3_51 dX3_stow_15 ?_
    refine lv_iload_n hx hb dX3_stow_18 rfl (lv_at hl 2 rfl) ?_
    obtain ⟨c_3, h⟩ := ko_of h
    refine c_cald C hM (hM.cst 14 1 rfl) (by rw [hM.ln 14 1 12 (by decide)]; exact c_3) dX3_stow_19 ?_
    refine lv_bipush (v := (98 : Int32)) hx hb dX3_stow_20 (by decide) ?_
    refine lv_icmp_eq (tgt := 29) hx hb dX3_stow_22 (by decide) (fun c_4 => ?_) (fun c_4 => ?_)
    · have h := br_T c_4 h
      exact gc_X3_stow_29 C hr hlk h17  _ _ _ _ _ _ _ hM (lv_sub hl [0, 1, 2, 3] rfl) h
    · have h := br_F c_4 h
      refine lv_iconst (v := (1 : Int32)) hx hb dX3_stow_25 (by decide) ?_
      refine lv_goto (tgt := 30) hx hb dX3_stow_26 (by decide) ?_
      exact gc_X3_stow_30 C hr hlk h17  _ _ _ _ _ _ _ _ hM (lv_sub hl [0, 1, 2, 3] rfl) h
/-! Lorewick$Rules.perform(LLorewick$State;LLorewick$Command;)Z -/
abbrev rc_X3_perform : Room := { frames := 4, cells := 0, slots := 0, locals := 91 }
def fc_X3_perform_68 (σ : cS) : Option (Int32 × cS) :=
    if (0 : Int32) &&& 1 = (0 : Int32) then some ((0 : Int32), σ) else none
set_option maxHeartbeats 4000000 in
set_option maxRecDepth 100000 in
theorem gc_X3_perform_68 {p : Program} {l : Launch} {e : Env} {s : State} {m : MethodId} {args : Array Value} {below : List Frame} {meth : Method} {c : Code} {D : va_G} {ca : Nat → ClassId} {A : Nat → Prop} {σ0 : cS} {α : cAl} {o : Int32 × cS} (C : cC p s m args c cX3_perform 6 RX3 D ca A α) (hr : meth.sig.returnType = (some FieldType.boolean)) (hlk : meth.locks = false) (h17 : 0 < cn σ0 17) : ∀ (σ : cS) (H : Heap) (locs : List Loc) (ls : Array Slot), cM D ca true A s.heap σ0 α σ α H locs → lv_has ls 6 [] → fc_X3_perform_68 σ = some o → W p l e rc_X3_perform s m args below meth c H locs 0 0 (MQ below (cQ false D ca true A α σ0 (fun _ => some (.int o.1)) o.2) args s 0 0 A) (F0 m 68 ls []) := by
  have hx := C.1
  have hb := C.2.1
  intro σ H locs ls hM hl h
  unfold fc_X3_perform_68 at h
  refine lv_iconst (v := (0 : Int32)) hx hb dX3_perform_68 (by decide) ?_
  exact c_rz C hM (fun _ => rfl) hr hlk dX3_perform_69 h
def fc_X3_perform_140 (σ : cS) (s0 : Int32) : Option (Int32 × cS) :=
    if s0 &&& 1 = s0 then some (s0, σ) else none
set_option maxHeartbeats 4000000 in
set_option maxRecDepth 100000 in
theorem gc_X3_perform_140 {p : Program} {l : Launch} {e : Env} {s : State} {m : MethodId} {args : Array Value} {below : List Frame} {meth : Method} {c : Code} {D : va_G} {ca : Nat → ClassId} {A : Nat → Prop} {σ0 : cS} {α : cAl} {o : Int32 × cS} (C : cC p s m args c cX3_perform 6 RX3 D ca A α) (hr : meth.sig.returnType = (some FieldType.boolean)) (hlk : meth.locks = false) (h17 : 0 < cn σ0 17) : ∀ (σ : cS) (s0 : Int32) (H : Heap) (locs : List Loc) (ls : Array Slot), cM D ca true A s.heap σ0 α σ α H locs → lv_has ls 6 [] → fc_X3_perform_140 σ s0 = some o → W p l e rc_X3_perform s m args below meth c H locs 0 0 (MQ below (cQ false D ca true A α σ0 (fun _ => some (.int o.1)) o.2) args s 0 0 A) (F0 m 140 ls [.int s0]) := by
  have hx := C.1
  have hb := C.2.1
  intro σ s0 H locs ls hM hl h
  unfold fc_X3_perform_140 at h
  exact c_rz C hM (fun _ => rfl) hr hlk dX3_perform_140 h
def fc_X3_perform_139 (σ : cS) : Option (Int32 × cS) :=
    fc_X3_perform_140 σ (0 : Int32)
set_option maxHeartbeats 4000000 in
set_option maxRecDepth 100000 in
theorem gc_X3_perform_139 {p : Program} {l : Launch} {e : Env} {s : State} {m : MethodId} {args : Array Value} {below : List Frame} {meth : Method} {c : Code} {D : va_G} {ca : Nat → ClassId} {A : Nat → Prop} {σ0 : cS} {α : cAl} {o : Int32 × cS} (C : cC p s m args c cX3_perform 6 RX3 D ca A α) (hr : meth.sig.returnType = (some FieldType.boolean)) (hlk : meth.locks = false) (h17 : 0 < cn σ0 17) : ∀ (σ : cS) (H : Heap) (locs : List Loc) (ls : Array Slot), cM D ca true A s.heap σ0 α σ α H locs → lv_has ls 6 [] → fc_X3_perform_139 σ = some o → W p l e rc_X3_perform s m args below meth c H locs 0 0 (MQ below (cQ false D ca true A α σ0 (fun _ => some (.int o.1)) o.2) args s 0 0 A) (F0 m 139 ls []) := by
  have hx := C.1
  have hb := C.2.1
  intro σ H locs ls hM hl h
  unfold fc_X3_perform_139 at h
  refine lv_iconst (v := (0 : Int32)) hx hb dX3_perform_139 (by decide) ?_
  exact gc_X3_perform_140 C hr hlk h17  _ _ _ _ _ hM (lv_sub hl [] rfl) h
def fc_X3_perform (σ : cS) (x1 : Option Nat) (x2 : Option Nat) : Option (Int32 × cS) :=
  (dr σ 8 x2).bind fun i_1 =>
  if ¬ (lvv (cR σ 8 i_1 0) = true) then none else
  if (cR σ 8 i_1 0) = (some 1) then
    (fc_X3_move σ x1 (cI σ 8 i_1 1)).bind fun r_13 =>
    if r_13.1 &&& 1 = r_13.1 then some (r_13.1, r_13.2) else none
  else
    (dv (cR σ 8 i_1 0)).bind fun i_2 =>
    if (vQ.getD i_2 0) = 0 then
      if (1 : Int32) &&& 1 = (1 : Int32) then some ((1 : Int32), σ) else none
    else
      (fc_X3_hasLight σ x1).bind fun r_3 =>
      (dr r_3.2 8 x2).bind fun i_4 =>
      (fc_X10_thingOf r_3.2 (cI r_3.2 8 i_4 1)).bind fun r_5 =>
      if r_5.1 = (-1 : Int32) then
        fc_X3_perform_68 r_5.2
      else
        (fc_X3_isInReach r_5.2 x1 r_5.1 r_3.1).bind fun r_6 =>
        if r_6.1 = 0 then
          fc_X3_perform_68 r_6.2
        else
          (dr r_6.2 8 x2).bind fun i_7 =>
          (dv (cR r_6.2 8 i_7 0)).bind fun i_8 =>
          if (vQ.getD i_8 0) = (1 : Int32) then
            (fc_X3_handle r_6.2 x1 (cR r_6.2 8 i_7 0) r_5.1).bind fun r_12 =>
            if r_12.1 &&& 1 = r_12.1 then some (r_12.1, r_12.2) else none
          else
            (fc_X10_thingOf r_6.2 (cI r_6.2 8 i_7 2)).bind fun r_9 =>
            if r_9.1 = (-1 : Int32) then
              fc_X3_perform_139 r_9.2
            else
              (fc_X3_isInReach r_9.2 x1 r_9.1 r_3.1).bind fun r_10 =>
              if r_10.1 = 0 then
                fc_X3_perform_139 r_10.2
              else
                (fc_X3_stow r_10.2 x1 r_5.1 r_9.1).bind fun r_11 =>
                if r_11.1 = 0 then
                  fc_X3_perform_139 r_11.2
                else
                  fc_X3_perform_140 r_11.2 (1 : Int32)
set_option maxHeartbeats 4000000 in
set_option maxRecDepth 100000 in
theorem cc_X3_perform (l : Launch) (D : va_G) (ca : Nat → ClassId) (A : Nat → Prop) (α : cAl) (σ : cS) (x1 : Option Nat) (x2 : Option Nat) (o : Int32 × cS) (h : fc_X3_perform σ x1 x2 = some o) : cMet false l yX3_perform cX3_perform 6 ((some FieldType.boolean)) rc_X3_perform 0 0 D ca true A α σ [cr α 3 (some 0), cr α 6 x1, cr α 8 x2] (fun _ => some (.int o.1)) o.2 := by
  refine Met.ofW (cc := cX3_perform) (maxL := 6) (ret := (some FieldType.boolean)) (by decide) rfl ?_
  intro p e s m args below meth c s₁ B hml hv
  obtain ⟨rfl, hP, hK, hD0, hSh, hA, hG⟩ := hv
  have C : cC p s m _ c cX3_perform 6 RX3 D ca A α := ⟨B.exec, B.bytes, hml, findClass_of_methodNamed B.named, fun w hw => atoms_spec (ws := mWs yX3_perform cX3_perform 6 ((some FieldType.boolean))) B.pre w (List.mem_cons_of_mem _ hw), hK, hG⟩
  have hM : cM D ca true A s.heap σ α σ α s.heap [] := ⟨hP, hD0, hSh, va_S.rf, hA, cX.rf⟩
  have h17 : 0 < cn σ 17 := c_17 hM
  have hr := B.returns
  have hlk := B.notSynchronized
  have hx := C.1
  have hb := C.2.1
  have hl := lv_entry ([cr α 3 (some 0), cr α 6 x1, cr α 8 x2]) (n := 6) (by simp [lg_r, lg_i, lg_l, lg_n])
  rw [lg_entry_eq]
  generalize (lg_sl ([cr α 3 (some 0), cr α 6 x1, cr α 8 x2]) ++ List.replicate (6 - (lg_sl ([cr α 3 (some 0), cr α 6 x1, cr α 8 x2])).length) Slot.unset).toArray = ls at hl ⊢
  have hl : lv_has ls 6 [(0, cr α 3 (some 0)), (1, cr α 6 x1), (2, cr α 8 x2)] := (lv_to hl (by simp only [la_r, la_i, la_l, la_n]))
  unfold fc_X3_perform at h
  refine c_aload_n (t := 8) (x := x2) hx hb dX3_perform_0 rfl (lv_at hl 2 rfl) ?_
  obtain ⟨i_1, hd_1, h⟩ := bd_of h
  refine c_getrt C hM (k := 8) (f := 0) (t := 18) hd_1 (by decide) fl_X3_116 dX3_perform_1 ?_
  refine c_getV C hM 1 (nm := "GO") (by decide) fl_X3_122 dX3_perform_4 ?_
  obtain ⟨c_1, h⟩ := ko_of h
  refine c_vcmp_ne (tgt := 20) C hM (Classical.not_not.mp c_1) rfl dX3_perform_7 (by decide) (fun c_2 => ?_) (fun c_2 => ?_)
  · have h := br_F c_2 h
    refine c_aload_n (t := 8) (x := x2) hx hb dX3_perform_20 rfl (lv_at hl 2 rfl) ?_
    refine c_getrt C hM (k := 8) (f := 0) (t := 18) hd_1 (by decide) fl_X3_116 dX3_perform_21 ?_
    obtain ⟨i_2, hv_2, h⟩ := bd_of h
    refine c_vnounsd C hM hv_2 fl_X3_133 dX3_perform_24 ?_
    refine lv_if_ne (tgt := 32) hx hb dX3_perform_27 (by decide) (fun c_3 => ?_) (fun c_3 => ?_)
    · have h := br_F c_3 h
      refine c_aload_n (t := 3) (x := (some 0)) hx hb dX3_perform_32 rfl (lv_at hl 0 rfl) ?_
      refine c_aload_n (t := 6) (x := x1) hx hb dX3_perform_33 rfl (lv_at hl 1 rfl) ?_
      obtain ⟨r_3, hr_3, h⟩ := bd_of h
      refine c_go0 (c_rV (As := [cr α 6 x1]) (rest := []) C hM h17 (hM.cst 3 0 rfl) (by decide) (cc_X3_hasLight l D ca A α σ x1 _ hr_3) cw_X3_62 ⟨rfl, rfl⟩ ⟨Nat.le_of_ble_eq_true rfl, Nat.le_of_ble_eq_true rfl⟩ rfl rfl (cats_le _ (Nat.le_of_ble_eq_true rfl)) hl.1 dX3_perform_34 ⟨Nat.le_of_ble_eq_true rfl, Nat.le_of_ble_eq_true rfl⟩) hM (fun H locs hM => ?_)
      refine W_st (st' := [.int r_3.1]) rfl ?_
      refine lv_istore_n (lv' := [(3, .int r_3.1), (0, cr α 3 (some 0)), (1, cr α 6 x1), (2, cr α 8 x2)]) hx hb dX3_perform_37 rfl hl (by decide) (by first | rfl | (simp only [List.filter, cr_cat]; rfl)) (fun ls hl => ?_)
      refine c_aload_n (t := 3) (x := (some 0)) hx hb dX3_perform_38 rfl (lv_at hl 1 rfl) ?_
      refine c_getb C hM (k := 3) (f := 0) (j := 0) (t := 2) (hM.cst 3 0 rfl) (by decide) fl_X3_15 dX3_perform_39 ?_
      refine c_aload_n (t := 8) (x := x2) hx hb dX3_perform_42 rfl (lv_at hl 3 rfl) ?_
      obtain ⟨i_4, hd_4, h⟩ := bd_of h
      refine c_geti C hM (k := 8) (f := 1) hd_4 rfl fl_X3_127 dX3_perform_43 ?_
      obtain ⟨r_5, hr_5, h⟩ := bd_of h
      refine c_go0 (c_rV (As := [.int (cI r_3.2 8 i_4 1)]) (rest := []) C hM h17 (hM.cst 2 0 rfl) (by decide) (cc_X10_thingOf l D ca A α r_3.2 (cI r_3.2 8 i_4 1) _ hr_5) cw_X3_135 ⟨rfl, rfl⟩ ⟨Nat.le_of_ble_eq_true rfl, Nat.le_of_ble_eq_true rfl⟩ rfl rfl (cats_le _ (Nat.le_of_ble_eq_true rfl)) hl.1 dX3_perform_46 ⟨Nat.le_of_ble_eq_true rfl, Nat.le_of_ble_eq_true rfl⟩) hM (fun H locs hM => ?_)
      refine W_st (st' := [.int r_5.1]) rfl ?_
      refine lv_istore (lv' := [(4, .int r_5.1), (3, .int r_3.1), (0, cr α 3 (some 0)), (1, cr α 6 x1), (2, cr α 8 x2)]) hx hb dX3_perform_49 hl (by decide) rfl (fun ls hl => ?_)
      refine lv_iload hx hb dX3_perform_51 (lv_at hl 0 rfl) ?_
      refine lv_iconst (v := (-1 : Int32)) hx hb dX3_perform_53 (by decide) ?_
      refine lv_icmp_eq (tgt := 68) hx hb dX3_perform_54 (by decide) (fun c_4 => ?_) (fun c_4 => ?_)
      · have h := br_T c_4 h
        exact gc_X3_perform_68 C hr hlk h17  _ _ _ _ hM (lv_sub hl [] rfl) h
      · have h := br_F c_4 h
        refine c_aload_n (t := 3) (x := (some 0)) hx hb dX3_perform_57 rfl (lv_at hl 2 rfl) ?_
        refine c_aload_n (t := 6) (x := x1) hx hb dX3_perform_58 rfl (lv_at hl 3 rfl) ?_
        refine lv_iload hx hb dX3_perform_59 (lv_at hl 0 rfl) ?_
        refine lv_iload_n hx hb dX3_perform_61 rfl (lv_at hl 1 rfl) ?_
        obtain ⟨r_6, hr_6, h⟩ := bd_of h
        refine c_go0 (c_rV (As := [cr α 6 x1, .int r_5.1, .int r_3.1]) (rest := []) C hM h17 (hM.cst 3 0 rfl) (by decide) (cc_X3_isInReach l D ca A α r_5.2 x1 r_5.1 r_3.1 _ hr_6) cw_X3_70 ⟨rfl, rfl⟩ ⟨Nat.le_of_ble_eq_true rfl, Nat.le_of_ble_eq_true rfl⟩ rfl rfl (cats_le _ (Nat.le_of_ble_eq_true rfl)) hl.1 dX3_perform_62 ⟨Nat.le_of_ble_eq_true rfl, Nat.le_of_ble_eq_true rfl⟩) hM (fun H locs hM => ?_)
        refine W_st (st' := [.int r_6.1]) rfl ?_
        refine lv_if_ne (tgt := 70) hx hb dX3_perform_65 (by decide) (fun c_5 => ?_) (fun c_5 => ?_)
        · have h := br_F c_5 h
          refine c_aload_n (t := 8) (x := x2) hx hb dX3_perform_70 rfl (lv_at hl 4 rfl) ?_
          obtain ⟨i_7, hd_7, h⟩ := bd_of h
          refine c_getrt C hM (k := 8) (f := 0) (t := 18) hd_7 (by decide) fl_X3_116 dX3_perform_71 ?_
          obtain ⟨i_8, hv_8, h⟩ := bd_of h
          refine c_vnounsd C hM hv_8 fl_X3_133 dX3_perform_74 ?_
          refine lv_iconst (v := (1 : Int32)) hx hb dX3_perform_77 (by decide) ?_
          refine lv_icmp_ne (tgt := 93) hx hb dX3_perform_78 (by decide) (fun c_6 => ?_) (fun c_6 => ?_)
          · have h := br_F c_6 h
            refine c_aload_n (t := 3) (x := (some 0)) hx hb dX3_perform_93 rfl (lv_at hl 2 rfl) ?_
            refine c_getb C hM (k := 3) (f := 0) (j := 0) (t := 2) (hM.cst 3 0 rfl) (by decide) fl_X3_15 dX3_perform_94 ?_
            refine c_aload_n (t := 8) (x := x2) hx hb dX3_perform_97 rfl (lv_at hl 4 rfl) ?_
            refine c_geti C hM (k := 8) (f := 2) hd_7 rfl fl_X3_143 dX3_perform_98 ?_
            obtain ⟨r_9, hr_9, h⟩ := bd_of h
            refine c_go0 (c_rV (As := [.int (cI r_6.2 8 i_7 2)]) (rest := []) C hM h17 (hM.cst 2 0 rfl) (by decide) (cc_X10_thingOf l D ca A α r_6.2 (cI r_6.2 8 i_7 2) _ hr_9) cw_X3_135 ⟨rfl, rfl⟩ ⟨Nat.le_of_ble_eq_true rfl, Nat.le_of_ble_eq_true rfl⟩ rfl rfl (cats_le _ (Nat.le_of_ble_eq_true rfl)) hl.1 dX3_perform_101 ⟨Nat.le_of_ble_eq_true rfl, Nat.le_of_ble_eq_true rfl⟩) hM (fun H locs hM => ?_)
            refine W_st (st' := [.int r_9.1]) rfl ?_
            refine lv_istore (lv' := [(5, .int r_9.1), (4, .int r_5.1), (3, .int r_3.1), (0, cr α 3 (some 0)), (1, cr α 6 x1), (2, cr α 8 x2)]) hx hb dX3_perform_104 hl (by decide) rfl (fun ls hl => ?_)
            refine lv_iload hx hb dX3_perform_106 (lv_at hl 0 rfl) ?_
            refine lv_iconst (v := (-1 : Int32)) hx hb dX3_perform_108 (by decide) ?_
            refine lv_icmp_eq (tgt := 139) hx hb dX3_perform_109 (by decide) (fun c_7 => ?_) (fun c_7 => ?_)
            · have h := br_T c_7 h
              exact gc_X3_perform_139 C hr hlk h17  _ _ _ _ hM (lv_sub hl [] rfl) h
            · have h := br_F c_7 h
              refine c_aload_n (t := 3) (x := (some 0)) hx hb dX3_perform_112 rfl (lv_at hl 3 rfl) ?_
              refine c_aload_n (t := 6) (x := x1) hx hb dX3_perform_113 rfl (lv_at hl 4 rfl) ?_
              refine lv_iload hx hb dX3_perform_114 (lv_at hl 0 rfl) ?_
              refine lv_iload_n hx hb dX3_perform_116 rfl (lv_at hl 2 rfl) ?_
              obtain ⟨r_10, hr_10, h⟩ := bd_of h
              refine c_go0 (c_rV (As := [cr α 6 x1, .int r_9.1, .int r_3.1]) (rest := []) C hM h17 (hM.cst 3 0 rfl) (by decide) (cc_X3_isInReach l D ca A α r_9.2 x1 r_9.1 r_3.1 _ hr_10) cw_X3_70 ⟨rfl, rfl⟩ ⟨Nat.le_of_ble_eq_true rfl, Nat.le_of_ble_eq_true rfl⟩ rfl rfl (cats_le _ (Nat.le_of_ble_eq_true rfl)) hl.1 dX3_perform_117 ⟨Nat.le_of_ble_eq_true rfl, Nat.le_of_ble_eq_true rfl⟩) hM (fun H locs hM => ?_)
              refine W_st (st' := [.int r_10.1]) rfl ?_
              refine lv_if_eq (tgt := 139) hx hb dX3_perform_120 (by decide) (fun c_8 => ?_) (fun c_8 => ?_)
              · have h := br_T c_8 h
                exact gc_X3_perform_139 C hr hlk h17  _ _ _ _ hM (lv_sub hl [] rfl) h
              · have h := br_F c_8 h
                refine c_aload_n (t := 3) (x := (some 0)) hx hb dX3_perform_123 rfl (lv_at hl 3 rfl) ?_
                refine c_aload_n (t := 6) (x := x1) hx hb dX3_perform_124 rfl (lv_at hl 4 rfl) ?_
                refine lv_iload hx hb dX3_perform_125 (lv_at hl 1 rfl) ?_
                refine lv_iload hx hb dX3_perform_127 (lv_at hl 0 rfl) ?_
                obtain ⟨r_11, hr_11, h⟩ := bd_of h
                refine c_go0 (c_rV (As := [cr α 6 x1, .int r_5.1, .int r_9.1]) (rest := []) C hM h17 (hM.cst 3 0 rfl) (by decide) (cc_X3_stow l D ca A α r_10.2 x1 r_5.1 r_9.1 _ hr_11) cw_X3_146 ⟨rfl, rfl⟩ ⟨Nat.le_of_ble_eq_true rfl, Nat.le_of_ble_eq_true rfl⟩ rfl rfl (cats_le _ (Nat.le_of_ble_eq_true rfl)) hl.1 dX3_perform_129 ⟨Nat.le_of_ble_eq_true rfl, Nat.le_of_ble_eq_true rfl⟩) hM (fun H locs hM => ?_)
                refine W_st (st' := [.int r_11.1]) rfl ?_
                refine lv_if_eq (tgt := 139) hx hb dX3_perform_132 (by decide) (fun c_9 => ?_) (fun c_9 => ?_)
                · have h := br_T c_9 h
                  exact gc_X3_perform_139 C hr hlk h17  _ _ _ _ hM (lv_sub hl [] rfl) h
                · have h := br_F c_9 h
                  refine lv_iconst (v := (1 : Int32)) hx hb dX3_perform_135 (by decide) ?_
                  refine lv_goto (tgt := 140) hx hb dX3_perform_136 (by decide) ?_
                  exact gc_X3_perform_140 C hr hlk h17  _ _ _ _ _ hM (lv_sub hl [] rfl) h
          · have h := br_T c_6 h
            refine c_aload_n (t := 3) (x := (some 0)) hx hb dX3_perform_81 rfl (lv_at hl 2 rfl) ?_
            refine c_aload_n (t := 6) (x := x1) hx hb dX3_perform_82 rfl (lv_at hl 3 rfl) ?_
            refine c_aload_n (t := 8) (x := x2) hx hb dX3_perform_83 rfl (lv_at hl 4 rfl) ?_
            refine c_getrt C hM (k := 8) (f := 0) (t := 18) hd_7 (by decide) fl_X3_116 dX3_perform_84 ?_
            refine lv_iload hx hb dX3_perform_87 (lv_at hl 0 rfl) ?_
            obtain ⟨r_12, hr_12, h⟩ := bd_of h
            refine c_go0 (c_rV (As := [cr α 6 x1, cr α 18 (cR r_6.2 8 i_7 0), .int r_5.1]) (rest := []) C hM h17 (hM.cst 3 0 rfl) (by decide) (cc_X3_handle l D ca A α r_6.2 x1 (cR r_6.2 8 i_7 0) r_5.1 _ hr_12) cw_X3_139 ⟨rfl, rfl⟩ ⟨Nat.le_of_ble_eq_true rfl, Nat.le_of_ble_eq_true rfl⟩ rfl rfl (cats_le _ (Nat.le_of_ble_eq_true rfl)) hl.1 dX3_perform_89 ⟨Nat.le_of_ble_eq_true rfl, Nat.le_of_ble_eq_true rfl⟩) hM (fun H locs hM => ?_)
            refine W_st (st' := [.int r_12.1]) rfl ?_
            exact c_rz C hM (fun _ => rfl) hr hlk dX3_perform_92 h
        · have h := br_T c_5 h
          exact gc_X3_perform_68 C hr hlk h17  _ _ _ _ hM (lv_sub hl [] rfl) h
    · have h := br_T c_3 h
      refine lv_iconst (v := (1 : Int32)) hx hb dX3_perform_30 (by decide) ?_
      exact c_rz C hM (fun _ => rfl) hr hlk dX3_perform_31 h
  · have h := br_T c_2 h
    refine c_aload_n (t := 3) (x := (some 0)) hx hb dX3_perform_10 rfl (lv_at hl 0 rfl) ?_
    refine c_aload_n (t := 6) (x := x1) hx hb dX3_perform_11 rfl (lv_at hl 1 rfl) ?_
    refine c_aload_n (t := 8) (x := x2) hx hb dX3_perform_12 rfl (lv_at hl 2 rfl) ?_
    refine c_geti C hM (k := 8) (f := 1) hd_1 rfl fl_X3_127 dX3_perform_13 ?_
    obtain ⟨r_13, hr_13, h⟩ := bd_of h
    refine c_go0 (c_rV (As := [cr α 6 x1, .int (cI σ 8 i_1 1)]) (rest := []) C hM h17 (hM.cst 3 0 rfl) (by decide) (cc_X3_move l D ca A α σ x1 (cI σ 8 i_1 1) _ hr_13) cw_X3_130 ⟨rfl, rfl⟩ ⟨Nat.le_of_ble_eq_true rfl, Nat.le_of_ble_eq_true rfl⟩ rfl rfl (cats_le _ (Nat.le_of_ble_eq_true rfl)) hl.1 dX3_perform_16 ⟨Nat.le_of_ble_eq_true rfl, Nat.le_of_ble_eq_true rfl⟩) hM (fun H locs hM => ?_)
    refine W_st (st' := [.int r_13.1]) rfl ?_
    exact c_rz C hM (fun _ => rfl) hr hlk dX3_perform_19 h
/-! Lorewick$Rules.pickUpAsIn(LLorewick$State;LLorewick$State;)I -/
abbrev rc_X3_pickUpAsIn : Room := { frames := 3, cells := 0, slots := 0, locals := 69 }
def fc_X3_pickUpAsIn_80 (k_12 : cS → Option Nat → Option Nat → Int32 → Int32 → Int32 → Option (Int32 × cS)) (σ : cS) (x1 : Option Nat) (x2 : Option Nat) (x3 : Int32) (x4 : Int32) (x5 : Int32) : Option (Int32 × cS) :=
    k_12 σ x1 x2 x3 x4 (x5 + (1 : Int32))
set_option maxHeartbeats 4000000 in
set_option maxRecDepth 100000 in
theorem gc_X3_pickUpAsIn_80 {p : Program} {l : Launch} {e : Env} {s : State} {m : MethodId} {args : Array Value} {below : List Frame} {meth : Method} {c : Code} {D : va_G} {ca : Nat → ClassId} {A : Nat → Prop} {σ0 : cS} {α : cAl} {o : Int32 × cS} {k_12 : cS → Option Nat → Option Nat → Int32 → Int32 → Int32 → Option (Int32 × cS)} (C : cC p s m args c cX3_pickUpAsIn 7 RX3 D ca A α) (hr : meth.sig.returnType = (some FieldType.int)) (hlk : meth.locks = false) (h17 : 0 < cn σ0 17) (hk_12 : ∀ (σ : cS) (x1 : Option Nat) (x2 : Option Nat) (x3 : Int32) (x4 : Int32) (x5 : Int32) (H : Heap) (locs : List Loc) (ls : Array Slot), cM D ca true A s.heap σ0 α σ α H locs → lv_has ls 7 [(0, cr α 3 (some 0)), (1, cr α 6 x1), (2, cr α 6 x2), (3, .int x3), (4, .int x4), (5, .int x5)] → k_12 σ x1 x2 x3 x4 x5 = some o → W p l e rc_X3_pickUpAsIn s m args below meth c H locs 0 0 (MQ below (cQ false D ca true A α σ0 (fun _ => some (.int o.1)) o.2) args s 0 0 A) (F0 m 12 ls [])) : ∀ (σ : cS) (x1 : Option Nat) (x2 : Option Nat) (x3 : Int32) (x4 : Int32) (x5 : Int32) (H : Heap) (locs : List Loc) (ls : Array Slot), cM D ca true A s.heap σ0 α σ α H locs → lv_has ls 7 [(0, cr α 3 (some 0)), (1, cr α 6 x1), (2, cr α 6 x2), (3, .int x3), (4, .int x4), (5, .int x5)] → fc_X3_pickUpAsIn_80 k_12 σ x1 x2 x3 x4 x5 = some o → W p l e rc_X3_pickUpAsIn s m args below meth c H locs 0 0 (MQ below (cQ false D ca true A α σ0 (fun _ => some (.int o.1)) o.2) args s 0 0 A) (F0 m 80 ls []) := by
  have hx := C.1
  have hb := C.2.1
  intro σ x1 x2 x3 x4 x5 H locs ls hM hl h
  unfold fc_X3_pickUpAsIn_80 at h
  refine lv_iinc (v := (x5 + (1 : Int32))) (lv' := [(5, .int (x5 + (1 : Int32))), (0, cr α 3 (some 0)), (1, cr α 6 x1), (2, cr α 6 x2), (3, .int x3), (4, .int x4)]) hx hb dX3_pickUpAsIn_80 hl (k := 5) rfl rfl (by decide) rfl (fun ls hl => ?_)
  refine lv_goto (tgt := 12) hx hb dX3_pickUpAsIn_83 (by decide) ?_
  exact hk_12 _ _ _ _ _ _ _ _ _ hM (lv_sub hl [1, 2, 3, 4, 5, 0] rfl) h
def fc_X3_pickUpAsIn_60 (k_12 : cS → Option Nat → Option Nat → Int32 → Int32 → Int32 → Option (Int32 × cS)) (σ : cS) (x1 : Option Nat) (x2 : Option Nat) (x3 : Int32) (x4 : Int32) (x5 : Int32) (s0 : Int32) : Option (Int32 × cS) :=
    if s0 = 0 then
      fc_X3_pickUpAsIn_80 k_12 σ x1 x2 x3 x4 x5
    else
      (fc_X3_pickUp σ x1 x5).bind fun r_1 =>
      if r_1.1 = 0 then
        fc_X3_pickUpAsIn_80 k_12 r_1.2 x1 x2 x3 x4 x5
      else
        fc_X3_pickUpAsIn_80 k_12 r_1.2 x1 x2 (x3 + (1 : Int32)) x4 x5
set_option maxHeartbeats 4000000 in
set_option maxRecDepth 100000 in
theorem gc_X3_pickUpAsIn_60 {p : Program} {l : Launch} {e : Env} {s : State} {m : MethodId} {args : Array Value} {below : List Frame} {meth : Method} {c : Code} {D : va_G} {ca : Nat → ClassId} {A : Nat → Prop} {σ0 : cS} {α : cAl} {o : Int32 × cS} {k_12 : cS → Option Nat → Option Nat → Int32 → Int32 → Int32 → Option (Int32 × cS)} (C : cC p s m args c cX3_pickUpAsIn 7 RX3 D ca A α) (hr : meth.sig.returnType = (some FieldType.int)) (hlk : meth.locks = false) (h17 : 0 < cn σ0 17) (hk_12 : ∀ (σ : cS) (x1 : Option Nat) (x2 : Option Nat) (x3 : Int32) (x4 : Int32) (x5 : Int32) (H : Heap) (locs : List Loc) (ls : Array Slot), cM D ca true A s.heap σ0 α σ α H locs → lv_has ls 7 [(0, cr α 3 (some 0)), (1, cr α 6 x1), (2, cr α 6 x2), (3, .int x3), (4, .int x4), (5, .int x5)] → k_12 σ x1 x2 x3 x4 x5 = some o → W p l e rc_X3_pickUpAsIn s m args below meth c H locs 0 0 (MQ below (cQ false D ca true A α σ0 (fun _ => some (.int o.1)) o.2) args s 0 0 A) (F0 m 12 ls [])) : ∀ (σ : cS) (x1 : Option Nat) (x2 : Option Nat) (x3 : Int32) (x4 : Int32) (x5 : Int32) (s0 : Int32) (H : Heap) (locs : List Loc) (ls : Array Slot), cM D ca true A s.heap σ0 α σ α H locs → lv_has ls 7 [(0, cr α 3 (some 0)), (1, cr α 6 x1), (2, cr α 6 x2), (3, .int x3), (4, .int x4), (5, .int x5)] → fc_X3_pickUpAsIn_60 k_12 σ x1 x2 x3 x4 x5 s0 = some o → W p l e rc_X3_pickUpAsIn s m args below meth c H locs 0 0 (MQ below (cQ false D ca true A α σ0 (fun _ => some (.int o.1)) o.2) args s 0 0 A) (F0 m 60 ls [.int s0]) := by
  have hx := C.1
  have hb := C.2.1
  intro σ x1 x2 x3 x4 x5 s0 H locs ls hM hl h
  unfold fc_X3_pickUpAsIn_60 at h
  refine lv_istore (lv' := [(6, .int s0), (0, cr α 3 (some 0)), (1, cr α 6 x1), (2, cr α 6 x2), (3, .int x3), (4, .int x4), (5, .int x5)]) hx hb dX3_pickUpAsIn_60 hl (by decide) rfl (fun ls hl => ?_)
  refine lv_iload hx hb dX3_pickUpAsIn_62 (lv_at hl 0 rfl) ?_
  refine lv_if_eq (tgt := 80) hx hb dX3_pickUpAsIn_64 (by decide) (fun c_1 => ?_) (fun c_1 => ?_)
  · have h := br_T c_1 h
    exact gc_X3_pickUpAsIn_80 C hr hlk h17 hk_12 _ _ _ _ _ _ _ _ _ hM (lv_sub hl [1, 2, 3, 4, 5, 6] rfl) h
  · have h := br_F c_1 h
    refine c_aload_n (t := 3) (x := (some 0)) hx hb dX3_pickUpAsIn_67 rfl (lv_at hl 1 rfl) ?_
    refine c_aload_n (t := 6) (x := x1) hx hb dX3_pickUpAsIn_68 rfl (lv_at hl 2 rfl) ?_
    refine lv_iload hx hb dX3_pickUpAsIn_69 (lv_at hl 6 rfl) ?_
    obtain ⟨r_1, hr_1, h⟩ := bd_of h
    refine c_go0 (c_rV (As := [cr α 6 x1, .int x5]) (rest := []) C hM h17 (hM.cst 3 0 rfl) (by decide) (cc_X3_pickUp l D ca A α σ x1 x5 _ hr_1) cw_X3_159 ⟨rfl, rfl⟩ ⟨Nat.le_of_ble_eq_true rfl, Nat.le_of_ble_eq_true rfl⟩ rfl rfl (cats_le _ (Nat.le_of_ble_eq_true rfl)) hl.1 dX3_pickUpAsIn_71 ⟨Nat.le_of_ble_eq_true rfl, Nat.le_of_ble_eq_true rfl⟩) hM (fun H locs hM => ?_)
    refine W_st (st' := [.int r_1.1]) rfl ?_
    refine lv_if_eq (tgt := 80) hx hb dX3_pickUpAsIn_74 (by decide) (fun c_2 => ?_) (fun c_2 => ?_)
    · have h := br_T c_2 h
      exact gc_X3_pickUpAsIn_80 C hr hlk h17 hk_12 _ _ _ _ _ _ _ _ _ hM (lv_sub hl [1, 2, 3, 4, 5, 6] rfl) h
    · have h := br_F c_2 h
      refine lv_iinc (v := (x3 + (1 : Int32))) (lv' := [(3, .int (x3 + (1 : Int32))), (6, .int s0), (0, cr α 3 (some 0)), (1, cr α 6 x1), (2, cr α 6 x2), (4, .int x4), (5, .int x5)]) hx hb dX3_pickUpAsIn_77 hl (k := 4) rfl rfl (by decide) (by first | rfl | (simp only [List.filter, cr_cat]; rfl)) (fun ls hl => ?_)
      exact gc_X3_pickUpAsIn_80 C hr hlk h17 hk_12 _ _ _ _ _ _ _ _ _ hM (lv_sub hl [2, 3, 4, 0, 5, 6] rfl) h
def fc_X3_pickUpAsIn_59 (k_12 : cS → Option Nat → Option Nat → Int32 → Int32 → Int32 → Option (Int32 × cS)) (σ : cS) (x1 : Option Nat) (x2 : Option Nat) (x3 : Int32) (x4 : Int32) (x5 : Int32) : Option (Int32 × cS) :=
    fc_X3_pickUpAsIn_60 k_12 σ x1 x2 x3 x4 x5 (0 : Int32)
set_option maxHeartbeats 4000000 in
set_option maxRecDepth 100000 in
theorem gc_X3_pickUpAsIn_59 {p : Program} {l : Launch} {e : Env} {s : State} {m : MethodId} {args : Array Value} {below : List Frame} {meth : Method} {c : Code} {D : va_G} {ca : Nat → ClassId} {A : Nat → Prop} {σ0 : cS} {α : cAl} {o : Int32 × cS} {k_12 : cS → Option Nat → Option Nat → Int32 → Int32 → Int32 → Option (Int32 × cS)} (C : cC p s m args c cX3_pickUpAsIn 7 RX3 D ca A α) (hr : meth.sig.returnType = (some FieldType.int)) (hlk : meth.locks = false) (h17 : 0 < cn σ0 17) (hk_12 : ∀ (σ : cS) (x1 : Option Nat) (x2 : Option Nat) (x3 : Int32) (x4 : Int32) (x5 : Int32) (H : Heap) (locs : List Loc) (ls : Array Slot), cM D ca true A s.heap σ0 α σ α H locs → lv_has ls 7 [(0, cr α 3 (some 0)), (1, cr α 6 x1), (2, cr α 6 x2), (3, .int x3), (4, .int x4), (5, .int x5)] → k_12 σ x1 x2 x3 x4 x5 = some o → W p l e rc_X3_pickUpAsIn s m args below meth c H locs 0 0 (MQ below (cQ false D ca true A α σ0 (fun _ => some (.int o.1)) o.2) args s 0 0 A) (F0 m 12 ls [])) : ∀ (σ : cS) (x1 : Option Nat) (x2 : Option Nat) (x3 : Int32) (x4 : Int32) (x5 : Int32) (H : Heap) (locs : List Loc) (ls : Array Slot), cM D ca true A s.heap σ0 α σ α H locs → lv_has ls 7 [(0, cr α 3 (some 0)), (1, cr α 6 x1), (2, cr α 6 x2), (3, .int x3), (4, .int x4), (5, .int x5)] → fc_X3_pickUpAsIn_59 k_12 σ x1 x2 x3 x4 x5 = some o → W p l e rc_X3_pickUpAsIn s m args below meth c H locs 0 0 (MQ below (cQ false D ca true A α σ0 (fun _ => some (.int o.1)) o.2) args s 0 0 A) (F0 m 59 ls []) := by
  have hx := C.1
  have hb := C.2.1
  intro σ x1 x2 x3 x4 x5 H locs ls hM hl h
  unfold fc_X3_pickUpAsIn_59 at h
  refine lv_iconst (v := (0 : Int32)) hx hb dX3_pickUpAsIn_59 (by decide) ?_
  exact gc_X3_pickUpAsIn_60 C hr hlk h17 hk_12 _ _ _ _ _ _ _ _ _ _ hM (lv_sub hl [0, 1, 2, 3, 4, 5] rfl) h
def fc_X3_pickUpAsIn_12 : Nat → cS → Option Nat → Option Nat → Int32 → Int32 → Int32 → Option (Int32 × cS)
  | 0, _, _, _, _, _, _ => none
  | n + 1, σ, x1, x2, x3, x4, x5 =>
    if (cI σ 2 0 13) ≤ x5 then
      some (x3, σ)
    else
      if x4 = 0 then
        fc_X3_pickUpAsIn_59 (fc_X3_pickUpAsIn_12 n) σ x1 x2 x3 x4 x5
      else
        (dr σ 6 x2).bind fun i_1 =>
        (dr σ 12 (cR σ 6 i_1 1)).bind fun i_2 =>
        if x5 < 0 ∨ cln σ 12 i_2 ≤ x5.toNatClampNeg then none else
        if (cI σ 12 i_2 x5.toNatClampNeg) = (100 : Int32) then
          (dr σ 6 x1).bind fun i_3 =>
          (dr σ 12 (cR σ 6 i_3 1)).bind fun i_4 =>
          if x5 < 0 ∨ cln σ 12 i_4 ≤ x5.toNatClampNeg then none else
          if (cI σ 12 i_4 x5.toNatClampNeg) = (cI σ 6 i_3 0) then
            fc_X3_pickUpAsIn_60 (fc_X3_pickUpAsIn_12 n) σ x1 x2 x3 x4 x5 (1 : Int32)
          else
            fc_X3_pickUpAsIn_59 (fc_X3_pickUpAsIn_12 n) σ x1 x2 x3 x4 x5
        else
          fc_X3_pickUpAsIn_59 (fc_X3_pickUpAsIn_12 n) σ x1 x2 x3 x4 x5
set_option maxHeartbeats 4000000 in
set_option maxRecDepth 100000 in
theorem gc_X3_pickUpAsIn_12 {p : Program} {l : Launch} {e : Env} {s : State} {m : MethodId} {args : Array Value} {below : List Frame} {meth : Method} {c : Code} {D : va_G} {ca : Nat → ClassId} {A : Nat → Prop} {σ0 : cS} {α : cAl} {o : Int32 × cS} (C : cC p s m args c cX3_pickUpAsIn 7 RX3 D ca A α) (hr : meth.sig.returnType = (some FieldType.int)) (hlk : meth.locks = false) (h17 : 0 < cn σ0 17) : ∀ (n : Nat) (σ : cS) (x1 : Option Nat) (x2 : Option Nat) (x3 : Int32) (x4 : Int32) (x5 : Int32) (H : Heap) (locs : List Loc) (ls : Array Slot), cM D ca true A s.heap σ0 α σ α H locs → lv_has ls 7 [(0, cr α 3 (some 0)), (1, cr α 6 x1), (2, cr α 6 x2), (3, .int x3), (4, .int x4), (5, .int x5)] → fc_X3_pickUpAsIn_12 n σ x1 x2 x3 x4 x5 = some o → W p l e rc_X3_pickUpAsIn s m args below meth c H locs 0 0 (MQ below (cQ false D ca true A α σ0 (fun _ => some (.int o.1)) o.2) args s 0 0 A) (F0 m 12 ls []) := by
  have hx := C.1
  have hb := C.2.1
  intro n
  induction n with
  | zero =>
    intro σ x1 x2 x3 x4 x5 H locs ls hM hl h
    cases h
  | succ n ih =>
    intro σ x1 x2 x3 x4 x5 H locs ls hM hl h
    rw [fc_X3_pickUpAsIn_12] at h
    refine lv_iload hx hb dX3_pickUpAsIn_12 (lv_at hl 5 rfl) ?_
    refine c_aload_n (t := 3) (x := (some 0)) hx hb dX3_pickUpAsIn_14 rfl (lv_at hl 0 rfl) ?_
    refine c_getb C hM (k := 3) (f := 0) (j := 0) (t := 2) (hM.cst 3 0 rfl) (by decide) fl_X3_15 dX3_pickUpAsIn_15 ?_
    refine c_geti C hM (k := 2) (f := 13) (hM.cst 2 0 rfl) rfl fl_X3_41 dX3_pickUpAsIn_18 ?_
    refine lv_icmp_ge (tgt := 86) hx hb dX3_pickUpAsIn_21 (by decide) (fun c_1 => ?_) (fun c_1 => ?_)
    · have h := br_T c_1 h
      refine lv_iload_n hx hb dX3_pickUpAsIn_86 rfl (lv_at hl 3 rfl) ?_
      exact c_ri C hM (fun _ => rfl) hr hlk dX3_pickUpAsIn_87 h
    · have h := br_F c_1 h
      refine lv_iload hx hb dX3_pickUpAsIn_24 (lv_at hl 4 rfl) ?_
      refine lv_if_eq (tgt := 59) hx hb dX3_pickUpAsIn_26 (by decide) (fun c_2 => ?_) (fun c_2 => ?_)
      · have h := br_T c_2 h
        exact gc_X3_pickUpAsIn_59 C hr hlk h17 ih _ _ _ _ _ _ _ _ _ hM (lv_sub hl [0, 1, 2, 3, 4, 5] rfl) h
      · have h := br_F c_2 h
        refine c_aload_n (t := 6) (x := x2) hx hb dX3_pickUpAsIn_29 rfl (lv_at hl 2 rfl) ?_
        obtain ⟨i_1, hd_1, h⟩ := bd_of h
        refine c_getrt C hM (k := 6) (f := 1) (t := 12) hd_1 (by decide) fl_X3_25 dX3_pickUpAsIn_30 ?_
        refine lv_iload hx hb dX3_pickUpAsIn_33 (lv_at hl 5 rfl) ?_
        obtain ⟨i_2, hd_2, h⟩ := bd_of h
        obtain ⟨c_3, h⟩ := ko_of h
        refine c_iald C hM hd_2 c_3 dX3_pickUpAsIn_35 ?_
        refine lv_bipush (v := (100 : Int32)) hx hb dX3_pickUpAsIn_36 (by decide) ?_
        refine lv_icmp_ne (tgt := 59) hx hb dX3_pickUpAsIn_38 (by decide) (fun c_4 => ?_) (fun c_4 => ?_)
        · have h := br_F c_4 h
          exact gc_X3_pickUpAsIn_59 C hr hlk h17 ih _ _ _ _ _ _ _ _ _ hM (lv_sub hl [0, 1, 2, 3, 4, 5] rfl) h
        · have h := br_T c_4 h
          refine c_aload_n (t := 6) (x := x1) hx hb dX3_pickUpAsIn_41 rfl (lv_at hl 1 rfl) ?_
          obtain ⟨i_3, hd_3, h⟩ := bd_of h
          refine c_getrt C hM (k := 6) (f := 1) (t := 12) hd_3 (by decide) fl_X3_25 dX3_pickUpAsIn_42 ?_
          refine lv_iload hx hb dX3_pickUpAsIn_45 (lv_at hl 5 rfl) ?_
          obtain ⟨i_4, hd_4, h⟩ := bd_of h
          obtain ⟨c_5, h⟩ := ko_of h
          refine c_iald C hM hd_4 c_5 dX3_pickUpAsIn_47 ?_
          refine c_aload_n (t := 6) (x := x1) hx hb dX3_pickUpAsIn_48 rfl (lv_at hl 1 rfl) ?_
          refine c_geti C hM (k := 6) (f := 0) hd_3 rfl fl_X3_19 dX3_pickUpAsIn_49 ?_
          refine lv_icmp_ne (tgt := 59) hx hb dX3_pickUpAsIn_52 (by decide) (fun c_6 => ?_) (fun c_6 => ?_)
          · have h := br_F c_6 h
            exact gc_X3_pickUpAsIn_59 C hr hlk h17 ih _ _ _ _ _ _ _ _ _ hM (lv_sub hl [0, 1, 2, 3, 4, 5] rfl) h
          · have h := br_T c_6 h
            refine lv_iconst (v := (1 : Int32)) hx hb dX3_pickUpAsIn_55 (by decide) ?_
            refine lv_goto (tgt := 60) hx hb dX3_pickUpAsIn_56 (by decide) ?_
            exact gc_X3_pickUpAsIn_60 C hr hlk h17 ih _ _ _ _ _ _ _ _ _ _ hM (lv_sub hl [0, 1, 2, 3, 4, 5] rfl) h
def fc_X3_pickUpAsIn (σ : cS) (x1 : Option Nat) (x2 : Option Nat) : Option (Int32 × cS) :=
  (fc_X3_hasLight σ x1).bind fun r_1 =>
  fc_X3_pickUpAsIn_12 3000 r_1.2 x1 x2 (0 : Int32) r_1.1 (0 : Int32)
set_option maxHeartbeats 4000000 in
set_option maxRecDepth 100000 in
theorem cc_X3_pickUpAsIn (l : Launch) (D : va_G) (ca : Nat → ClassId) (A : Nat → Prop) (α : cAl) (σ : cS) (x1 : Option Nat) (x2 : Option Nat) (o : Int32 × cS) (h : fc_X3_pickUpAsIn σ x1 x2 = some o) : cMet false l yX3_pickUpAsIn cX3_pickUpAsIn 7 ((some FieldType.int)) rc_X3_pickUpAsIn 0 0 D ca true A α σ [cr α 3 (some 0), cr α 6 x1, cr α 6 x2] (fun _ => some (.int o.1)) o.2 := by
  refine Met.ofW (cc := cX3_pickUpAsIn) (maxL := 7) (ret := (some FieldType.int)) (by decide) rfl ?_
  intro p e s m args below meth c s₁ B hml hv
  obtain ⟨rfl, hP, hK, hD0, hSh, hA, hG⟩ := hv
  have C : cC p s m _ c cX3_pickUpAsIn 7 RX3 D ca A α := ⟨B.exec, B.bytes, hml, findClass_of_methodNamed B.named, fun w hw => atoms_spec (ws := mWs yX3_pickUpAsIn cX3_pickUpAsIn 7 ((some FieldType.int))) B.pre w (List.mem_cons_of_mem _ hw), hK, hG⟩
  have hM : cM D ca true A s.heap σ α σ α s.heap [] := ⟨hP, hD0, hSh, va_S.rf, hA, cX.rf⟩
  have h17 : 0 < cn σ 17 := c_17 hM
  have hr := B.returns
  have hlk := B.notSynchronized
  have hx := C.1
  have hb := C.2.1
  have hl := lv_entry ([cr α 3 (some 0), cr α 6 x1, cr α 6 x2]) (n := 7) (by simp [lg_r, lg_i, lg_l, lg_n])
  rw [lg_entry_eq]
  generalize (lg_sl ([cr α 3 (some 0), cr α 6 x1, cr α 6 x2]) ++ List.replicate (7 - (lg_sl ([cr α 3 (some 0), cr α 6 x1, cr α 6 x2])).length) Slot.unset).toArray = ls at hl ⊢
  have hl : lv_has ls 7 [(0, cr α 3 (some 0)), (1, cr α 6 x1), (2, cr α 6 x2)] := (lv_to hl (by simp only [la_r, la_i, la_l, la_n]))
  unfold fc_X3_pickUpAsIn at h
  refine lv_iconst (v := (0 : Int32)) hx hb dX3_pickUpAsIn_0 (by decide) ?_
  refine lv_istore_n (lv' := [(3, .int (0 : Int32)), (0, cr α 3 (some 0)), (1, cr α 6 x1), (2, cr α 6 x2)]) hx hb dX3_pickUpAsIn_1 rfl hl (by decide) (by first | rfl | (simp only [List.filter, cr_cat]; rfl)) (fun ls hl => ?_)
  refine c_aload_n (t := 3) (x := (some 0)) hx hb dX3_pickUpAsIn_2 rfl (lv_at hl 1 rfl) ?_
  refine c_aload_n (t := 6) (x := x1) hx hb dX3_pickUpAsIn_3 rfl (lv_at hl 2 rfl) ?_
  obtain ⟨r_1, hr_1, h⟩ := bd_of h
  refine c_go0 (c_rV (As := [cr α 6 x1]) (rest := []) C hM h17 (hM.cst 3 0 rfl) (by decide) (cc_X3_hasLight l D ca A α σ x1 _ hr_1) cw_X3_62 ⟨rfl, rfl⟩ ⟨Nat.le_of_ble_eq_true rfl, Nat.le_of_ble_eq_true rfl⟩ rfl rfl (cats_le _ (Nat.le_of_ble_eq_true rfl)) hl.1 dX3_pickUpAsIn_4 ⟨Nat.le_of_ble_eq_true rfl, Nat.le_of_ble_eq_true rfl⟩) hM (fun H locs hM => ?_)
  refine W_st (st' := [.int r_1.1]) rfl ?_
  refine lv_istore (lv' := [(4, .int r_1.1), (3, .int (0 : Int32)), (0, cr α 3 (some 0)), (1, cr α 6 x1), (2, cr α 6 x2)]) hx hb dX3_pickUpAsIn_7 hl (by decide) rfl (fun ls hl => ?_)
  refine lv_iconst (v := (0 : Int32)) hx hb dX3_pickUpAsIn_9 (by decide) ?_
  refine lv_istore (lv' := [(5, .int (0 : Int32)), (4, .int r_1.1), (3, .int (0 : Int32)), (0, cr α 3 (some 0)), (1, cr α 6 x1), (2, cr α 6 x2)]) hx hb dX3_pickUpAsIn_10 hl (by decide) rfl (fun ls hl => ?_)
  exact gc_X3_pickUpAsIn_12 C hr hlk h17  _ _ _ _ _ _ _ _ _ _ hM (lv_sub hl [3, 4, 5, 2, 1, 0] rfl) h
/-! Lorewick$Rules.burn(LLorewick$State;)V -/
abbrev rc_X3_burn : Room := { frames := 0, cells := 0, slots := 0, locals := 0 }
def fc_X3_burn_66 (k_2 : cS → Option Nat → Int32 → Option (cS)) (σ : cS) (x1 : Option Nat) (x2 : Int32) : Option (cS) :=
    k_2 σ x1 (x2 + (1 : Int32))
set_option maxHeartbeats 4000000 in
set_option maxRecDepth 100000 in
theorem gc_X3_burn_66 {p : Program} {l : Launch} {e : Env} {s : State} {m : MethodId} {args : Array Value} {below : List Frame} {meth : Method} {c : Code} {D : va_G} {ca : Nat → ClassId} {A : Nat → Prop} {σ0 : cS} {α : cAl} {o : cS} {k_2 : cS → Option Nat → Int32 → Option (cS)} (C : cC p s m args c cX3_burn 3 RX3 D ca A α) (hr : meth.sig.returnType = (none : Option FieldType)) (hlk : meth.locks = false) (h17 : 0 < cn σ0 17) (hk_2 : ∀ (σ : cS) (x1 : Option Nat) (x2 : Int32) (H : Heap) (locs : List Loc) (ls : Array Slot), cM D ca true A s.heap σ0 α σ α H locs → lv_has ls 3 [(0, cr α 3 (some 0)), (1, cr α 6 x1), (2, .int x2)] → k_2 σ x1 x2 = some o → W p l e rc_X3_burn s m args below meth c H locs 0 0 (MQ below (cQ false D ca true A α σ0 (fun _ => none) o) args s 0 0 A) (F0 m 2 ls [])) : ∀ (σ : cS) (x1 : Option Nat) (x2 : Int32) (H : Heap) (locs : List Loc) (ls : Array Slot), cM D ca true A s.heap σ0 α σ α H locs → lv_has ls 3 [(0, cr α 3 (some 0)), (1, cr α 6 x1), (2, .int x2)] → fc_X3_burn_66 k_2 σ x1 x2 = some o → W p l e rc_X3_burn s m args below meth c H locs 0 0 (MQ below (cQ false D ca true A α σ0 (fun _ => none) o) args s 0 0 A) (F0 m 66 ls []) := by
  have hx := C.1
  have hb := C.2.1
  intro σ x1 x2 H locs ls hM hl h
  unfold fc_X3_burn_66 at h
  refine lv_iinc (v := (x2 + (1 : Int32))) (lv' := [(2, .int (x2 + (1 : Int32))), (0, cr α 3 (some 0)), (1, cr α 6 x1)]) hx hb dX3_burn_66 hl (k := 2) rfl rfl (by decide) (by first | rfl | (simp only [List.filter, cr_cat]; rfl)) (fun ls hl => ?_)
  refine lv_goto (tgt := 2) hx hb dX3_burn_69 (by decide) ?_
  exact hk_2 _ _ _ _ _ _ hM (lv_sub hl [1, 2, 0] rfl) h
def fc_X3_burn_65 (k_2 : cS → Option Nat → Int32 → Option (cS)) (σ : cS) (x1 : Option Nat) (x2 : Int32) (s0 : Int32) (s1 : Int32) (s2 : Option Nat) : Option (cS) :=
    (dr σ 13 s2).bind fun i_1 =>
    if s1 < 0 ∨ cln σ 13 i_1 ≤ s1.toNatClampNeg then none else
    fc_X3_burn_66 k_2 (uI σ 13 i_1 s1.toNatClampNeg (s0 &&& 1)) x1 x2
set_option maxHeartbeats 4000000 in
set_option maxRecDepth 100000 in
theorem gc_X3_burn_65 {p : Program} {l : Launch} {e : Env} {s : State} {m : MethodId} {args : Array Value} {below : List Frame} {meth : Method} {c : Code} {D : va_G} {ca : Nat → ClassId} {A : Nat → Prop} {σ0 : cS} {α : cAl} {o : cS} {k_2 : cS → Option Nat → Int32 → Option (cS)} (C : cC p s m args c cX3_burn 3 RX3 D ca A α) (hr : meth.sig.returnType = (none : Option FieldType)) (hlk : meth.locks = false) (h17 : 0 < cn σ0 17) (hk_2 : ∀ (σ : cS) (x1 : Option Nat) (x2 : Int32) (H : Heap) (locs : List Loc) (ls : Array Slot), cM D ca true A s.heap σ0 α σ α H locs → lv_has ls 3 [(0, cr α 3 (some 0)), (1, cr α 6 x1), (2, .int x2)] → k_2 σ x1 x2 = some o → W p l e rc_X3_burn s m args below meth c H locs 0 0 (MQ below (cQ false D ca true A α σ0 (fun _ => none) o) args s 0 0 A) (F0 m 2 ls [])) : ∀ (σ : cS) (x1 : Option Nat) (x2 : Int32) (s0 : Int32) (s1 : Int32) (s2 : Option Nat) (H : Heap) (locs : List Loc) (ls : Array Slot), cM D ca true A s.heap σ0 α σ α H locs → lv_has ls 3 [(0, cr α 3 (some 0)), (1, cr α 6 x1), (2, .int x2)] → fc_X3_burn_65 k_2 σ x1 x2 s0 s1 s2 = some o → W p l e rc_X3_burn s m args below meth c H locs 0 0 (MQ below (cQ false D ca true A α σ0 (fun _ => none) o) args s 0 0 A) (F0 m 65 ls [.int s0, .int s1, cr α 13 s2]) := by
  have hx := C.1
  have hb := C.2.1
  intro σ x1 x2 s0 s1 s2 H locs ls hM hl h
  unfold fc_X3_burn_65 at h
  obtain ⟨i_1, hd_1, h⟩ := bd_of h
  obtain ⟨c_1, h⟩ := ko_of h
  refine c_zast C hM hd_1 c_1 dX3_burn_65 (fun H locs hM => ?_)
  exact gc_X3_burn_66 C hr hlk h17 hk_2 _ _ _ _ _ _ hM (lv_sub hl [0, 1, 2] rfl) h
def fc_X3_burn_2 : Nat → cS → Option Nat → Int32 → Option (cS)
  | 0, _, _, _ => none
  | n + 1, σ, x1, x2 =>
    if (cI σ 2 0 13) ≤ x2 then
      some σ
    else
      if x2 < 0 ∨ 12 ≤ x2.toNatClampNeg then none else
      if (cI σ 14 1 x2.toNatClampNeg) = (108 : Int32) then
        (dr σ 6 x1).bind fun i_1 =>
        (dr σ 13 (cR σ 6 i_1 3)).bind fun i_2 =>
        if x2 < 0 ∨ cln σ 13 i_2 ≤ x2.toNatClampNeg then none else
        if (cI σ 13 i_2 x2.toNatClampNeg) = 0 then
          fc_X3_burn_66 (fc_X3_burn_2 n) σ x1 x2
        else
          (dr σ 12 (cR σ 6 i_1 2)).bind fun i_3 =>
          if x2 < 0 ∨ cln σ 12 i_3 ≤ x2.toNatClampNeg then none else
          if x2 < 0 ∨ cln σ 12 i_3 ≤ x2.toNatClampNeg then none else
          (dr (uI σ 12 i_3 x2.toNatClampNeg ((cI σ 12 i_3 x2.toNatClampNeg) - (1 : Int32))) 12 (cR (uI σ 12 i_3 x2.toNatClampNeg ((cI σ 12 i_3 x2.toNatClampNeg) - (1 : Int32))) 6 i_1 2)).bind fun i_4 =>
          if x2 < 0 ∨ cln (uI σ 12 i_3 x2.toNatClampNeg ((cI σ 12 i_3 x2.toNatClampNeg) - (1 : Int32))) 12 i_4 ≤ x2.toNatClampNeg then none else
          if (cI (uI σ 12 i_3 x2.toNatClampNeg ((cI σ 12 i_3 x2.toNatClampNeg) - (1 : Int32))) 12 i_4 x2.toNatClampNeg) ≤ 0 then
            fc_X3_burn_65 (fc_X3_burn_2 n) (uI σ 12 i_3 x2.toNatClampNeg ((cI σ 12 i_3 x2.toNatClampNeg) - (1 : Int32))) x1 x2 (0 : Int32) x2 (cR (uI σ 12 i_3 x2.toNatClampNeg ((cI σ 12 i_3 x2.toNatClampNeg) - (1 : Int32))) 6 i_1 3)
          else
            fc_X3_burn_65 (fc_X3_burn_2 n) (uI σ 12 i_3 x2.toNatClampNeg ((cI σ 12 i_3 x2.toNatClampNeg) - (1 : Int32))) x1 x2 (1 : Int32) x2 (cR (uI σ 12 i_3 x2.toNatClampNeg ((cI σ 12 i_3 x2.toNatClampNeg) - (1 : Int32))) 6 i_1 3)
      else
        fc_X3_burn_66 (fc_X3_burn_2 n) σ x1 x2
set_option maxHeartbeats 4000000 in
set_option maxRecDepth 100000 in
theorem gc_X3_burn_2 {p : Program} {l : Launch} {e : Env} {s : State} {m : MethodId} {args : Array Value} {below : List Frame} {meth : Method} {c : Code} {D : va_G} {ca : Nat → ClassId} {A : Nat → Prop} {σ0 : cS} {α : cAl} {o : cS} (C : cC p s m args c cX3_burn 3 RX3 D ca A α) (hr : meth.sig.returnType = (none : Option FieldType)) (hlk : meth.locks = false) (h17 : 0 < cn σ0 17) : ∀ (n : Nat) (σ : cS) (x1 : Option Nat) (x2 : Int32) (H : Heap) (locs : List Loc) (ls : Array Slot), cM D ca true A s.heap σ0 α σ α H locs → lv_has ls 3 [(0, cr α 3 (some 0)), (1, cr α 6 x1), (2, .int x2)] → fc_X3_burn_2 n σ x1 x2 = some o → W p l e rc_X3_burn s m args below meth c H locs 0 0 (MQ below (cQ false D ca true A α σ0 (fun _ => none) o) args s 0 0 A) (F0 m 2 ls []) := by
  have hx := C.1
  have hb := C.2.1
  intro n
  induction n with
  | zero =>
    intro σ x1 x2 H locs ls hM hl h
    cases h
  | succ n ih =>
    intro σ x1 x2 H locs ls hM hl h
    rw [fc_X3_burn_2] at h
    refine lv_iload_n hx hb dX3_burn_2 rfl (lv_at hl 2 rfl) ?_
    refine c_aload_n (t := 3) (x := (some 0)) hx hb dX3_burn_3 rfl (lv_at hl 0 rfl) ?_
    refine c_getb C hM (k := 3) (f := 0) (j := 0) (t := 2) (hM.cst 3 0 rfl) (by decide) fl_X3_15 dX3_burn_4 ?_
    refine c_geti C hM (k := 2) (f := 13) (hM.cst 2 0 rfl) rfl fl_X3_41 dX3_burn_7 ?_
    refine lv_icmp_ge (tgt := 72) hx hb dX3_burn_10 (by decide) (fun c_1 => ?_) (fun c_1 => ?_)
    · have h := br_T c_1 h
      exact c_rv C hM (fun _ => rfl) hr hlk dX3_burn_72 h
    · have h := br_F c_1 h
      refine c_aload_n (t := 3) (x := (some 0)) hx hb dX3_burn_13 rfl (lv_at hl 0 rfl) ?_
      refine c_getb C hM (k := 3) (f := 0) (j := 0) (t := 2) (hM.cst 3 0 rfl) (by decide) fl_X3_15 dX3_burn_14 ?_
      refine c_getb C hM (k := 2) (f := 10) (j := 1) (t := 14) (hM.cst 2 0 rfl) (by decide) fl_X3_51 dX3_burn_17 ?_
      refine lv_iload_n hx hb dX3_burn_20 rfl (lv_at hl 2 rfl) ?_
      obtain ⟨c_2, h⟩ := ko_of h
      refine c_cald C hM (hM.cst 14 1 rfl) (by rw [hM.ln 14 1 12 (by decide)]; exact c_2) dX3_burn_21 ?_
      refine lv_bipush (v := (108 : Int32)) hx hb dX3_burn_22 (by decide) ?_
      refine lv_icmp_ne (tgt := 66) hx hb dX3_burn_24 (by decide) (fun c_3 => ?_) (fun c_3 => ?_)
      · have h := br_F c_3 h
        exact gc_X3_burn_66 C hr hlk h17 ih _ _ _ _ _ _ hM (lv_sub hl [0, 1, 2] rfl) h
      · have h := br_T c_3 h
        refine c_aload_n (t := 6) (x := x1) hx hb dX3_burn_27 rfl (lv_at hl 1 rfl) ?_
        obtain ⟨i_1, hd_1, h⟩ := bd_of h
        refine c_getrt C hM (k := 6) (f := 3) (t := 13) hd_1 (by decide) fl_X3_37 dX3_burn_28 ?_
        refine lv_iload_n hx hb dX3_burn_31 rfl (lv_at hl 2 rfl) ?_
        obtain ⟨i_2, hd_2, h⟩ := bd_of h
        obtain ⟨c_4, h⟩ := ko_of h
        refine c_zald C hM hd_2 c_4 dX3_burn_32 ?_
        refine lv_if_eq (tgt := 66) hx hb dX3_burn_33 (by decide) (fun c_5 => ?_) (fun c_5 => ?_)
        · have h := br_T c_5 h
          exact gc_X3_burn_66 C hr hlk h17 ih _ _ _ _ _ _ hM (lv_sub hl [0, 1, 2] rfl) h
        · have h := br_F c_5 h
          refine c_aload_n (t := 6) (x := x1) hx hb dX3_burn_36 rfl (lv_at hl 1 rfl) ?_
          refine c_getrt C hM (k := 6) (f := 2) (t := 12) hd_1 (by decide) fl_X3_33 dX3_burn_37 ?_
          refine lv_iload_n hx hb dX3_burn_40 rfl (lv_at hl 2 rfl) ?_
          refine lv_dup2_11 hx hb dX3_burn_41 rfl cr_cat ?_
          obtain ⟨i_3, hd_3, h⟩ := bd_of h
          obtain ⟨c_6, h⟩ := ko_of h
          refine c_iald C hM hd_3 c_6 dX3_burn_42 ?_
          refine lv_iconst (v := (1 : Int32)) hx hb dX3_burn_43 (by decide) ?_
          refine lv_isub hx hb dX3_burn_44 ?_
          obtain ⟨c_7, h⟩ := ko_of h
          refine c_iast C hM hd_3 c_7 dX3_burn_45 (fun H locs hM => ?_)
          refine c_aload_n (t := 6) (x := x1) hx hb dX3_burn_46 rfl (lv_at hl 1 rfl) ?_
          refine c_getrt C hM (k := 6) (f := 3) (t := 13) hd_1 (by decide) fl_X3_37 dX3_burn_47 ?_
          refine lv_iload_n hx hb dX3_burn_50 rfl (lv_at hl 2 rfl) ?_
          refine c_aload_n (t := 6) (x := x1) hx hb dX3_burn_51 rfl (lv_at hl 1 rfl) ?_
          refine c_getrt C hM (k := 6) (f := 2) (t := 12) hd_1 (by decide) fl_X3_33 dX3_burn_52 ?_
          refine lv_iload_n hx hb dX3_burn_55 rfl (lv_at hl 2 rfl) ?_
          obtain ⟨i_4, hd_4, h⟩ := bd_of h
          obtain ⟨c_8, h⟩ := ko_of h
          refine c_iald C hM hd_4 c_8 dX3_burn_56 ?_
          refine lv_if_le (tgt := 64) hx hb dX3_burn_57 (by decide) (fun c_9 => ?_) (fun c_9 => ?_)
          · have h := br_T c_9 h
            refine lv_iconst (v := (0 : Int32)) hx hb dX3_burn_64 (by decide) ?_
            exact gc_X3_burn_65 C hr hlk h17 ih _ _ _ _ _ _ _ _ _ hM (lv_sub hl [0, 1, 2] rfl) h
          · have h := br_F c_9 h
            refine lv_iconst (v := (1 : Int32)) hx hb dX3_burn_60 (by decide) ?_
            refine lv_goto (tgt := 65) hx hb dX3_burn_61 (by decide) ?_
            exact gc_X3_burn_65 C hr hlk h17 ih _ _ _ _ _ _ _ _ _ hM (lv_sub hl [0, 1, 2] rfl) h
def fc_X3_burn (σ : cS) (x1 : Option Nat) : Option (cS) :=
  fc_X3_burn_2 3000 σ x1 (0 : Int32)
set_option maxHeartbeats 4000000 in
set_option maxRecDepth 100000 in
theorem cc_X3_burn (l : Launch) (D : va_G) (ca : Nat → ClassId) (A : Nat → Prop) (α : cAl) (σ : cS) (x1 : Option Nat) (o : cS) (h : fc_X3_burn σ x1 = some o) : cMet false l yX3_burn cX3_burn 3 ((none : Option FieldType)) rc_X3_burn 0 0 D ca true A α σ [cr α 3 (some 0), cr α 6 x1] (fun _ => none) o := by
  refine Met.ofW (cc := cX3_burn) (maxL := 3) (ret := (none : Option FieldType)) (by decide) rfl ?_
  intro p e s m args below meth c s₁ B hml hv
  obtain ⟨rfl, hP, hK, hD0, hSh, hA, hG⟩ := hv
  have C : cC p s m _ c cX3_burn 3 RX3 D ca A α := ⟨B.exec, B.bytes, hml, findClass_of_methodNamed B.named, fun w hw => atoms_spec (ws := mWs yX3_burn cX3_burn 3 ((none : Option FieldType))) B.pre w (List.mem_cons_of_mem _ hw), hK, hG⟩
  have hM : cM D ca true A s.heap σ α σ α s.heap [] := ⟨hP, hD0, hSh, va_S.rf, hA, cX.rf⟩
  have h17 : 0 < cn σ 17 := c_17 hM
  have hr := B.returns
  have hlk := B.notSynchronized
  have hx := C.1
  have hb := C.2.1
  have hl := lv_entry ([cr α 3 (some 0), cr α 6 x1]) (n := 3) (by simp [lg_r, lg_i, lg_l, lg_n])
  rw [lg_entry_eq]
  generalize (lg_sl ([cr α 3 (some 0), cr α 6 x1]) ++ List.replicate (3 - (lg_sl ([cr α 3 (some 0), cr α 6 x1])).length) Slot.unset).toArray = ls at hl ⊢
  have hl : lv_has ls 3 [(0, cr α 3 (some 0)), (1, cr α 6 x1)] := (lv_to hl (by simp only [la_r, la_i, la_l, la_n]))
  unfold fc_X3_burn at h
  refine lv_iconst (v := (0 : Int32)) hx hb dX3_burn_0 (by decide) ?_
  refine lv_istore_n (lv' := [(2, .int (0 : Int32)), (0, cr α 3 (some 0)), (1, cr α 6 x1)]) hx hb dX3_burn_1 rfl hl (by decide) (by first | rfl | (simp only [List.filter, cr_cat]; rfl)) (fun ls hl => ?_)
  exact gc_X3_burn_2 C hr hlk h17  _ _ _ _ _ _ _ hM (lv_sub hl [1, 2, 0] rfl) h
/-! Lorewick$Sale.<init>(ILLorewick$Node;I)V -/
abbrev rc_X4_init : Room := { frames := 1, cells := 0, slots := 0, locals := 20 }
def fc_X4_init (σ : cS) (x0 : Option Nat) (x1 : Int32) (x2 : Option Nat) (x3 : Int32) : Option (cS) :=
  (dr σ 9 x0).bind fun i_1 =>
  if ¬ (lvq (uI σ 9 i_1 0 x1) 7 x2 = true) then none else
  some (uI (uR (uI σ 9 i_1 0 x1) 9 i_1 1 x2) 9 i_1 2 x3)
set_option maxHeartbeats 4000000 in
set_option maxRecDepth 100000 in
theorem cc_X4_init (l : Launch) (D : va_G) (ca : Nat → ClassId) (A : Nat → Prop) (α : cAl) (σ : cS) (x0 : Option Nat) (x1 : Int32) (x2 : Option Nat) (x3 : Int32) (o : cS) (h : fc_X4_init σ x0 x1 x2 x3 = some o) : cMet false l yX4_init cX4_init 4 ((none : Option FieldType)) rc_X4_init 0 0 D ca true A α σ [cr α 9 x0, .int x1, cr α 7 x2, .int x3] (fun _ => none) o := by
  refine Met.ofW (cc := cX4_init) (maxL := 4) (ret := (none : Option FieldType)) (by decide) rfl ?_
  intro p e s m args below meth c s₁ B hml hv
  obtain ⟨rfl, hP, hK, hD0, hSh, hA, hG⟩ := hv
  have C : cC p s m _ c cX4_init 4 RX4 D ca A α := ⟨B.exec, B.bytes, hml, findClass_of_methodNamed B.named, fun w hw => atoms_spec (ws := mWs yX4_init cX4_init 4 ((none : Option FieldType))) B.pre w (List.mem_cons_of_mem _ hw), hK, hG⟩
  have hM : cM D ca true A s.heap σ α σ α s.heap [] := ⟨hP, hD0, hSh, va_S.rf, hA, cX.rf⟩
  have h17 : 0 < cn σ 17 := c_17 hM
  have hr := B.returns
  have hlk := B.notSynchronized
  have hnm : meth.name = "<init>" := (name_of_methodNamed B.named B.method).1
  have hx := C.1
  have hb := C.2.1
  have hl := lv_entry ([cr α 9 x0, .int x1, cr α 7 x2, .int x3]) (n := 4) (by simp [lg_r, lg_i, lg_l, lg_n])
  rw [lg_entry_eq]
  generalize (lg_sl ([cr α 9 x0, .int x1, cr α 7 x2, .int x3]) ++ List.replicate (4 - (lg_sl ([cr α 9 x0, .int x1, cr α 7 x2, .int x3])).length) Slot.unset).toArray = ls at hl ⊢
  have hl : lv_has ls 4 [(0, cr α 9 x0), (1, .int x1), (2, cr α 7 x2), (3, .int x3)] := (lv_to hl (by simp only [la_r, la_i, la_l, la_n]))
  unfold fc_X4_init at h
  refine c_aload_n (t := 9) (x := x0) hx hb dX4_init_0 rfl (lv_at hl 0 rfl) ?_
  obtain ⟨i_1, hd_1, h⟩ := bd_of h
  refine c_oinit C hd_1 (wl_in (i := 1443) (by decide +kernel)) hl.1 dX4_init_1 (cats_le _ (Nat.le_of_ble_eq_true rfl)) (Nat.le_of_ble_eq_true rfl) (Nat.le_of_ble_eq_true rfl) ?_
  refine c_aload_n (t := 9) (x := x0) hx hb dX4_init_4 rfl (lv_at hl 0 rfl) ?_
  refine lv_iload_n hx hb dX4_init_5 rfl (lv_at hl 1 rfl) ?_
  refine c_puti C hM (k := 9) (f := 0) hd_1 rfl fl_X4_7 (Or.inr ⟨rfl, hnm⟩) dX4_init_6 (fun H locs hM => ?_)
  refine c_aload_n (t := 9) (x := x0) hx hb dX4_init_9 rfl (lv_at hl 0 rfl) ?_
  refine c_aload_n (t := 7) (x := x2) hx hb dX4_init_10 rfl (lv_at hl 2 rfl) ?_
  obtain ⟨c_1, h⟩ := ko_of h
  refine c_putr C hM (k := 9) (f := 1) (t := 7) (v := x2) hd_1 (by decide) (fun _ => Or.inl (by decide)) (Classical.not_not.mp c_1) fl_X4_13 (Or.inr ⟨rfl, hnm⟩) dX4_init_11 (fun H locs hM => ?_)
  refine c_aload_n (t := 9) (x := x0) hx hb dX4_init_14 rfl (lv_at hl 0 rfl) ?_
  refine lv_iload_n hx hb dX4_init_15 rfl (lv_at hl 3 rfl) ?_
  refine c_puti C hM (k := 9) (f := 2) hd_1 rfl fl_X4_17 (Or.inr ⟨rfl, hnm⟩) dX4_init_16 (fun H locs hM => ?_)
  exact c_rv C hM (fun _ => rfl) hr hlk dX4_init_19 h
/-! Lorewick$Shop.hasHint(I)Z -/
abbrev rc_X5_hasHint : Room := { frames := 0, cells := 0, slots := 0, locals := 0 }
def fc_X5_hasHint_17 (σ : cS) (s0 : Int32) : Option (Int32 × cS) :=
    if s0 &&& 1 = s0 then some (s0, σ) else none
set_option maxHeartbeats 4000000 in
set_option maxRecDepth 100000 in
theorem gc_X5_hasHint_17 {p : Program} {l : Launch} {e : Env} {s : State} {m : MethodId} {args : Array Value} {below : List Frame} {meth : Method} {c : Code} {D : va_G} {ca : Nat → ClassId} {A : Nat → Prop} {σ0 : cS} {α : cAl} {o : Int32 × cS} (C : cC p s m args c cX5_hasHint 2 RX5 D ca A α) (hr : meth.sig.returnType = (some FieldType.boolean)) (hlk : meth.locks = false) (h17 : 0 < cn σ0 17) : ∀ (σ : cS) (s0 : Int32) (H : Heap) (locs : List Loc) (ls : Array Slot), cM D ca true A s.heap σ0 α σ α H locs → lv_has ls 2 [] → fc_X5_hasHint_17 σ s0 = some o → W p l e rc_X5_hasHint s m args below meth c H locs 0 0 (MQ below (cQ false D ca true A α σ0 (fun _ => some (.int o.1)) o.2) args s 0 0 A) (F0 m 17 ls [.int s0]) := by
  have hx := C.1
  have hb := C.2.1
  intro σ s0 H locs ls hM hl h
  unfold fc_X5_hasHint_17 at h
  exact c_rz C hM (fun _ => rfl) hr hlk dX5_hasHint_17 h
def fc_X5_hasHint_16 (σ : cS) : Option (Int32 × cS) :=
    fc_X5_hasHint_17 σ (0 : Int32)
set_option maxHeartbeats 4000000 in
set_option maxRecDepth 100000 in
theorem gc_X5_hasHint_16 {p : Program} {l : Launch} {e : Env} {s : State} {m : MethodId} {args : Array Value} {below : List Frame} {meth : Method} {c : Code} {D : va_G} {ca : Nat → ClassId} {A : Nat → Prop} {σ0 : cS} {α : cAl} {o : Int32 × cS} (C : cC p s m args c cX5_hasHint 2 RX5 D ca A α) (hr : meth.sig.returnType = (some FieldType.boolean)) (hlk : meth.locks = false) (h17 : 0 < cn σ0 17) : ∀ (σ : cS) (H : Heap) (locs : List Loc) (ls : Array Slot), cM D ca true A s.heap σ0 α σ α H locs → lv_has ls 2 [] → fc_X5_hasHint_16 σ = some o → W p l e rc_X5_hasHint s m args below meth c H locs 0 0 (MQ below (cQ false D ca true A α σ0 (fun _ => some (.int o.1)) o.2) args s 0 0 A) (F0 m 16 ls []) := by
  have hx := C.1
  have hb := C.2.1
  intro σ H locs ls hM hl h
  unfold fc_X5_hasHint_16 at h
  refine lv_iconst (v := (0 : Int32)) hx hb dX5_hasHint_16 (by decide) ?_
  exact gc_X5_hasHint_17 C hr hlk h17  _ _ _ _ _ hM (lv_sub hl [] rfl) h
def fc_X5_hasHint (σ : cS) (x1 : Int32) : Option (Int32 × cS) :=
  if x1 < 0 then
    fc_X5_hasHint_16 σ
  else
    if (cI σ 5 0 2) ≤ x1 then
      fc_X5_hasHint_16 σ
    else
      fc_X5_hasHint_17 σ (1 : Int32)
set_option maxHeartbeats 4000000 in
set_option maxRecDepth 100000 in
theorem cc_X5_hasHint (l : Launch) (D : va_G) (ca : Nat → ClassId) (A : Nat → Prop) (α : cAl) (σ : cS) (x1 : Int32) (o : Int32 × cS) (h : fc_X5_hasHint σ x1 = some o) : cMet false l yX5_hasHint cX5_hasHint 2 ((some FieldType.boolean)) rc_X5_hasHint 0 0 D ca true A α σ [cr α 5 (some 0), .int x1] (fun _ => some (.int o.1)) o.2 := by
  refine Met.ofW (cc := cX5_hasHint) (maxL := 2) (ret := (some FieldType.boolean)) (by decide) rfl ?_
  intro p e s m args below meth c s₁ B hml hv
  obtain ⟨rfl, hP, hK, hD0, hSh, hA, hG⟩ := hv
  have C : cC p s m _ c cX5_hasHint 2 RX5 D ca A α := ⟨B.exec, B.bytes, hml, findClass_of_methodNamed B.named, fun w hw => atoms_spec (ws := mWs yX5_hasHint cX5_hasHint 2 ((some FieldType.boolean))) B.pre w (List.mem_cons_of_mem _ hw), hK, hG⟩
  have hM : cM D ca true A s.heap σ α σ α s.heap [] := ⟨hP, hD0, hSh, va_S.rf, hA, cX.rf⟩
  have h17 : 0 < cn σ 17 := c_17 hM
  have hr := B.returns
  have hlk := B.notSynchronized
  have hx := C.1
  have hb := C.2.1
  have hl := lv_entry ([cr α 5 (some 0), .int x1]) (n := 2) (Nat.le_of_ble_eq_true rfl)
  rw [lg_entry_eq]
  generalize (lg_sl ([cr α 5 (some 0), .int x1]) ++ List.replicate (2 - (lg_sl ([cr α 5 (some 0), .int x1])).length) Slot.unset).toArray = ls at hl ⊢
  have hl : lv_has ls 2 [(0, cr α 5 (some 0)), (1, .int x1)] := hl
  unfold fc_X5_hasHint at h
  refine lv_iload_n hx hb dX5_hasHint_0 rfl (lv_at hl 1 rfl) ?_
  refine lv_if_lt (tgt := 16) hx hb dX5_hasHint_1 (by decide) (fun c_1 => ?_) (fun c_1 => ?_)
  · have h := br_T c_1 h
    exact gc_X5_hasHint_16 C hr hlk h17  _ _ _ _ hM (lv_sub hl [] rfl) h
  · have h := br_F c_1 h
    refine lv_iload_n hx hb dX5_hasHint_4 rfl (lv_at hl 1 rfl) ?_
    refine c_aload_n (t := 5) (x := (some 0)) hx hb dX5_hasHint_5 rfl (lv_at hl 0 rfl) ?_
    refine c_geti C hM (k := 5) (f := 2) (hM.cst 5 0 rfl) rfl fl_X5_30 dX5_hasHint_6 ?_
    refine lv_icmp_ge (tgt := 16) hx hb dX5_hasHint_9 (by decide) (fun c_2 => ?_) (fun c_2 => ?_)
    · have h := br_T c_2 h
      exact gc_X5_hasHint_16 C hr hlk h17  _ _ _ _ hM (lv_sub hl [] rfl) h
    · have h := br_F c_2 h
      refine lv_iconst (v := (1 : Int32)) hx hb dX5_hasHint_12 (by decide) ?_
      refine lv_goto (tgt := 17) hx hb dX5_hasHint_13 (by decide) ?_
      exact gc_X5_hasHint_17 C hr hlk h17  _ _ _ _ _ hM (lv_sub hl [] rfl) h
/-! Lorewick$Shop.wasSold(I)Z -/
abbrev rc_X5_wasSold : Room := { frames := 4, cells := 0, slots := 0, locals := 102 }
def fc_X5_wasSold_2 : Nat → cS → Int32 → Int32 → Option (Int32 × cS)
  | 0, _, _, _ => none
  | n + 1, σ, x1, x2 =>
    (fc_Jx4a65c_size_8abf5 σ (some 1)).bind fun r_1 =>
    if r_1.1 ≤ x2 then
      if (0 : Int32) &&& 1 = (0 : Int32) then some ((0 : Int32), r_1.2) else none
    else
      (fc_Jx4a65c_get_915e3 r_1.2 (some 1) x2 9).bind fun r_2 =>
      if ¬ (lvq r_2.2 9 r_2.1 = true) then none else
      (dr r_2.2 9 r_2.1).bind fun i_3 =>
      if (cI r_2.2 9 i_3 0) = x1 then
        if (1 : Int32) &&& 1 = (1 : Int32) then some ((1 : Int32), r_2.2) else none
      else
        (fc_X5_wasSold_2 n) r_2.2 x1 (x2 + (1 : Int32))
set_option maxHeartbeats 4000000 in
set_option maxRecDepth 100000 in
theorem gc_X5_wasSold_2 {p : Program} {l : Launch} {e : Env} {s : State} {m : MethodId} {args : Array Value} {below : List Frame} {meth : Method} {c : Code} {D : va_G} {ca : Nat → ClassId} {A : Nat → Prop} {σ0 : cS} {α : cAl} {o : Int32 × cS} (C : cC p s m args c cX5_wasSold 3 RX5 D ca A α) (hr : meth.sig.returnType = (some FieldType.boolean)) (hlk : meth.locks = false) (h17 : 0 < cn σ0 17) : ∀ (n : Nat) (σ : cS) (x1 : Int32) (x2 : Int32) (H : Heap) (locs : List Loc) (ls : Array Slot), cM D ca true A s.heap σ0 α σ α H locs → lv_has ls 3 [(0, cr α 5 (some 0)), (1, .int x1), (2, .int x2)] → fc_X5_wasSold_2 n σ x1 x2 = some o → W p l e rc_X5_wasSold s m args below meth c H locs 0 0 (MQ below (cQ false D ca true A α σ0 (fun _ => some (.int o.1)) o.2) args s 0 0 A) (F0 m 2 ls []) := by
  have hx := C.1
  have hb := C.2.1
  intro n
  induction n with
  | zero =>
    intro σ x1 x2 H locs ls hM hl h
    cases h
  | succ n ih =>
    intro σ x1 x2 H locs ls hM hl h
    rw [fc_X5_wasSold_2] at h
    refine lv_iload_n hx hb dX5_wasSold_2 rfl (lv_at hl 2 rfl) ?_
    refine c_aload_n (t := 5) (x := (some 0)) hx hb dX5_wasSold_3 rfl (lv_at hl 0 rfl) ?_
    refine c_getb C hM (k := 5) (f := 3) (j := 1) (t := 10) (hM.cst 5 0 rfl) (by decide) fl_X5_22 dX5_wasSold_4 ?_
    obtain ⟨r_1, hr_1, h⟩ := bd_of h
    refine c_go0 (c_rV (As := []) (rest := [.int x2]) C hM h17 (hM.cst 10 1 rfl) (by decide) (cc_Jx4a65c_size_8abf5 l D ca A α σ (some 1) _ hr_1) cw_X5_33 ⟨rfl, rfl⟩ ⟨Nat.le_of_ble_eq_true rfl, Nat.le_of_ble_eq_true rfl⟩ rfl rfl (cats_le _ (Nat.le_of_ble_eq_true rfl)) hl.1 dX5_wasSold_7 ⟨Nat.le_of_ble_eq_true rfl, Nat.le_of_ble_eq_true rfl⟩) hM (fun H locs hM => ?_)
    refine W_st (st' := [.int r_1.1, .int x2]) rfl ?_
    refine lv_icmp_ge (tgt := 39) hx hb dX5_wasSold_10 (by decide) (fun c_1 => ?_) (fun c_1 => ?_)
    · have h := br_T c_1 h
      refine lv_iconst (v := (0 : Int32)) hx hb dX5_wasSold_39 (by decide) ?_
      exact c_rz C hM (fun _ => rfl) hr hlk dX5_wasSold_40 h
    · have h := br_F c_1 h
      refine c_aload_n (t := 5) (x := (some 0)) hx hb dX5_wasSold_13 rfl (lv_at hl 0 rfl) ?_
      refine c_getb C hM (k := 5) (f := 3) (j := 1) (t := 10) (hM.cst 5 0 rfl) (by decide) fl_X5_22 dX5_wasSold_14 ?_
      refine lv_iload_n hx hb dX5_wasSold_17 rfl (lv_at hl 2 rfl) ?_
      obtain ⟨r_2, hr_2, h⟩ := bd_of h
      refine c_go0 (c_rV (As := [.int x2]) (rest := []) C hM h17 (hM.cst 10 1 rfl) (by decide) (cc_Jx4a65c_get_915e3 l D ca A α r_1.2 (some 1) x2 9 _ hr_2) cw_X5_37 ⟨rfl, rfl⟩ ⟨Nat.le_of_ble_eq_true rfl, Nat.le_of_ble_eq_true rfl⟩ rfl rfl (cats_le _ (Nat.le_of_ble_eq_true rfl)) hl.1 dX5_wasSold_18 ⟨Nat.le_of_ble_eq_true rfl, Nat.le_of_ble_eq_true rfl⟩) hM (fun H locs hM => ?_)
      refine W_st (st' := [cr α 9 r_2.1]) rfl ?_
      obtain ⟨c_2, h⟩ := ko_of h
      refine c_castk C hM (k := 9) (Classical.not_not.mp c_2) (by decide) kl_X5_41 dX5_wasSold_21 ?_
      obtain ⟨i_3, hd_3, h⟩ := bd_of h
      refine c_geti C hM (k := 9) (f := 0) hd_3 rfl fl_X5_43 dX5_wasSold_24 ?_
      refine lv_iload_n hx hb dX5_wasSold_27 rfl (lv_at hl 1 rfl) ?_
      refine lv_icmp_ne (tgt := 33) hx hb dX5_wasSold_28 (by decide) (fun c_3 => ?_) (fun c_3 => ?_)
      · have h := br_F c_3 h
        refine lv_iinc (v := (x2 + (1 : Int32))) (lv' := [(2, .int (x2 + (1 : Int32))), (0, cr α 5 (some 0)), (1, .int x1)]) hx hb dX5_wasSold_33 hl (k := 2) rfl rfl (by decide) rfl (fun ls hl => ?_)
        refine lv_goto (tgt := 2) hx hb dX5_wasSold_36 (by decide) ?_
        exact ih _ _ _ _ _ _ hM (lv_sub hl [1, 2, 0] rfl) h
      · have h := br_T c_3 h
        refine lv_iconst (v := (1 : Int32)) hx hb dX5_wasSold_31 (by decide) ?_
        exact c_rz C hM (fun _ => rfl) hr hlk dX5_wasSold_32 h
def fc_X5_wasSold (σ : cS) (x1 : Int32) : Option (Int32 × cS) :=
  fc_X5_wasSold_2 3000 σ x1 (0 : Int32)
set_option maxHeartbeats 4000000 in
set_option maxRecDepth 100000 in
theorem cc_X5_wasSold (l : Launch) (D : va_G) (ca : Nat → ClassId) (A : Nat → Prop) (α : cAl) (σ : cS) (x1 : Int32) (o : Int32 × cS) (h : fc_X5_wasSold σ x1 = some o) : cMet false l yX5_wasSold cX5_wasSold 3 ((some FieldType.boolean)) rc_X5_wasSold 0 0 D ca true A α σ [cr α 5 (some 0), .int x1] (fun _ => some (.int o.1)) o.2 := by
  refine Met.ofW (cc := cX5_wasSold) (maxL := 3) (ret := (some FieldType.boolean)) (by decide) rfl ?_
  intro p e s m args below meth c s₁ B hml hv
  obtain ⟨rfl, hP, hK, hD0, hSh, hA, hG⟩ := hv
  have C : cC p s m _ c cX5_wasSold 3 RX5 D ca A α := ⟨B.exec, B.bytes, hml, findClass_of_methodNamed B.named, fun w hw => atoms_spec (ws := mWs yX5_wasSold cX5_wasSold 3 ((some FieldType.boolean))) B.pre w (List.mem_cons_of_mem _ hw), hK, hG⟩
  have hM : cM D ca true A s.heap σ α σ α s.heap [] := ⟨hP, hD0, hSh, va_S.rf, hA, cX.rf⟩
  have h17 : 0 < cn σ 17 := c_17 hM
  have hr := B.returns
  have hlk := B.notSynchronized
  have hx := C.1
  have hb := C.2.1
  have hl := lv_entry ([cr α 5 (some 0), .int x1]) (n := 3) (Nat.le_of_ble_eq_true rfl)
  rw [lg_entry_eq]
  generalize (lg_sl ([cr α 5 (some 0), .int x1]) ++ List.replicate (3 - (lg_sl ([cr α 5 (some 0), .int x1])).length) Slot.unset).toArray = ls at hl ⊢
  have hl : lv_has ls 3 [(0, cr α 5 (some 0)), (1, .int x1)] := hl
  unfold fc_X5_wasSold at h
  refine lv_iconst (v := (0 : Int32)) hx hb dX5_wasSold_0 (by decide) ?_
  refine lv_istore_n (lv' := [(2, .int (0 : Int32)), (0, cr α 5 (some 0)), (1, .int x1)]) hx hb dX5_wasSold_1 rfl hl (by decide) rfl (fun ls hl => ?_)
  exact gc_X5_wasSold_2 C hr hlk h17  _ _ _ _ _ _ _ hM (lv_sub hl [1, 2, 0] rfl) h
/-! Lorewick.areOnOnePath(LLorewick$Node;LLorewick$Node;)Z -/
abbrev rc_X11_areOnOnePath : Room := { frames := 1, cells := 0, slots := 0, locals := 22 }
def fc_X11_areOnOnePath_21 (σ : cS) (s0 : Int32) : Option (Int32 × cS) :=
    if s0 &&& 1 = s0 then some (s0, σ) else none
set_option maxHeartbeats 4000000 in
set_option maxRecDepth 100000 in
theorem gc_X11_areOnOnePath_21 {p : Program} {l : Launch} {e : Env} {s : State} {m : MethodId} {args : Array Value} {below : List Frame} {meth : Method} {c : Code} {D : va_G} {ca : Nat → ClassId} {A : Nat → Prop} {σ0 : cS} {α : cAl} {o : Int32 × cS} (C : cC p s m args c cX11_areOnOnePath 2 RX11 D ca A α) (hr : meth.sig.returnType = (some FieldType.boolean)) (hlk : meth.locks = false) (h17 : 0 < cn σ0 17) : ∀ (σ : cS) (s0 : Int32) (H : Heap) (locs : List Loc) (ls : Array Slot), cM D ca true A s.heap σ0 α σ α H locs → lv_has ls 2 [] → fc_X11_areOnOnePath_21 σ s0 = some o → W p l e rc_X11_areOnOnePath s m args below meth c H locs 0 0 (MQ below (cQ false D ca true A α σ0 (fun _ => some (.int o.1)) o.2) args s 0 0 A) (F0 m 21 ls [.int s0]) := by
  have hx := C.1
  have hb := C.2.1
  intro σ s0 H locs ls hM hl h
  unfold fc_X11_areOnOnePath_21 at h
  exact c_rz C hM (fun _ => rfl) hr hlk dX11_areOnOnePath_21 h
def fc_X11_areOnOnePath_16 (σ : cS) : Option (Int32 × cS) :=
    fc_X11_areOnOnePath_21 σ (1 : Int32)
set_option maxHeartbeats 4000000 in
set_option maxRecDepth 100000 in
theorem gc_X11_areOnOnePath_16 {p : Program} {l : Launch} {e : Env} {s : State} {m : MethodId} {args : Array Value} {below : List Frame} {meth : Method} {c : Code} {D : va_G} {ca : Nat → ClassId} {A : Nat → Prop} {σ0 : cS} {α : cAl} {o : Int32 × cS} (C : cC p s m args c cX11_areOnOnePath 2 RX11 D ca A α) (hr : meth.sig.returnType = (some FieldType.boolean)) (hlk : meth.locks = false) (h17 : 0 < cn σ0 17) : ∀ (σ : cS) (H : Heap) (locs : List Loc) (ls : Array Slot), cM D ca true A s.heap σ0 α σ α H locs → lv_has ls 2 [] → fc_X11_areOnOnePath_16 σ = some o → W p l e rc_X11_areOnOnePath s m args below meth c H locs 0 0 (MQ below (cQ false D ca true A α σ0 (fun _ => some (.int o.1)) o.2) args s 0 0 A) (F0 m 16 ls []) := by
  have hx := C.1
  have hb := C.2.1
  intro σ H locs ls hM hl h
  unfold fc_X11_areOnOnePath_16 at h
  refine lv_iconst (v := (1 : Int32)) hx hb dX11_areOnOnePath_16 (by decide) ?_
  refine lv_goto (tgt := 21) hx hb dX11_areOnOnePath_17 (by decide) ?_
  exact gc_X11_areOnOnePath_21 C hr hlk h17  _ _ _ _ _ hM (lv_sub hl [] rfl) h
def fc_X11_areOnOnePath (σ : cS) (x0 : Option Nat) (x1 : Option Nat) : Option (Int32 × cS) :=
  (dr σ 7 x0).bind fun i_1 =>
  (fc_X2_isOnPathOf σ x0 x1).bind fun r_2 =>
  if r_2.1 = 0 then
    (dr r_2.2 7 x1).bind fun i_3 =>
    (fc_X2_isOnPathOf r_2.2 x1 x0).bind fun r_4 =>
    if r_4.1 = 0 then
      fc_X11_areOnOnePath_21 r_4.2 (0 : Int32)
    else
      fc_X11_areOnOnePath_16 r_4.2
  else
    fc_X11_areOnOnePath_16 r_2.2
set_option maxHeartbeats 4000000 in
set_option maxRecDepth 100000 in
theorem cc_X11_areOnOnePath (l : Launch) (D : va_G) (ca : Nat → ClassId) (A : Nat → Prop) (α : cAl) (σ : cS) (x0 : Option Nat) (x1 : Option Nat) (o : Int32 × cS) (h : fc_X11_areOnOnePath σ x0 x1 = some o) : cMet false l yX11_areOnOnePath cX11_areOnOnePath 2 ((some FieldType.boolean)) rc_X11_areOnOnePath 0 0 D ca true A α σ [cr α 7 x0, cr α 7 x1] (fun _ => some (.int o.1)) o.2 := by
  refine Met.ofW (cc := cX11_areOnOnePath) (maxL := 2) (ret := (some FieldType.boolean)) (by decide) rfl ?_
  intro p e s m args below meth c s₁ B hml hv
  obtain ⟨rfl, hP, hK, hD0, hSh, hA, hG⟩ := hv
  have C : cC p s m _ c cX11_areOnOnePath 2 RX11 D ca A α := ⟨B.exec, B.bytes, hml, findClass_of_methodNamed B.named, fun w hw => atoms_spec (ws := mWs yX11_areOnOnePath cX11_areOnOnePath 2 ((some FieldType.boolean))) B.pre w (List.mem_cons_of_mem _ hw), hK, hG⟩
  have hM : cM D ca true A s.heap σ α σ α s.heap [] := ⟨hP, hD0, hSh, va_S.rf, hA, cX.rf⟩
  have h17 : 0 < cn σ 17 := c_17 hM
  have hr := B.returns
  have hlk := B.notSynchronized
  have hx := C.1
  have hb := C.2.1
  have hl := lv_entry ([cr α 7 x0, cr α 7 x1]) (n := 2) (by simp [lg_r, lg_i, lg_l, lg_n])
  rw [lg_entry_eq]
  generalize (lg_sl ([cr α 7 x0, cr α 7 x1]) ++ List.replicate (2 - (lg_sl ([cr α 7 x0, cr α 7 x1])).length) Slot.unset).toArray = ls at hl ⊢
  have hl : lv_has ls 2 [(0, cr α 7 x0), (1, cr α 7 x1)] := (lv_to hl (by simp only [la_r, la_i, la_l, la_n]))
  unfold fc_X11_areOnOnePath at h
  refine c_aload_n (t := 7) (x := x0) hx hb dX11_areOnOnePath_0 rfl (lv_at hl 0 rfl) ?_
  refine c_aload_n (t := 7) (x := x1) hx hb dX11_areOnOnePath_1 rfl (lv_at hl 1 rfl) ?_
  obtain ⟨i_1, hd_1, h⟩ := bd_of h
  obtain ⟨r_2, hr_2, h⟩ := bd_of h
  refine c_go0 (c_rV (As := [cr α 7 x1]) (rest := []) C hM h17 hd_1 (by decide) (cc_X2_isOnPathOf l D ca A α σ x0 x1 _ hr_2) cw_X11_1 ⟨rfl, rfl⟩ ⟨Nat.le_of_ble_eq_true rfl, Nat.le_of_ble_eq_true rfl⟩ rfl rfl (cats_le _ (Nat.le_of_ble_eq_true rfl)) hl.1 dX11_areOnOnePath_2 ⟨Nat.le_of_ble_eq_true rfl, Nat.le_of_ble_eq_true rfl⟩) hM (fun H locs hM => ?_)
  refine W_st (st' := [.int r_2.1]) rfl ?_
  refine lv_if_ne (tgt := 16) hx hb dX11_areOnOnePath_5 (by decide) (fun c_1 => ?_) (fun c_1 => ?_)
  · have h := br_F c_1 h
    exact gc_X11_areOnOnePath_16 C hr hlk h17  _ _ _ _ hM (lv_sub hl [] rfl) h
  · have h := br_T c_1 h
    refine c_aload_n (t := 7) (x := x1) hx hb dX11_areOnOnePath_8 rfl (lv_at hl 1 rfl) ?_
    refine c_aload_n (t := 7) (x := x0) hx hb dX11_areOnOnePath_9 rfl (lv_at hl 0 rfl) ?_
    obtain ⟨i_3, hd_3, h⟩ := bd_of h
    obtain ⟨r_4, hr_4, h⟩ := bd_of h
    refine c_go0 (c_rV (As := [cr α 7 x0]) (rest := []) C hM h17 hd_3 (by decide) (cc_X2_isOnPathOf l D ca A α r_2.2 x1 x0 _ hr_4) cw_X11_1 ⟨rfl, rfl⟩ ⟨Nat.le_of_ble_eq_true rfl, Nat.le_of_ble_eq_true rfl⟩ rfl rfl (cats_le _ (Nat.le_of_ble_eq_true rfl)) hl.1 dX11_areOnOnePath_10 ⟨Nat.le_of_ble_eq_true rfl, Nat.le_of_ble_eq_true rfl⟩) hM (fun H locs hM => ?_)
    refine W_st (st' := [.int r_4.1]) rfl ?_
    refine lv_if_eq (tgt := 20) hx hb dX11_areOnOnePath_13 (by decide) (fun c_2 => ?_) (fun c_2 => ?_)
    · have h := br_T c_2 h
      refine lv_iconst (v := (0 : Int32)) hx hb dX11_areOnOnePath_20 (by decide) ?_
      exact gc_X11_areOnOnePath_21 C hr hlk h17  _ _ _ _ _ hM (lv_sub hl [] rfl) h
    · have h := br_F c_2 h
      exact gc_X11_areOnOnePath_16 C hr hlk h17  _ _ _ _ hM (lv_sub hl [] rfl) h
/-! Lorewick$Shop.isOwnedAt(ILLorewick$Node;)Z -/
abbrev rc_X5_isOwnedAt : Room := { frames := 4, cells := 0, slots := 0, locals := 102 }
def fc_X5_isOwnedAt_49 (k_2 : cS → Int32 → Option Nat → Int32 → Option (Int32 × cS)) (σ : cS) (x1 : Int32) (x2 : Option Nat) (x3 : Int32) : Option (Int32 × cS) :=
    k_2 σ x1 x2 (x3 + (1 : Int32))
set_option maxHeartbeats 4000000 in
set_option maxRecDepth 100000 in
theorem gc_X5_isOwnedAt_49 {p : Program} {l : Launch} {e : Env} {s : State} {m : MethodId} {args : Array Value} {below : List Frame} {meth : Method} {c : Code} {D : va_G} {ca : Nat → ClassId} {A : Nat → Prop} {σ0 : cS} {α : cAl} {o : Int32 × cS} {k_2 : cS → Int32 → Option Nat → Int32 → Option (Int32 × cS)} (C : cC p s m args c cX5_isOwnedAt 5 RX5 D ca A α) (hr : meth.sig.returnType = (some FieldType.boolean)) (hlk : meth.locks = false) (h17 : 0 < cn σ0 17) (hk_2 : ∀ (σ : cS) (x1 : Int32) (x2 : Option Nat) (x3 : Int32) (H : Heap) (locs : List Loc) (ls : Array Slot), cM D ca true A s.heap σ0 α σ α H locs → lv_has ls 5 [(0, cr α 5 (some 0)), (1, .int x1), (2, cr α 7 x2), (3, .int x3)] → k_2 σ x1 x2 x3 = some o → W p l e rc_X5_isOwnedAt s m args below meth c H locs 0 0 (MQ below (cQ false D ca true A α σ0 (fun _ => some (.int o.1)) o.2) args s 0 0 A) (F0 m 2 ls [])) : ∀ (σ : cS) (x1 : Int32) (x2 : Option Nat) (x3 : Int32) (H : Heap) (locs : List Loc) (ls : Array Slot), cM D ca true A s.heap σ0 α σ α H locs → lv_has ls 5 [(0, cr α 5 (some 0)), (1, .int x1), (2, cr α 7 x2), (3, .int x3)] → fc_X5_isOwnedAt_49 k_2 σ x1 x2 x3 = some o → W p l e rc_X5_isOwnedAt s m args below meth c H locs 0 0 (MQ below (cQ false D ca true A α σ0 (fun _ => some (.int o.1)) o.2) args s 0 0 A) (F0 m 49 ls []) := by
  have hx := C.1
  have hb := C.2.1
  intro σ x1 x2 x3 H locs ls hM hl h
  unfold fc_X5_isOwnedAt_49 at h
  refine lv_iinc (v := (x3 + (1 : Int32))) (lv' := [(3, .int (x3 + (1 : Int32))), (0, cr α 5 (some 0)), (1, .int x1), (2, cr α 7 x2)]) hx hb dX5_isOwnedAt_49 hl (k := 3) rfl rfl (by decide) (by first | rfl | (simp only [List.filter, cr_cat]; rfl)) (fun ls hl => ?_)
  refine lv_goto (tgt := 2) hx hb dX5_isOwnedAt_52 (by decide) ?_
  exact hk_2 _ _ _ _ _ _ _ hM (lv_sub hl [1, 2, 3, 0] rfl) h
def fc_X5_isOwnedAt_2 : Nat → cS → Int32 → Option Nat → Int32 → Option (Int32 × cS)
  | 0, _, _, _, _ => none
  | n + 1, σ, x1, x2, x3 =>
    (fc_Jx4a65c_size_8abf5 σ (some 1)).bind fun r_1 =>
    if r_1.1 ≤ x3 then
      if (0 : Int32) &&& 1 = (0 : Int32) then some ((0 : Int32), r_1.2) else none
    else
      (fc_Jx4a65c_get_915e3 r_1.2 (some 1) x3 9).bind fun r_2 =>
      if ¬ (lvq r_2.2 9 r_2.1 = true) then none else
      (dr r_2.2 9 r_2.1).bind fun i_3 =>
      if (cI r_2.2 9 i_3 0) = x1 then
        (fc_X11_areOnOnePath r_2.2 (cR r_2.2 9 i_3 1) x2).bind fun r_4 =>
        if r_4.1 = 0 then
          fc_X5_isOwnedAt_49 (fc_X5_isOwnedAt_2 n) r_4.2 x1 x2 x3
        else
          if (1 : Int32) &&& 1 = (1 : Int32) then some ((1 : Int32), r_4.2) else none
      else
        fc_X5_isOwnedAt_49 (fc_X5_isOwnedAt_2 n) r_2.2 x1 x2 x3
set_option maxHeartbeats 4000000 in
set_option maxRecDepth 100000 in
theorem gc_X5_isOwnedAt_2 {p : Program} {l : Launch} {e : Env} {s : State} {m : MethodId} {args : Array Value} {below : List Frame} {meth : Method} {c : Code} {D : va_G} {ca : Nat → ClassId} {A : Nat → Prop} {σ0 : cS} {α : cAl} {o : Int32 × cS} (C : cC p s m args c cX5_isOwnedAt 5 RX5 D ca A α) (hr : meth.sig.returnType = (some FieldType.boolean)) (hlk : meth.locks = false) (h17 : 0 < cn σ0 17) : ∀ (n : Nat) (σ : cS) (x1 : Int32) (x2 : Option Nat) (x3 : Int32) (H : Heap) (locs : List Loc) (ls : Array Slot), cM D ca true A s.heap σ0 α σ α H locs → lv_has ls 5 [(0, cr α 5 (some 0)), (1, .int x1), (2, cr α 7 x2), (3, .int x3)] → fc_X5_isOwnedAt_2 n σ x1 x2 x3 = some o → W p l e rc_X5_isOwnedAt s m args below meth c H locs 0 0 (MQ below (cQ false D ca true A α σ0 (fun _ => some (.int o.1)) o.2) args s 0 0 A) (F0 m 2 ls []) := by
  have hx := C.1
  have hb := C.2.1
  intro n
  induction n with
  | zero =>
    intro σ x1 x2 x3 H locs ls hM hl h
    cases h
  | succ n ih =>
    intro σ x1 x2 x3 H locs ls hM hl h
    rw [fc_X5_isOwnedAt_2] at h
    refine lv_iload_n hx hb dX5_isOwnedAt_2 rfl (lv_at hl 3 rfl) ?_
    refine c_aload_n (t := 5) (x := (some 0)) hx hb dX5_isOwnedAt_3 rfl (lv_at hl 0 rfl) ?_
    refine c_getb C hM (k := 5) (f := 3) (j := 1) (t := 10) (hM.cst 5 0 rfl) (by decide) fl_X5_22 dX5_isOwnedAt_4 ?_
    obtain ⟨r_1, hr_1, h⟩ := bd_of h
    refine c_go0 (c_rV (As := []) (rest := [.int x3]) C hM h17 (hM.cst 10 1 rfl) (by decide) (cc_Jx4a65c_size_8abf5 l D ca A α σ (some 1) _ hr_1) cw_X5_33 ⟨rfl, rfl⟩ ⟨Nat.le_of_ble_eq_true rfl, Nat.le_of_ble_eq_true rfl⟩ rfl rfl (cats_le _ (Nat.le_of_ble_eq_true rfl)) hl.1 dX5_isOwnedAt_7 ⟨Nat.le_of_ble_eq_true rfl, Nat.le_of_ble_eq_true rfl⟩) hM (fun H locs hM => ?_)
    refine W_st (st' := [.int r_1.1, .int x3]) rfl ?_
    refine lv_icmp_ge (tgt := 55) hx hb dX5_isOwnedAt_10 (by decide) (fun c_1 => ?_) (fun c_1 => ?_)
    · have h := br_T c_1 h
      refine lv_iconst (v := (0 : Int32)) hx hb dX5_isOwnedAt_55 (by decide) ?_
      exact c_rz C hM (fun _ => rfl) hr hlk dX5_isOwnedAt_56 h
    · have h := br_F c_1 h
      refine c_aload_n (t := 5) (x := (some 0)) hx hb dX5_isOwnedAt_13 rfl (lv_at hl 0 rfl) ?_
      refine c_getb C hM (k := 5) (f := 3) (j := 1) (t := 10) (hM.cst 5 0 rfl) (by decide) fl_X5_22 dX5_isOwnedAt_14 ?_
      refine lv_iload_n hx hb dX5_isOwnedAt_17 rfl (lv_at hl 3 rfl) ?_
      obtain ⟨r_2, hr_2, h⟩ := bd_of h
      refine c_go0 (c_rV (As := [.int x3]) (rest := []) C hM h17 (hM.cst 10 1 rfl) (by decide) (cc_Jx4a65c_get_915e3 l D ca A α r_1.2 (some 1) x3 9 _ hr_2) cw_X5_37 ⟨rfl, rfl⟩ ⟨Nat.le_of_ble_eq_true rfl, Nat.le_of_ble_eq_true rfl⟩ rfl rfl (cats_le _ (Nat.le_of_ble_eq_true rfl)) hl.1 dX5_isOwnedAt_18 ⟨Nat.le_of_ble_eq_true rfl, Nat.le_of_ble_eq_true rfl⟩) hM (fun H locs hM => ?_)
      refine W_st (st' := [cr α 9 r_2.1]) rfl ?_
      obtain ⟨c_2, h⟩ := ko_of h
      refine c_castk C hM (k := 9) (Classical.not_not.mp c_2) (by decide) kl_X5_41 dX5_isOwnedAt_21 ?_
      refine c_astore (t := 9) (x := r_2.1) (lv' := [(4, cr α 9 r_2.1), (0, cr α 5 (some 0)), (1, .int x1), (2, cr α 7 x2), (3, .int x3)]) hx hb dX5_isOwnedAt_24 hl (by decide) rfl (fun ls hl => ?_)
      refine c_aload (t := 9) (x := r_2.1) hx hb dX5_isOwnedAt_26 (lv_at hl 0 rfl) ?_
      obtain ⟨i_3, hd_3, h⟩ := bd_of h
      refine c_geti C hM (k := 9) (f := 0) hd_3 rfl fl_X5_43 dX5_isOwnedAt_28 ?_
      refine lv_iload_n hx hb dX5_isOwnedAt_31 rfl (lv_at hl 2 rfl) ?_
      refine lv_icmp_ne (tgt := 49) hx hb dX5_isOwnedAt_32 (by decide) (fun c_3 => ?_) (fun c_3 => ?_)
      · have h := br_F c_3 h
        exact gc_X5_isOwnedAt_49 C hr hlk h17 ih _ _ _ _ _ _ _ hM (lv_sub hl [1, 2, 3, 4] rfl) h
      · have h := br_T c_3 h
        refine c_aload (t := 9) (x := r_2.1) hx hb dX5_isOwnedAt_35 (lv_at hl 0 rfl) ?_
        refine c_getrt C hM (k := 9) (f := 1) (t := 7) hd_3 (by decide) fl_X5_46 dX5_isOwnedAt_37 ?_
        refine c_aload_n (t := 7) (x := x2) hx hb dX5_isOwnedAt_40 rfl (lv_at hl 3 rfl) ?_
        obtain ⟨r_4, hr_4, h⟩ := bd_of h
        refine c_go0 (c_rSN (As := [cr α 7 (cR r_2.2 9 i_3 1), cr α 7 x2]) (rest := []) C hM h17 (cc_X11_areOnOnePath l D ca A α r_2.2 (cR r_2.2 9 i_3 1) x2 _ hr_4) cw_X5_50 (wl_in (i := 506) (by decide +kernel)) ⟨rfl, rfl⟩ ⟨Nat.le_of_ble_eq_true rfl, Nat.le_of_ble_eq_true rfl⟩ rfl rfl (cats_le _ (Nat.le_of_ble_eq_true rfl)) hl.1 dX5_isOwnedAt_41 ⟨Nat.le_of_ble_eq_true rfl, Nat.le_of_ble_eq_true rfl⟩) hM (fun H locs hM => ?_)
        refine W_st (st' := [.int r_4.1]) rfl ?_
        refine lv_if_eq (tgt := 49) hx hb dX5_isOwnedAt_44 (by decide) (fun c_4 => ?_) (fun c_4 => ?_)
        · have h := br_T c_4 h
          exact gc_X5_isOwnedAt_49 C hr hlk h17 ih _ _ _ _ _ _ _ hM (lv_sub hl [1, 2, 3, 4] rfl) h
        · have h := br_F c_4 h
          refine lv_iconst (v := (1 : Int32)) hx hb dX5_isOwnedAt_47 (by decide) ?_
          exact c_rz C hM (fun _ => rfl) hr hlk dX5_isOwnedAt_48 h
def fc_X5_isOwnedAt (σ : cS) (x1 : Int32) (x2 : Option Nat) : Option (Int32 × cS) :=
  fc_X5_isOwnedAt_2 3000 σ x1 x2 (0 : Int32)
set_option maxHeartbeats 4000000 in
set_option maxRecDepth 100000 in
theorem cc_X5_isOwnedAt (l : Launch) (D : va_G) (ca : Nat → ClassId) (A : Nat → Prop) (α : cAl) (σ : cS) (x1 : Int32) (x2 : Option Nat) (o : Int32 × cS) (h : fc_X5_isOwnedAt σ x1 x2 = some o) : cMet false l yX5_isOwnedAt cX5_isOwnedAt 5 ((some FieldType.boolean)) rc_X5_isOwnedAt 0 0 D ca true A α σ [cr α 5 (some 0), .int x1, cr α 7 x2] (fun _ => some (.int o.1)) o.2 := by
  refine Met.ofW (cc := cX5_isOwnedAt) (maxL := 5) (ret := (some FieldType.boolean)) (by decide) rfl ?_
  intro p e s m args below meth c s₁ B hml hv
  obtain ⟨rfl, hP, hK, hD0, hSh, hA, hG⟩ := hv
  have C : cC p s m _ c cX5_isOwnedAt 5 RX5 D ca A α := ⟨B.exec, B.bytes, hml, findClass_of_methodNamed B.named, fun w hw => atoms_spec (ws := mWs yX5_isOwnedAt cX5_isOwnedAt 5 ((some FieldType.boolean))) B.pre w (List.mem_cons_of_mem _ hw), hK, hG⟩
  have hM : cM D ca true A s.heap σ α σ α s.heap [] := ⟨hP, hD0, hSh, va_S.rf, hA, cX.rf⟩
  have h17 : 0 < cn σ 17 := c_17 hM
  have hr := B.returns
  have hlk := B.notSynchronized
  have hx := C.1
  have hb := C.2.1
  have hl := lv_entry ([cr α 5 (some 0), .int x1, cr α 7 x2]) (n := 5) (by simp [lg_r, lg_i, lg_l, lg_n])
  rw [lg_entry_eq]
  generalize (lg_sl ([cr α 5 (some 0), .int x1, cr α 7 x2]) ++ List.replicate (5 - (lg_sl ([cr α 5 (some 0), .int x1, cr α 7 x2])).length) Slot.unset).toArray = ls at hl ⊢
  have hl : lv_has ls 5 [(0, cr α 5 (some 0)), (1, .int x1), (2, cr α 7 x2)] := (lv_to hl (by simp only [la_r, la_i, la_l, la_n]))
  unfold fc_X5_isOwnedAt at h
  refine lv_iconst (v := (0 : Int32)) hx hb dX5_isOwnedAt_0 (by decide) ?_
  refine lv_istore_n (lv' := [(3, .int (0 : Int32)), (0, cr α 5 (some 0)), (1, .int x1), (2, cr α 7 x2)]) hx hb dX5_isOwnedAt_1 rfl hl (by decide) (by first | rfl | (simp only [List.filter, cr_cat]; rfl)) (fun ls hl => ?_)
  exact gc_X5_isOwnedAt_2 C hr hlk h17  _ _ _ _ _ _ _ _ hM (lv_sub hl [1, 2, 3, 0] rfl) h
/-! Lorewick$Tree.nodesShowing(J)I -/
abbrev rc_X8_nodesShowing : Room := { frames := 4, cells := 0, slots := 0, locals := 102 }
def fc_X8_nodesShowing_42 (k_5 : cS → Int64 → Int32 → Int32 → Option (Int32 × cS)) (σ : cS) (x1 : Int64) (x3 : Int32) (x4 : Int32) : Option (Int32 × cS) :=
    k_5 σ x1 x3 (x4 + (1 : Int32))
set_option maxHeartbeats 4000000 in
set_option maxRecDepth 100000 in
theorem gc_X8_nodesShowing_42 {p : Program} {l : Launch} {e : Env} {s : State} {m : MethodId} {args : Array Value} {below : List Frame} {meth : Method} {c : Code} {D : va_G} {ca : Nat → ClassId} {A : Nat → Prop} {σ0 : cS} {α : cAl} {o : Int32 × cS} {k_5 : cS → Int64 → Int32 → Int32 → Option (Int32 × cS)} (C : cC p s m args c cX8_nodesShowing 5 RX8 D ca A α) (hr : meth.sig.returnType = (some FieldType.int)) (hlk : meth.locks = false) (h17 : 0 < cn σ0 17) (hk_5 : ∀ (σ : cS) (x1 : Int64) (x3 : Int32) (x4 : Int32) (H : Heap) (locs : List Loc) (ls : Array Slot), cM D ca true A s.heap σ0 α σ α H locs → lv_has ls 5 [(0, cr α 4 (some 0)), (1, .long x1), (3, .int x3), (4, .int x4)] → k_5 σ x1 x3 x4 = some o → W p l e rc_X8_nodesShowing s m args below meth c H locs 0 0 (MQ below (cQ false D ca true A α σ0 (fun _ => some (.int o.1)) o.2) args s 0 0 A) (F0 m 5 ls [])) : ∀ (σ : cS) (x1 : Int64) (x3 : Int32) (x4 : Int32) (H : Heap) (locs : List Loc) (ls : Array Slot), cM D ca true A s.heap σ0 α σ α H locs → lv_has ls 5 [(0, cr α 4 (some 0)), (1, .long x1), (3, .int x3), (4, .int x4)] → fc_X8_nodesShowing_42 k_5 σ x1 x3 x4 = some o → W p l e rc_X8_nodesShowing s m args below meth c H locs 0 0 (MQ below (cQ false D ca true A α σ0 (fun _ => some (.int o.1)) o.2) args s 0 0 A) (F0 m 42 ls []) := by
  have hx := C.1
  have hb := C.2.1
  intro σ x1 x3 x4 H locs ls hM hl h
  unfold fc_X8_nodesShowing_42 at h
  refine lv_iinc (v := (x4 + (1 : Int32))) (lv' := [(4, .int (x4 + (1 : Int32))), (0, cr α 4 (some 0)), (1, .long x1), (3, .int x3)]) hx hb dX8_nodesShowing_42 hl (k := 3) rfl rfl (by decide) rfl (fun ls hl => ?_)
  refine lv_goto (tgt := 5) hx hb dX8_nodesShowing_45 (by decide) ?_
  exact hk_5 _ _ _ _ _ _ _ hM (lv_sub hl [1, 2, 3, 0] rfl) h
def fc_X8_nodesShowing_5 : Nat → cS → Int64 → Int32 → Int32 → Option (Int32 × cS)
  | 0, _, _, _, _ => none
  | n + 1, σ, x1, x3, x4 =>
    (fc_Jx4a65c_size_8abf5 σ (some 0)).bind fun r_1 =>
    if r_1.1 ≤ x4 then
      some (x3, r_1.2)
    else
      (fc_Jx4a65c_get_915e3 r_1.2 (some 0) x4 7).bind fun r_2 =>
      if ¬ (lvq r_2.2 7 r_2.1 = true) then none else
      (dr r_2.2 7 r_2.1).bind fun i_3 =>
      if (lg_cmp ((cJ r_2.2 7 i_3 4) &&& x1) (0 : Int64)) = 0 then
        fc_X8_nodesShowing_42 (fc_X8_nodesShowing_5 n) r_2.2 x1 x3 x4
      else
        fc_X8_nodesShowing_42 (fc_X8_nodesShowing_5 n) r_2.2 x1 (x3 + (1 : Int32)) x4
set_option maxHeartbeats 4000000 in
set_option maxRecDepth 100000 in
theorem gc_X8_nodesShowing_5 {p : Program} {l : Launch} {e : Env} {s : State} {m : MethodId} {args : Array Value} {below : List Frame} {meth : Method} {c : Code} {D : va_G} {ca : Nat → ClassId} {A : Nat → Prop} {σ0 : cS} {α : cAl} {o : Int32 × cS} (C : cC p s m args c cX8_nodesShowing 5 RX8 D ca A α) (hr : meth.sig.returnType = (some FieldType.int)) (hlk : meth.locks = false) (h17 : 0 < cn σ0 17) : ∀ (n : Nat) (σ : cS) (x1 : Int64) (x3 : Int32) (x4 : Int32) (H : Heap) (locs : List Loc) (ls : Array Slot), cM D ca true A s.heap σ0 α σ α H locs → lv_has ls 5 [(0, cr α 4 (some 0)), (1, .long x1), (3, .int x3), (4, .int x4)] → fc_X8_nodesShowing_5 n σ x1 x3 x4 = some o → W p l e rc_X8_nodesShowing s m args below meth c H locs 0 0 (MQ below (cQ false D ca true A α σ0 (fun _ => some (.int o.1)) o.2) args s 0 0 A) (F0 m 5 ls []) := by
  have hx := C.1
  have hb := C.2.1
  intro n
  induction n with
  | zero =>
    intro σ x1 x3 x4 H locs ls hM hl h
    cases h
  | succ n ih =>
    intro σ x1 x3 x4 H locs ls hM hl h
    rw [fc_X8_nodesShowing_5] at h
    refine lv_iload hx hb dX8_nodesShowing_5 (lv_at hl 3 rfl) ?_
    refine c_aload_n (t := 4) (x := (some 0)) hx hb dX8_nodesShowing_7 rfl (lv_at hl 0 rfl) ?_
    refine c_getb C hM (k := 4) (f := 0) (j := 0) (t := 10) (hM.cst 4 0 rfl) (by decide) fl_X8_12 dX8_nodesShowing_8 ?_
    obtain ⟨r_1, hr_1, h⟩ := bd_of h
    refine c_go0 (c_rV (As := []) (rest := [.int x4]) C hM h17 (hM.cst 10 0 rfl) (by decide) (cc_Jx4a65c_size_8abf5 l D ca A α σ (some 0) _ hr_1) cw_X8_26 ⟨rfl, rfl⟩ ⟨Nat.le_of_ble_eq_true rfl, Nat.le_of_ble_eq_true rfl⟩ rfl rfl (cats_le _ (Nat.le_of_ble_eq_true rfl)) hl.1 dX8_nodesShowing_11 ⟨Nat.le_of_ble_eq_true rfl, Nat.le_of_ble_eq_true rfl⟩) hM (fun H locs hM => ?_)
    refine W_st (st' := [.int r_1.1, .int x4]) rfl ?_
    refine lv_icmp_ge (tgt := 48) hx hb dX8_nodesShowing_14 (by decide) (fun c_1 => ?_) (fun c_1 => ?_)
    · have h := br_T c_1 h
      refine lv_iload_n hx hb dX8_nodesShowing_48 rfl (lv_at hl 2 rfl) ?_
      exact c_ri C hM (fun _ => rfl) hr hlk dX8_nodesShowing_49 h
    · have h := br_F c_1 h
      refine c_aload_n (t := 4) (x := (some 0)) hx hb dX8_nodesShowing_17 rfl (lv_at hl 0 rfl) ?_
      refine c_getb C hM (k := 4) (f := 0) (j := 0) (t := 10) (hM.cst 4 0 rfl) (by decide) fl_X8_12 dX8_nodesShowing_18 ?_
      refine lv_iload hx hb dX8_nodesShowing_21 (lv_at hl 3 rfl) ?_
      obtain ⟨r_2, hr_2, h⟩ := bd_of h
      refine c_go0 (c_rV (As := [.int x4]) (rest := []) C hM h17 (hM.cst 10 0 rfl) (by decide) (cc_Jx4a65c_get_915e3 l D ca A α r_1.2 (some 0) x4 7 _ hr_2) cw_X8_34 ⟨rfl, rfl⟩ ⟨Nat.le_of_ble_eq_true rfl, Nat.le_of_ble_eq_true rfl⟩ rfl rfl (cats_le _ (Nat.le_of_ble_eq_true rfl)) hl.1 dX8_nodesShowing_23 ⟨Nat.le_of_ble_eq_true rfl, Nat.le_of_ble_eq_true rfl⟩) hM (fun H locs hM => ?_)
      refine W_st (st' := [cr α 7 r_2.1]) rfl ?_
      obtain ⟨c_2, h⟩ := ko_of h
      refine c_castk C hM (k := 7) (Classical.not_not.mp c_2) (by decide) kl_X8_38 dX8_nodesShowing_26 ?_
      obtain ⟨i_3, hd_3, h⟩ := bd_of h
      refine c_getl C hM (k := 7) (f := 4) hd_3 rfl fl_X8_73 dX8_nodesShowing_29 ?_
      refine lv_lload_n hx hb dX8_nodesShowing_32 rfl (lv_at hl 1 rfl) ?_
      refine lv_land hx hb dX8_nodesShowing_33 ?_
      refine lv_lconst (v := (0 : Int64)) hx hb dX8_nodesShowing_34 (by decide) ?_
      refine W.lcmp hx hb dX8_nodesShowing_35 ?_
      refine lv_if_eq (tgt := 42) hx hb dX8_nodesShowing_36 (by decide) (fun c_3 => ?_) (fun c_3 => ?_)
      · have h := br_T c_3 h
        exact gc_X8_nodesShowing_42 C hr hlk h17 ih _ _ _ _ _ _ _ hM (lv_sub hl [0, 1, 2, 3] rfl) h
      · have h := br_F c_3 h
        refine lv_iinc (v := (x3 + (1 : Int32))) (lv' := [(3, .int (x3 + (1 : Int32))), (0, cr α 4 (some 0)), (1, .long x1), (4, .int x4)]) hx hb dX8_nodesShowing_39 hl (k := 2) rfl rfl (by decide) rfl (fun ls hl => ?_)
        exact gc_X8_nodesShowing_42 C hr hlk h17 ih _ _ _ _ _ _ _ hM (lv_sub hl [1, 2, 0, 3] rfl) h
def fc_X8_nodesShowing (σ : cS) (x1 : Int64) : Option (Int32 × cS) :=
  fc_X8_nodesShowing_5 3000 σ x1 (0 : Int32) (0 : Int32)
set_option maxHeartbeats 4000000 in
set_option maxRecDepth 100000 in
theorem cc_X8_nodesShowing (l : Launch) (D : va_G) (ca : Nat → ClassId) (A : Nat → Prop) (α : cAl) (σ : cS) (x1 : Int64) (o : Int32 × cS) (h : fc_X8_nodesShowing σ x1 = some o) : cMet false l yX8_nodesShowing cX8_nodesShowing 5 ((some FieldType.int)) rc_X8_nodesShowing 0 0 D ca true A α σ [cr α 4 (some 0), .long x1] (fun _ => some (.int o.1)) o.2 := by
  refine Met.ofW (cc := cX8_nodesShowing) (maxL := 5) (ret := (some FieldType.int)) (by decide) rfl ?_
  intro p e s m args below meth c s₁ B hml hv
  obtain ⟨rfl, hP, hK, hD0, hSh, hA, hG⟩ := hv
  have C : cC p s m _ c cX8_nodesShowing 5 RX8 D ca A α := ⟨B.exec, B.bytes, hml, findClass_of_methodNamed B.named, fun w hw => atoms_spec (ws := mWs yX8_nodesShowing cX8_nodesShowing 5 ((some FieldType.int))) B.pre w (List.mem_cons_of_mem _ hw), hK, hG⟩
  have hM : cM D ca true A s.heap σ α σ α s.heap [] := ⟨hP, hD0, hSh, va_S.rf, hA, cX.rf⟩
  have h17 : 0 < cn σ 17 := c_17 hM
  have hr := B.returns
  have hlk := B.notSynchronized
  have hx := C.1
  have hb := C.2.1
  have hl := lv_entry ([cr α 4 (some 0), .long x1]) (n := 5) (Nat.le_of_ble_eq_true rfl)
  rw [lg_entry_eq]
  generalize (lg_sl ([cr α 4 (some 0), .long x1]) ++ List.replicate (5 - (lg_sl ([cr α 4 (some 0), .long x1])).length) Slot.unset).toArray = ls at hl ⊢
  have hl : lv_has ls 5 [(0, cr α 4 (some 0)), (1, .long x1)] := hl
  unfold fc_X8_nodesShowing at h
  refine lv_iconst (v := (0 : Int32)) hx hb dX8_nodesShowing_0 (by decide) ?_
  refine lv_istore_n (lv' := [(3, .int (0 : Int32)), (0, cr α 4 (some 0)), (1, .long x1)]) hx hb dX8_nodesShowing_1 rfl hl (by decide) rfl (fun ls hl => ?_)
  refine lv_iconst (v := (0 : Int32)) hx hb dX8_nodesShowing_2 (by decide) ?_
  refine lv_istore (lv' := [(4, .int (0 : Int32)), (3, .int (0 : Int32)), (0, cr α 4 (some 0)), (1, .long x1)]) hx hb dX8_nodesShowing_3 hl (by decide) rfl (fun ls hl => ?_)
  exact gc_X8_nodesShowing_5 C hr hlk h17  _ _ _ _ _ _ _ _ hM (lv_sub hl [2, 3, 1, 0] rfl) h
