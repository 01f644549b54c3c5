/-! Texts that are built: S with room to grow, Z without. -/
theorem fl_J6_83 : Cond.fieldLink RJ6 83 "java/lang/Integer" "DigitOnes" "[B" ∈ wl := wl_in (i := 1648) (by decide +kernel)
theorem fl_J6_87 : Cond.fieldLink RJ6 87 "java/lang/Integer" "DigitTens" "[B" ∈ wl := wl_in (i := 1650) (by decide +kernel)
theorem fl_J5_18 : Cond.fieldLink RJ5 18 "java/lang/String" "COMPACT_STRINGS" "Z" ∈ wl := wl_in (i := 294) (by decide +kernel)
theorem fl_J5_22 : Cond.fieldLink RJ5 22 (cTt 11 1).1 (cTt 11 1).2.1 (cTt 11 1).2.2.1 ∈ wl := wl_in (i := 304) (by decide +kernel)
theorem fl_J5_79 : Cond.fieldLink RJ5 79 (cTt 11 3).1 (cTt 11 3).2.1 (cTt 11 3).2.2.1 ∈ wl := wl_in (i := 307) (by decide +kernel)
theorem fl_J5_15 : Cond.fieldLink RJ5 15 (cTt 11 0).1 (cTt 11 0).2.1 (cTt 11 0).2.2.1 ∈ wl := wl_in (i := 303) (by decide +kernel)
theorem cw_J5_144 : mCallS RJ5 144 yJ0_checkIndex_df160 cJ0_checkIndex_df160 2 ((none : Option FieldType)) 2 := ⟨⟨wl_in (i := 1795) (by decide +kernel), wl_in (i := 1114) (by decide +kernel), wl_in (i := 14) (by decide +kernel), wl_in (i := 1115) (by decide +kernel)⟩, by decide, by decide, by decide +kernel⟩
theorem cw_J5_114 : mCallS RJ5 114 yJ8_newLength_cabcc cJ8_newLength_cabcc 4 ((some FieldType.int)) 3 := ⟨⟨wl_in (i := 1577) (by decide +kernel), wl_in (i := 1024) (by decide +kernel), wl_in (i := 36) (by decide +kernel), wl_in (i := 1025) (by decide +kernel)⟩, by decide, by decide, by decide +kernel⟩
theorem cw_J5_40 : cCallV RJ5 40 "java/lang/String" yJ0_coder_7d493 cJ0_coder_7d493 1 ((some FieldType.byte)) 0 := ⟨⟨wl_in (i := 1609) (by decide +kernel), wl_in (i := 773) (by decide +kernel), wl_in (i := 774) (by decide +kernel), wl_in (i := 14) (by decide +kernel), wl_in (i := 775) (by decide +kernel)⟩, rfl, by decide, by decide, by decide +kernel⟩
theorem cw_J5_397 : cCallU RJ5 397 yJ5_inflateIfNeededFor_a7421 cJ5_inflateIfNeededFor_a7421 2 ((none : Option FieldType)) 1 := ⟨⟨wl_in (i := 1605) (by decide +kernel), wl_in (i := 2432) (by decide +kernel), wl_ins (i := 3) (by decide +kernel), wl_in (i := 1607) (by decide +kernel), wl_in (i := 12) (by decide +kernel), wl_in (i := 1608) (by decide +kernel)⟩, by decide, by decide, by decide +kernel⟩
theorem cw_J5_399 : cCallV RJ5 399 "java/lang/String" yJ0_getBytes_840e7 cJ0_getBytes_840e7 4 ((none : Option FieldType)) 3 := ⟨⟨wl_in (i := 1629) (by decide +kernel), wl_in (i := 1630) (by decide +kernel), wl_in (i := 1631) (by decide +kernel), wl_in (i := 14) (by decide +kernel), wl_in (i := 1632) (by decide +kernel)⟩, rfl, by decide, by decide, by decide +kernel⟩
theorem cw_J4_343 : cCallSU RJ4 343 yJ5_length_8abf5 cJ5_length_8abf5 1 ((some FieldType.int)) 0 := ⟨⟨wl_in (i := 1683) (by decide +kernel), wl_in (i := 1679) (by decide +kernel), wl_in (i := 316) (by decide +kernel), wl_in (i := 1678) (by decide +kernel), wl_in (i := 12) (by decide +kernel), wl_in (i := 1684) (by decide +kernel)⟩, by decide, by decide +kernel⟩
theorem cw_J4_329 : cCallSU RJ4 329 yJ5_charAt_5068e cJ5_charAt_5068e 5 ((some FieldType.char)) 1 := ⟨⟨wl_in (i := 1791) (by decide +kernel), wl_in (i := 2437) (by decide +kernel), wl_in (i := 316) (by decide +kernel), wl_in (i := 1792) (by decide +kernel), wl_in (i := 12) (by decide +kernel), wl_in (i := 1793) (by decide +kernel)⟩, by decide, by decide +kernel⟩
theorem cw_J5_104 : cCallU RJ5 104 yJ5_newCapacity_0f7a4 cJ5_newCapacity_0f7a4 6 ((some FieldType.int)) 1 := ⟨⟨wl_in (i := 1573) (by decide +kernel), wl_in (i := 2430) (by decide +kernel), wl_ins (i := 1) (by decide +kernel), wl_in (i := 1575) (by decide +kernel), wl_in (i := 12) (by decide +kernel), wl_in (i := 1576) (by decide +kernel)⟩, by decide, by decide, by decide +kernel⟩
theorem cw_J5_108 : mCallS RJ5 108 yJ7_copyOf_9075b cJ7_copyOf_9075b 3 ((some (FieldType.array FieldType.byte))) 2 := ⟨⟨wl_in (i := 1579) (by decide +kernel), wl_in (i := 1580) (by decide +kernel), wl_in (i := 4) (by decide +kernel), wl_in (i := 1581) (by decide +kernel)⟩, by decide, by decide, by decide +kernel⟩
theorem cw_J5_100 : cCallU RJ5 100 yJ5_ensureCapacityInternal_d00df cJ5_ensureCapacityInternal_d00df 3 ((none : Option FieldType)) 1 := ⟨⟨wl_in (i := 1569) (by decide +kernel), wl_in (i := 2429) (by decide +kernel), wl_ins (i := 0) (by decide +kernel), wl_in (i := 1571) (by decide +kernel), wl_in (i := 12) (by decide +kernel), wl_in (i := 1572) (by decide +kernel)⟩, by decide, by decide, by decide +kernel⟩
theorem fl_J5_73 : Cond.fieldLink RJ5 73 (cTt 11 2).1 (cTt 11 2).2.1 (cTt 11 2).2.2.1 ∈ wl := wl_in (i := 305) (by decide +kernel)
theorem cw_J5_32 : cCallV RJ5 32 "java/lang/String" yJ0_length_8abf5 cJ0_length_8abf5 1 ((some FieldType.int)) 0 := ⟨⟨wl_in (i := 1600) (by decide +kernel), wl_in (i := 769) (by decide +kernel), wl_in (i := 770) (by decide +kernel), wl_in (i := 14) (by decide +kernel), wl_in (i := 771) (by decide +kernel)⟩, rfl, by decide, by decide, by decide +kernel⟩
theorem cw_J5_208 : cCallU RJ5 208 yJ5_putStringAt_47b60 cJ5_putStringAt_47b60 3 ((none : Option FieldType)) 2 := ⟨⟨wl_in (i := 1601) (by decide +kernel), wl_in (i := 2431) (by decide +kernel), wl_ins (i := 2) (by decide +kernel), wl_in (i := 1603) (by decide +kernel), wl_in (i := 12) (by decide +kernel), wl_in (i := 1604) (by decide +kernel)⟩, by decide, by decide, by decide +kernel⟩
theorem cw_J5_83 : cCallU RJ5 83 yJ5_isLatin1_aae02 cJ5_isLatin1_aae02 1 ((some FieldType.boolean)) 0 := ⟨⟨wl_in (i := 1589) (by decide +kernel), wl_in (i := 1591) (by decide +kernel), wl_in (i := 1592) (by decide +kernel), wl_in (i := 1590) (by decide +kernel), wl_in (i := 12) (by decide +kernel), wl_in (i := 1593) (by decide +kernel)⟩, by decide, by decide, by decide +kernel⟩
theorem cw_J5_191 : mCallS RJ5 191 yJ1_canEncode_fc78d cJ1_canEncode_fc78d 1 ((some FieldType.boolean)) 1 := ⟨⟨wl_in (i := 1766) (by decide +kernel), wl_in (i := 1767) (by decide +kernel), wl_in (i := 27) (by decide +kernel), wl_in (i := 1768) (by decide +kernel)⟩, by decide, by decide, by decide +kernel⟩
theorem cw_J5_245 : mCallS RJ5 245 yJ6_stringSize_0f7a4 cJ6_stringSize_0f7a4 4 ((some FieldType.int)) 1 := ⟨⟨wl_in (i := 1642) (by decide +kernel), wl_in (i := 1643) (by decide +kernel), wl_in (i := 42) (by decide +kernel), wl_in (i := 1644) (by decide +kernel)⟩, by decide, by decide, by decide +kernel⟩
theorem cw_J5_248 : mCallS RJ5 248 yJ6_getChars_ba4f3 cJ6_getChars_ba4f3 7 ((some FieldType.int)) 3 := ⟨⟨wl_in (i := 1645) (by decide +kernel), wl_in (i := 1646) (by decide +kernel), wl_in (i := 42) (by decide +kernel), wl_in (i := 1647) (by decide +kernel)⟩, by decide, by decide, by decide +kernel⟩
theorem cw_J4_333 : cCallSU RJ4 333 yJ5_setLength_d00df cJ5_setLength_d00df 2 ((none : Option FieldType)) 1 := ⟨⟨wl_in (i := 1547) (by decide +kernel), wl_in (i := 2426) (by decide +kernel), wl_in (i := 316) (by decide +kernel), wl_in (i := 1548) (by decide +kernel), wl_in (i := 12) (by decide +kernel), wl_in (i := 1549) (by decide +kernel)⟩, by decide, by decide +kernel⟩
theorem cw_J4_29 : cCallSU RJ4 29 yJ5_append_cf1ce cJ5_append_cf1ce 3 ((some (FieldType.object "java/lang/AbstractStringBuilder"))) 1 := ⟨⟨wl_in (i := 1562) (by decide +kernel), wl_in (i := 2427) (by decide +kernel), wl_in (i := 316) (by decide +kernel), wl_in (i := 1563) (by decide +kernel), wl_in (i := 12) (by decide +kernel), wl_in (i := 1564) (by decide +kernel)⟩, by decide, by decide +kernel⟩
theorem cw_J4_50 : cCallSU RJ4 50 yJ5_append_3fe6f cJ5_append_3fe6f 2 ((some (FieldType.object "java/lang/AbstractStringBuilder"))) 1 := ⟨⟨wl_in (i := 1763) (by decide +kernel), wl_in (i := 2435) (by decide +kernel), wl_in (i := 316) (by decide +kernel), wl_in (i := 1764) (by decide +kernel), wl_in (i := 12) (by decide +kernel), wl_in (i := 1765) (by decide +kernel)⟩, by decide, by decide +kernel⟩
theorem cw_J4_53 : cCallSU RJ4 53 yJ5_append_c97b9 cJ5_append_c97b9 4 ((some (FieldType.object "java/lang/AbstractStringBuilder"))) 1 := ⟨⟨wl_in (i := 1639) (by decide +kernel), wl_in (i := 2434) (by decide +kernel), wl_in (i := 316) (by decide +kernel), wl_in (i := 1640) (by decide +kernel), wl_in (i := 12) (by decide +kernel), wl_in (i := 1641) (by decide +kernel)⟩, by decide, by decide +kernel⟩
/-! java/lang/String.getBytes([BIB)V -/
abbrev rc_J0_getBytes_840e7 : Room := { frames := 1, cells := 0, slots := 0, locals := 26 }
def fc_J0_getBytes_840e7 (σ : cS) (x0 : Option Nat) (x1 : Option Nat) (x2 : Int32) (x3 : Int32) : Option (cS) :=
  (dt x0).bind fun i_1 =>
  (fc_J0_coder_7d493 σ x0).bind fun r_2 =>
  if r_2.1 = x3 then
    (dt x0).bind fun i_3 =>
    (dt x0).bind fun i_4 =>
    (dt (some i_4)).bind fun i_5 =>
    (dr r_2.2 16 x1).bind fun i_6 =>
    (dt (some i_3)).bind fun i_7 =>
    if ¬ (¬ (x2 <<< (x3 &&& 31)) < 0) then none else
    if ¬ (¬ (nI (tL.getD i_5 0)) < 0) then none else
    if ¬ ((nI (tL.getD i_5 0)).toNatClampNeg ≤ tL.getD i_7 0) then none else
    if ¬ ((x2 <<< (x3 &&& 31)).toNatClampNeg + (nI (tL.getD i_5 0)).toNatClampNeg ≤ cln r_2.2 16 i_6) then none else
    some (uBt r_2.2 i_7 0 i_6 (x2 <<< (x3 &&& 31)).toNatClampNeg (nI (tL.getD i_5 0)).toNatClampNeg)
  else
    none
set_option maxHeartbeats 4000000 in
set_option maxRecDepth 100000 in
theorem cc_J0_getBytes_840e7 (l : Launch) (D : va_G) (ca : Nat → ClassId) (A : Nat → Prop) (α : cAl) (σ : cS) (x0 : Option Nat) (x1 : Option Nat) (x2 : Int32) (x3 : Int32) (o : cS) (h : fc_J0_getBytes_840e7 σ x0 x1 x2 x3 = some o) : cMet false l yJ0_getBytes_840e7 cJ0_getBytes_840e7 4 ((none : Option FieldType)) rc_J0_getBytes_840e7 0 0 D ca true A α σ [cr α 19 x0, cr α 16 x1, .int x2, .int x3] (fun _ => none) o := by
  refine Met.ofW (cc := cJ0_getBytes_840e7) (maxL := 4) (ret := (none : Option FieldType)) (by decide) rfl ?_
  intro p e s m args below meth c s₁ B hml hv
  obtain ⟨rfl, hP, hK, hD0, hSh, hA, hG⟩ := hv
  have C : cC p s m _ c cJ0_getBytes_840e7 4 RJ0 D ca A α := ⟨B.exec, B.bytes, hml, findClass_of_methodNamed B.named, fun w hw => atoms_spec (ws := mWs yJ0_getBytes_840e7 cJ0_getBytes_840e7 4 ((none : Option FieldType))) B.pre w (List.mem_cons_of_mem _ hw), hK, hG⟩
  have hM : cM D ca true A s.heap σ α σ α s.heap [] := ⟨hP, hD0, hSh, va_S.rf, hA, cX.rf⟩
  have h17 : 0 < cn σ 17 := c_17 hM
  have hr := B.returns
  have hlk := B.notSynchronized
  have hx := C.1
  have hb := C.2.1
  have hl := lv_entry ([cr α 19 x0, cr α 16 x1, .int x2, .int x3]) (n := 4) (by simp [lg_r, lg_i, lg_l, lg_n])
  rw [lg_entry_eq]
  generalize (lg_sl ([cr α 19 x0, cr α 16 x1, .int x2, .int x3]) ++ List.replicate (4 - (lg_sl ([cr α 19 x0, cr α 16 x1, .int x2, .int x3])).length) Slot.unset).toArray = ls at hl ⊢
  have hl : lv_has ls 4 [(0, cr α 19 x0), (1, cr α 16 x1), (2, .int x2), (3, .int x3)] := (lv_to hl (by simp only [la_r, la_i, la_l, la_n]))
  unfold fc_J0_getBytes_840e7 at h
  refine c_aload_n (t := 19) (x := x0) hx hb dJ0_getBytes_840e7_0 rfl (lv_at hl 0 rfl) ?_
  obtain ⟨i_1, ht_1, h⟩ := bd_of h
  obtain ⟨r_2, hr_2, h⟩ := bd_of h
  refine c_go0 (c_rT (As := []) (rest := []) C hM h17 ht_1 (cc_J0_coder_7d493 l D ca A α σ x0 _ hr_2) cw_J0_335 ⟨rfl, rfl⟩ ⟨Nat.le_of_ble_eq_true rfl, Nat.le_of_ble_eq_true rfl⟩ rfl rfl (cats_le _ (Nat.le_of_ble_eq_true rfl)) hl.1 dJ0_getBytes_840e7_1 ⟨Nat.le_of_ble_eq_true rfl, Nat.le_of_ble_eq_true rfl⟩) hM (fun H locs hM => ?_)
  refine W_st (st' := [.int r_2.1]) rfl ?_
  refine lv_iload_n hx hb dJ0_getBytes_840e7_4 rfl (lv_at hl 3 rfl) ?_
  refine lv_icmp_ne (tgt := 28) hx hb dJ0_getBytes_840e7_5 (by decide) (fun c_1 => ?_) (fun c_1 => ?_)
  · have h := br_F c_1 h
    cases h
  · have h := br_T c_1 h
    refine c_aload_n (t := 19) (x := x0) hx hb dJ0_getBytes_840e7_8 rfl (lv_at hl 0 rfl) ?_
    obtain ⟨i_3, ht_3, h⟩ := bd_of h
    refine c_sval C hM ht_3 fl_J0_9 dJ0_getBytes_840e7_9 ?_
    refine lv_iconst (v := (0 : Int32)) hx hb dJ0_getBytes_840e7_12 (by decide) ?_
    refine c_aload_n (t := 16) (x := x1) hx hb dJ0_getBytes_840e7_13 rfl (lv_at hl 1 rfl) ?_
    refine lv_iload_n hx hb dJ0_getBytes_840e7_14 rfl (lv_at hl 2 rfl) ?_
    refine lv_iload_n hx hb dJ0_getBytes_840e7_15 rfl (lv_at hl 3 rfl) ?_
    refine lv_ishl hx hb dJ0_getBytes_840e7_16 ?_
    refine c_aload_n (t := 19) (x := x0) hx hb dJ0_getBytes_840e7_17 rfl (lv_at hl 0 rfl) ?_
    obtain ⟨i_4, ht_4, h⟩ := bd_of h
    refine c_sval C hM ht_4 fl_J0_9 dJ0_getBytes_840e7_18 ?_
    obtain ⟨i_5, ht_5, h⟩ := bd_of h
    refine c_tlen C hM ht_5 dJ0_getBytes_840e7_21 ?_
    obtain ⟨i_6, hd_6, h⟩ := bd_of h
    obtain ⟨i_7, ht_7, h⟩ := bd_of h
    obtain ⟨c_2, h⟩ := ko_of h
    obtain ⟨c_3, h⟩ := ko_of h
    obtain ⟨c_4, h⟩ := ko_of h
    obtain ⟨c_5, h⟩ := ko_of h
    refine c_copyt (rest := []) C hM h17 ht_7 hd_6 (Classical.not_not.mp c_2) (Classical.not_not.mp c_3) (Classical.not_not.mp c_4) (Classical.not_not.mp c_5) (wl_in (i := 1633) (by decide +kernel)) hl.1 (Nat.le_of_ble_eq_true rfl) (by have := cats_le [] (Nat.le_of_ble_eq_true rfl); exact Nat.le_trans (Nat.add_le_add_right this 18) (Nat.le_of_ble_eq_true rfl)) dJ0_getBytes_840e7_22 (fun H locs hM => ?_)
    refine lv_goto (tgt := 43) hx hb dJ0_getBytes_840e7_25 (by decide) ?_
    exact c_rv C hM (fun _ => rfl) hr hlk dJ0_getBytes_840e7_43 h
/-! java/lang/StringLatin1.canEncode(C)Z -/
abbrev rc_J1_canEncode_fc78d : Room := { frames := 0, cells := 0, slots := 0, locals := 0 }
def fc_J1_canEncode_fc78d_12 (σ : cS) (s0 : Int32) : Option (Int32 × cS) :=
    if s0 &&& 1 = s0 then some (s0, σ) else none
set_option maxHeartbeats 4000000 in
set_option maxRecDepth 100000 in
theorem gc_J1_canEncode_fc78d_12 {p : Program} {l : Launch} {e : Env} {s : State} {m : MethodId} {args : Array Value} {below : List Frame} {meth : Method} {c : Code} {D : va_G} {ca : Nat → ClassId} {A : Nat → Prop} {σ0 : cS} {α : cAl} {o : Int32 × cS} (C : cC p s m args c cJ1_canEncode_fc78d 1 RJ1 D ca A α) (hr : meth.sig.returnType = (some FieldType.boolean)) (hlk : meth.locks = false) (h17 : 0 < cn σ0 17) : ∀ (σ : cS) (s0 : Int32) (H : Heap) (locs : List Loc) (ls : Array Slot), cM D ca true A s.heap σ0 α σ α H locs → lv_has ls 1 [] → fc_J1_canEncode_fc78d_12 σ s0 = some o → W p l e rc_J1_canEncode_fc78d s m args below meth c H locs 0 0 (MQ below (cQ false D ca true A α σ0 (fun _ => some (.int o.1)) o.2) args s 0 0 A) (F0 m 12 ls [.int s0]) := by
  have hx := C.1
  have hb := C.2.1
  intro σ s0 H locs ls hM hl h
  unfold fc_J1_canEncode_fc78d_12 at h
  exact c_rz C hM (fun _ => rfl) hr hlk dJ1_canEncode_fc78d_12 h
def fc_J1_canEncode_fc78d (σ : cS) (x0 : Int32) : Option (Int32 × cS) :=
  if (255 : Int32) < x0 then
    fc_J1_canEncode_fc78d_12 σ (0 : Int32)
  else
    fc_J1_canEncode_fc78d_12 σ (1 : Int32)
set_option maxHeartbeats 4000000 in
set_option maxRecDepth 100000 in
theorem cc_J1_canEncode_fc78d (l : Launch) (D : va_G) (ca : Nat → ClassId) (A : Nat → Prop) (α : cAl) (σ : cS) (x0 : Int32) (o : Int32 × cS) (h : fc_J1_canEncode_fc78d σ x0 = some o) : cMet false l yJ1_canEncode_fc78d cJ1_canEncode_fc78d 1 ((some FieldType.boolean)) rc_J1_canEncode_fc78d 0 0 D ca true A α σ [.int x0] (fun _ => some (.int o.1)) o.2 := by
  refine Met.ofW (cc := cJ1_canEncode_fc78d) (maxL := 1) (ret := (some FieldType.boolean)) (by decide) rfl ?_
  intro p e s m args below meth c s₁ B hml hv
  obtain ⟨rfl, hP, hK, hD0, hSh, hA, hG⟩ := hv
  have C : cC p s m _ c cJ1_canEncode_fc78d 1 RJ1 D ca A α := ⟨B.exec, B.bytes, hml, findClass_of_methodNamed B.named, fun w hw => atoms_spec (ws := mWs yJ1_canEncode_fc78d cJ1_canEncode_fc78d 1 ((some FieldType.boolean))) B.pre w (List.mem_cons_of_mem _ hw), hK, hG⟩
  have hM : cM D ca true A s.heap σ α σ α s.heap [] := ⟨hP, hD0, hSh, va_S.rf, hA, cX.rf⟩
  have h17 : 0 < cn σ 17 := c_17 hM
  have hr := B.returns
  have hlk := B.notSynchronized
  have hx := C.1
  have hb := C.2.1
  have hl := lv_entry ([.int x0]) (n := 1) (Nat.le_of_ble_eq_true rfl)
  rw [lg_entry_eq]
  generalize (lg_sl ([.int x0]) ++ List.replicate (1 - (lg_sl ([.int x0])).length) Slot.unset).toArray = ls at hl ⊢
  have hl : lv_has ls 1 [(0, .int x0)] := hl
  unfold fc_J1_canEncode_fc78d at h
  refine lv_iload_n hx hb dJ1_canEncode_fc78d_0 rfl (lv_at hl 0 rfl) ?_
  refine lv_sipush (v := (255 : Int32)) hx hb dJ1_canEncode_fc78d_1 (by decide) ?_
  refine lv_icmp_gt (tgt := 11) hx hb dJ1_canEncode_fc78d_4 (by decide) (fun c_1 => ?_) (fun c_1 => ?_)
  · have h := br_T c_1 h
    refine lv_iconst (v := (0 : Int32)) hx hb dJ1_canEncode_fc78d_11 (by decide) ?_
    exact gc_J1_canEncode_fc78d_12 C hr hlk h17  _ _ _ _ _ hM (lv_sub hl [] rfl) h
  · have h := br_F c_1 h
    refine lv_iconst (v := (1 : Int32)) hx hb dJ1_canEncode_fc78d_7 (by decide) ?_
    refine lv_goto (tgt := 12) hx hb dJ1_canEncode_fc78d_8 (by decide) ?_
    exact gc_J1_canEncode_fc78d_12 C hr hlk h17  _ _ _ _ _ hM (lv_sub hl [] rfl) h
/-! java/lang/Integer.stringSize(I)I -/
abbrev rc_J6_stringSize_0f7a4 : Room := { frames := 0, cells := 0, slots := 0, locals := 0 }
def fc_J6_stringSize_0f7a4_16 : Nat → cS → Int32 → Int32 → Int32 → Int32 → Option (Int32 × cS)
  | 0, _, _, _, _, _ => none
  | n + 1, σ, x0, x1, x2, x3 =>
    if (10 : Int32) ≤ x3 then
      none
    else
      if x0 ≤ x2 then
        (fc_J6_stringSize_0f7a4_16 n) σ x0 x1 ((10 : Int32) * x2) (x3 + (1 : Int32))
      else
        some ((x3 + x1), σ)
set_option maxHeartbeats 4000000 in
set_option maxRecDepth 100000 in
theorem gc_J6_stringSize_0f7a4_16 {p : Program} {l : Launch} {e : Env} {s : State} {m : MethodId} {args : Array Value} {below : List Frame} {meth : Method} {c : Code} {D : va_G} {ca : Nat → ClassId} {A : Nat → Prop} {σ0 : cS} {α : cAl} {o : Int32 × cS} (C : cC p s m args c cJ6_stringSize_0f7a4 4 RJ6 D ca A α) (hr : meth.sig.returnType = (some FieldType.int)) (hlk : meth.locks = false) (h17 : 0 < cn σ0 17) : ∀ (n : Nat) (σ : cS) (x0 : Int32) (x1 : Int32) (x2 : Int32) (x3 : Int32) (H : Heap) (locs : List Loc) (ls : Array Slot), cM D ca true A s.heap σ0 α σ α H locs → lv_has ls 4 [(0, .int x0), (1, .int x1), (2, .int x2), (3, .int x3)] → fc_J6_stringSize_0f7a4_16 n σ x0 x1 x2 x3 = some o → W p l e rc_J6_stringSize_0f7a4 s m args below meth c H locs 0 0 (MQ below (cQ false D ca true A α σ0 (fun _ => some (.int o.1)) o.2) args s 0 0 A) (F0 m 16 ls []) := by
  have hx := C.1
  have hb := C.2.1
  intro n
  induction n with
  | zero =>
    intro σ x0 x1 x2 x3 H locs ls hM hl h
    cases h
  | succ n ih =>
    intro σ x0 x1 x2 x3 H locs ls hM hl h
    rw [fc_J6_stringSize_0f7a4_16] at h
    refine lv_iload_n hx hb dJ6_stringSize_0f7a4_16 rfl (lv_at hl 3 rfl) ?_
    refine lv_bipush (v := (10 : Int32)) hx hb dJ6_stringSize_0f7a4_17 (by decide) ?_
    refine lv_icmp_ge (tgt := 42) hx hb dJ6_stringSize_0f7a4_19 (by decide) (fun c_1 => ?_) (fun c_1 => ?_)
    · have h := br_T c_1 h
      cases h
    · have h := br_F c_1 h
      refine lv_iload_n hx hb dJ6_stringSize_0f7a4_22 rfl (lv_at hl 0 rfl) ?_
      refine lv_iload_n hx hb dJ6_stringSize_0f7a4_23 rfl (lv_at hl 2 rfl) ?_
      refine lv_icmp_le (tgt := 31) hx hb dJ6_stringSize_0f7a4_24 (by decide) (fun c_2 => ?_) (fun c_2 => ?_)
      · have h := br_T c_2 h
        refine lv_bipush (v := (10 : Int32)) hx hb dJ6_stringSize_0f7a4_31 (by decide) ?_
        refine lv_iload_n hx hb dJ6_stringSize_0f7a4_33 rfl (lv_at hl 2 rfl) ?_
        refine lv_imul hx hb dJ6_stringSize_0f7a4_34 ?_
        refine lv_istore_n (lv' := [(2, .int ((10 : Int32) * x2)), (0, .int x0), (1, .int x1), (3, .int x3)]) hx hb dJ6_stringSize_0f7a4_35 rfl hl (by decide) rfl (fun ls hl => ?_)
        refine lv_iinc (v := (x3 + (1 : Int32))) (lv' := [(3, .int (x3 + (1 : Int32))), (2, .int ((10 : Int32) * x2)), (0, .int x0), (1, .int x1)]) hx hb dJ6_stringSize_0f7a4_36 hl (k := 3) rfl rfl (by decide) rfl (fun ls hl => ?_)
        refine lv_goto (tgt := 16) hx hb dJ6_stringSize_0f7a4_39 (by decide) ?_
        exact ih _ _ _ _ _ _ _ _ hM (lv_sub hl [2, 3, 1, 0] rfl) h
      · have h := br_F c_2 h
        refine lv_iload_n hx hb dJ6_stringSize_0f7a4_27 rfl (lv_at hl 3 rfl) ?_
        refine lv_iload_n hx hb dJ6_stringSize_0f7a4_28 rfl (lv_at hl 1 rfl) ?_
        refine lv_iadd hx hb dJ6_stringSize_0f7a4_29 ?_
        exact c_ri C hM (fun _ => rfl) hr hlk dJ6_stringSize_0f7a4_30 h
def fc_J6_stringSize_0f7a4_11 (σ : cS) (x0 : Int32) (x1 : Int32) : Option (Int32 × cS) :=
    fc_J6_stringSize_0f7a4_16 3000 σ x0 x1 (-10 : Int32) (1 : Int32)
set_option maxHeartbeats 4000000 in
set_option maxRecDepth 100000 in
theorem gc_J6_stringSize_0f7a4_11 {p : Program} {l : Launch} {e : Env} {s : State} {m : MethodId} {args : Array Value} {below : List Frame} {meth : Method} {c : Code} {D : va_G} {ca : Nat → ClassId} {A : Nat → Prop} {σ0 : cS} {α : cAl} {o : Int32 × cS} (C : cC p s m args c cJ6_stringSize_0f7a4 4 RJ6 D ca A α) (hr : meth.sig.returnType = (some FieldType.int)) (hlk : meth.locks = false) (h17 : 0 < cn σ0 17) : ∀ (σ : cS) (x0 : Int32) (x1 : Int32) (H : Heap) (locs : List Loc) (ls : Array Slot), cM D ca true A s.heap σ0 α σ α H locs → lv_has ls 4 [(0, .int x0), (1, .int x1)] → fc_J6_stringSize_0f7a4_11 σ x0 x1 = some o → W p l e rc_J6_stringSize_0f7a4 s m args below meth c H locs 0 0 (MQ below (cQ false D ca true A α σ0 (fun _ => some (.int o.1)) o.2) args s 0 0 A) (F0 m 11 ls []) := by
  have hx := C.1
  have hb := C.2.1
  intro σ x0 x1 H locs ls hM hl h
  unfold fc_J6_stringSize_0f7a4_11 at h
  refine lv_bipush (v := (-10 : Int32)) hx hb dJ6_stringSize_0f7a4_11 (by decide) ?_
  refine lv_istore_n (lv' := [(2, .int (-10 : Int32)), (0, .int x0), (1, .int x1)]) hx hb dJ6_stringSize_0f7a4_13 rfl hl (by decide) rfl (fun ls hl => ?_)
  refine lv_iconst (v := (1 : Int32)) hx hb dJ6_stringSize_0f7a4_14 (by decide) ?_
  refine lv_istore_n (lv' := [(3, .int (1 : Int32)), (2, .int (-10 : Int32)), (0, .int x0), (1, .int x1)]) hx hb dJ6_stringSize_0f7a4_15 rfl hl (by decide) rfl (fun ls hl => ?_)
  exact gc_J6_stringSize_0f7a4_16 C hr hlk h17  _ _ _ _ _ _ _ _ _ hM (lv_sub hl [2, 3, 1, 0] rfl) h
def fc_J6_stringSize_0f7a4 (σ : cS) (x0 : Int32) : Option (Int32 × cS) :=
  if x0 < 0 then
    fc_J6_stringSize_0f7a4_11 σ x0 (1 : Int32)
  else
    fc_J6_stringSize_0f7a4_11 σ (-x0) (0 : Int32)
set_option maxHeartbeats 4000000 in
set_option maxRecDepth 100000 in
theorem cc_J6_stringSize_0f7a4 (l : Launch) (D : va_G) (ca : Nat → ClassId) (A : Nat → Prop) (α : cAl) (σ : cS) (x0 : Int32) (o : Int32 × cS) (h : fc_J6_stringSize_0f7a4 σ x0 = some o) : cMet false l yJ6_stringSize_0f7a4 cJ6_stringSize_0f7a4 4 ((some FieldType.int)) rc_J6_stringSize_0f7a4 0 0 D ca true A α σ [.int x0] (fun _ => some (.int o.1)) o.2 := by
  refine Met.ofW (cc := cJ6_stringSize_0f7a4) (maxL := 4) (ret := (some FieldType.int)) (by decide) rfl ?_
  intro p e s m args below meth c s₁ B hml hv
  obtain ⟨rfl, hP, hK, hD0, hSh, hA, hG⟩ := hv
  have C : cC p s m _ c cJ6_stringSize_0f7a4 4 RJ6 D ca A α := ⟨B.exec, B.bytes, hml, findClass_of_methodNamed B.named, fun w hw => atoms_spec (ws := mWs yJ6_stringSize_0f7a4 cJ6_stringSize_0f7a4 4 ((some FieldType.int))) B.pre w (List.mem_cons_of_mem _ hw), hK, hG⟩
  have hM : cM D ca true A s.heap σ α σ α s.heap [] := ⟨hP, hD0, hSh, va_S.rf, hA, cX.rf⟩
  have h17 : 0 < cn σ 17 := c_17 hM
  have hr := B.returns
  have hlk := B.notSynchronized
  have hx := C.1
  have hb := C.2.1
  have hl := lv_entry ([.int x0]) (n := 4) (Nat.le_of_ble_eq_true rfl)
  rw [lg_entry_eq]
  generalize (lg_sl ([.int x0]) ++ List.replicate (4 - (lg_sl ([.int x0])).length) Slot.unset).toArray = ls at hl ⊢
  have hl : lv_has ls 4 [(0, .int x0)] := hl
  unfold fc_J6_stringSize_0f7a4 at h
  refine lv_iconst (v := (1 : Int32)) hx hb dJ6_stringSize_0f7a4_0 (by decide) ?_
  refine lv_istore_n (lv' := [(1, .int (1 : Int32)), (0, .int x0)]) hx hb dJ6_stringSize_0f7a4_1 rfl hl (by decide) rfl (fun ls hl => ?_)
  refine lv_iload_n hx hb dJ6_stringSize_0f7a4_2 rfl (lv_at hl 1 rfl) ?_
  refine lv_if_lt (tgt := 11) hx hb dJ6_stringSize_0f7a4_3 (by decide) (fun c_1 => ?_) (fun c_1 => ?_)
  · have h := br_T c_1 h
    exact gc_J6_stringSize_0f7a4_11 C hr hlk h17  _ _ _ _ _ _ hM (lv_sub hl [1, 0] rfl) h
  · have h := br_F c_1 h
    refine lv_iconst (v := (0 : Int32)) hx hb dJ6_stringSize_0f7a4_6 (by decide) ?_
    refine lv_istore_n (lv' := [(1, .int (0 : Int32)), (0, .int x0)]) hx hb dJ6_stringSize_0f7a4_7 rfl hl (by decide) rfl (fun ls hl => ?_)
    refine lv_iload_n hx hb dJ6_stringSize_0f7a4_8 rfl (lv_at hl 1 rfl) ?_
    refine lv_ineg hx hb dJ6_stringSize_0f7a4_9 ?_
    refine lv_istore_n (lv' := [(0, .int (-x0)), (1, .int (0 : Int32))]) hx hb dJ6_stringSize_0f7a4_10 rfl hl (by decide) rfl (fun ls hl => ?_)
    exact gc_J6_stringSize_0f7a4_11 C hr hlk h17  _ _ _ _ _ _ hM (lv_sub hl [0, 1] rfl) h
/-! java/lang/Integer.getChars(II[B)I -/
abbrev rc_J6_getChars_ba4f3 : Room := { frames := 0, cells := 0, slots := 0, locals := 0 }
def fc_J6_getChars_ba4f3_104 (σ : cS) (x2 : Option Nat) (x5 : Int32) (x6 : Int32) : Option (Int32 × cS) :=
    if x6 = 0 then
      some (x5, σ)
    else
      none
set_option maxHeartbeats 4000000 in
set_option maxRecDepth 100000 in
theorem gc_J6_getChars_ba4f3_104 {p : Program} {l : Launch} {e : Env} {s : State} {m : MethodId} {args : Array Value} {below : List Frame} {meth : Method} {c : Code} {D : va_G} {ca : Nat → ClassId} {A : Nat → Prop} {σ0 : cS} {α : cAl} {o : Int32 × cS} (C : cC p s m args c cJ6_getChars_ba4f3 7 RJ6 D ca A α) (hr : meth.sig.returnType = (some FieldType.int)) (hlk : meth.locks = false) (h17 : 0 < cn σ0 17) : ∀ (σ : cS) (x2 : Option Nat) (x5 : Int32) (x6 : Int32) (H : Heap) (locs : List Loc) (ls : Array Slot), cM D ca true A s.heap σ0 α σ α H locs → lv_has ls 7 [(2, cr α 16 x2), (5, .int x5), (6, .int x6)] → fc_J6_getChars_ba4f3_104 σ x2 x5 x6 = some o → W p l e rc_J6_getChars_ba4f3 s m args below meth c H locs 0 0 (MQ below (cQ false D ca true A α σ0 (fun _ => some (.int o.1)) o.2) args s 0 0 A) (F0 m 104 ls []) := by
  have hx := C.1
  have hb := C.2.1
  intro σ x2 x5 x6 H locs ls hM hl h
  unfold fc_J6_getChars_ba4f3_104 at h
  refine lv_iload hx hb dJ6_getChars_ba4f3_104 (lv_at hl 2 rfl) ?_
  refine lv_if_eq (tgt := 118) hx hb dJ6_getChars_ba4f3_106 (by decide) (fun c_1 => ?_) (fun c_1 => ?_)
  · have h := br_T c_1 h
    refine lv_iload hx hb dJ6_getChars_ba4f3_118 (lv_at hl 1 rfl) ?_
    exact c_ri C hM (fun _ => rfl) hr hlk dJ6_getChars_ba4f3_120 h
  · have h := br_F c_1 h
    cases h
def fc_J6_getChars_ba4f3_22 (σ : cS) (x0 : Int32) (x2 : Option Nat) (x5 : Int32) (x6 : Int32) : Option (Int32 × cS) :=
    if (-100 : Int32) < x0 then
      if ¬ (¬ ((-x0) < 0 ∨ 100 ≤ (-x0).toNatClampNeg)) then none else
      (dr σ 16 x2).bind fun i_1 =>
      if (x5 + (-1 : Int32)) < 0 ∨ cln σ 16 i_1 ≤ (x5 + (-1 : Int32)).toNatClampNeg then none else
      if (-9 : Int32) ≤ x0 then
        fc_J6_getChars_ba4f3_104 (uI σ 16 i_1 (x5 + (-1 : Int32)).toNatClampNeg ((nI (48 + (-x0).toNatClampNeg % 10)).toInt8.toInt32)) x2 (x5 + (-1 : Int32)) x6
      else
        if ¬ (¬ ((-x0) < 0 ∨ 100 ≤ (-x0).toNatClampNeg)) then none else
        if ((x5 + (-1 : Int32)) + (-1 : Int32)) < 0 ∨ cln (uI σ 16 i_1 (x5 + (-1 : Int32)).toNatClampNeg ((nI (48 + (-x0).toNatClampNeg % 10)).toInt8.toInt32)) 16 i_1 ≤ ((x5 + (-1 : Int32)) + (-1 : Int32)).toNatClampNeg then none else
        fc_J6_getChars_ba4f3_104 (uI (uI σ 16 i_1 (x5 + (-1 : Int32)).toNatClampNeg ((nI (48 + (-x0).toNatClampNeg % 10)).toInt8.toInt32)) 16 i_1 ((x5 + (-1 : Int32)) + (-1 : Int32)).toNatClampNeg ((nI (48 + (-x0).toNatClampNeg / 10)).toInt8.toInt32)) x2 ((x5 + (-1 : Int32)) + (-1 : Int32)) x6
    else
      none
set_option maxHeartbeats 4000000 in
set_option maxRecDepth 100000 in
theorem gc_J6_getChars_ba4f3_22 {p : Program} {l : Launch} {e : Env} {s : State} {m : MethodId} {args : Array Value} {below : List Frame} {meth : Method} {c : Code} {D : va_G} {ca : Nat → ClassId} {A : Nat → Prop} {σ0 : cS} {α : cAl} {o : Int32 × cS} (C : cC p s m args c cJ6_getChars_ba4f3 7 RJ6 D ca A α) (hr : meth.sig.returnType = (some FieldType.int)) (hlk : meth.locks = false) (h17 : 0 < cn σ0 17) : ∀ (σ : cS) (x0 : Int32) (x2 : Option Nat) (x5 : Int32) (x6 : Int32) (H : Heap) (locs : List Loc) (ls : Array Slot), cM D ca true A s.heap σ0 α σ α H locs → lv_has ls 7 [(0, .int x0), (2, cr α 16 x2), (5, .int x5), (6, .int x6)] → fc_J6_getChars_ba4f3_22 σ x0 x2 x5 x6 = some o → W p l e rc_J6_getChars_ba4f3 s m args below meth c H locs 0 0 (MQ below (cQ false D ca true A α σ0 (fun _ => some (.int o.1)) o.2) args s 0 0 A) (F0 m 22 ls []) := by
  have hx := C.1
  have hb := C.2.1
  intro σ x0 x2 x5 x6 H locs ls hM hl h
  unfold fc_J6_getChars_ba4f3_22 at h
  refine lv_iload_n hx hb dJ6_getChars_ba4f3_22 rfl (lv_at hl 0 rfl) ?_
  refine lv_bipush (v := (-100 : Int32)) hx hb dJ6_getChars_ba4f3_23 (by decide) ?_
  refine lv_icmp_gt (tgt := 72) hx hb dJ6_getChars_ba4f3_25 (by decide) (fun c_1 => ?_) (fun c_1 => ?_)
  · have h := br_T c_1 h
    refine c_aload_n (t := 16) (x := x2) hx hb dJ6_getChars_ba4f3_72 rfl (lv_at hl 1 rfl) ?_
    refine lv_iinc (v := (x5 + (-1 : Int32))) (lv' := [(5, .int (x5 + (-1 : Int32))), (0, .int x0), (2, cr α 16 x2), (6, .int x6)]) hx hb dJ6_getChars_ba4f3_73 hl (k := 2) rfl rfl (by decide) rfl (fun ls hl => ?_)
    refine lv_iload hx hb dJ6_getChars_ba4f3_76 (lv_at hl 0 rfl) ?_
    refine c_getDO C hM fl_J6_83 dJ6_getChars_ba4f3_78 ?_
    refine lv_iload_n hx hb dJ6_getChars_ba4f3_81 rfl (lv_at hl 1 rfl) ?_
    refine lv_ineg hx hb dJ6_getChars_ba4f3_82 ?_
    obtain ⟨c_2, h⟩ := ko_of h
    refine c_DOat C hM (Classical.not_not.mp c_2) dJ6_getChars_ba4f3_83 ?_
    obtain ⟨i_1, hd_1, h⟩ := bd_of h
    obtain ⟨c_3, h⟩ := ko_of h
    refine c_bast C hM hd_1 c_3 dJ6_getChars_ba4f3_84 (fun H locs hM => ?_)
    refine lv_iload_n hx hb dJ6_getChars_ba4f3_85 rfl (lv_at hl 1 rfl) ?_
    refine lv_bipush (v := (-9 : Int32)) hx hb dJ6_getChars_ba4f3_86 (by decide) ?_
    refine lv_icmp_ge (tgt := 104) hx hb dJ6_getChars_ba4f3_88 (by decide) (fun c_4 => ?_) (fun c_4 => ?_)
    · have h := br_T c_4 h
      exact gc_J6_getChars_ba4f3_104 C hr hlk h17  _ _ _ _ _ _ _ hM (lv_sub hl [2, 0, 3] rfl) h
    · have h := br_F c_4 h
      refine c_aload_n (t := 16) (x := x2) hx hb dJ6_getChars_ba4f3_91 rfl (lv_at hl 2 rfl) ?_
      refine lv_iinc (v := ((x5 + (-1 : Int32)) + (-1 : Int32))) (lv' := [(5, .int ((x5 + (-1 : Int32)) + (-1 : Int32))), (0, .int x0), (2, cr α 16 x2), (6, .int x6)]) hx hb dJ6_getChars_ba4f3_92 hl (k := 0) rfl rfl (by decide) rfl (fun ls hl => ?_)
      refine lv_iload hx hb dJ6_getChars_ba4f3_95 (lv_at hl 0 rfl) ?_
      refine c_getDT C hM fl_J6_87 dJ6_getChars_ba4f3_97 ?_
      refine lv_iload_n hx hb dJ6_getChars_ba4f3_100 rfl (lv_at hl 1 rfl) ?_
      refine lv_ineg hx hb dJ6_getChars_ba4f3_101 ?_
      obtain ⟨c_5, h⟩ := ko_of h
      refine c_DTat C hM (Classical.not_not.mp c_5) dJ6_getChars_ba4f3_102 ?_
      obtain ⟨c_6, h⟩ := ko_of h
      refine c_bast C hM hd_1 c_6 dJ6_getChars_ba4f3_103 (fun H locs hM => ?_)
      exact gc_J6_getChars_ba4f3_104 C hr hlk h17  _ _ _ _ _ _ _ hM (lv_sub hl [2, 0, 3] rfl) h
  · have h := br_F c_1 h
    cases h
def fc_J6_getChars_ba4f3 (σ : cS) (x0 : Int32) (x1 : Int32) (x2 : Option Nat) : Option (Int32 × cS) :=
  if 0 ≤ x0 then
    if (0 : Int32) = 0 then
      fc_J6_getChars_ba4f3_22 σ (-x0) x2 x1 (0 : Int32)
    else
      fc_J6_getChars_ba4f3_22 σ x0 x2 x1 (0 : Int32)
  else
    none
set_option maxHeartbeats 4000000 in
set_option maxRecDepth 100000 in
theorem cc_J6_getChars_ba4f3 (l : Launch) (D : va_G) (ca : Nat → ClassId) (A : Nat → Prop) (α : cAl) (σ : cS) (x0 : Int32) (x1 : Int32) (x2 : Option Nat) (o : Int32 × cS) (h : fc_J6_getChars_ba4f3 σ x0 x1 x2 = some o) : cMet false l yJ6_getChars_ba4f3 cJ6_getChars_ba4f3 7 ((some FieldType.int)) rc_J6_getChars_ba4f3 0 0 D ca true A α σ [.int x0, .int x1, cr α 16 x2] (fun _ => some (.int o.1)) o.2 := by
  refine Met.ofW (cc := cJ6_getChars_ba4f3) (maxL := 7) (ret := (some FieldType.int)) (by decide) rfl ?_
  intro p e s m args below meth c s₁ B hml hv
  obtain ⟨rfl, hP, hK, hD0, hSh, hA, hG⟩ := hv
  have C : cC p s m _ c cJ6_getChars_ba4f3 7 RJ6 D ca A α := ⟨B.exec, B.bytes, hml, findClass_of_methodNamed B.named, fun w hw => atoms_spec (ws := mWs yJ6_getChars_ba4f3 cJ6_getChars_ba4f3 7 ((some FieldType.int))) B.pre w (List.mem_cons_of_mem _ hw), hK, hG⟩
  have hM : cM D ca true A s.heap σ α σ α s.heap [] := ⟨hP, hD0, hSh, va_S.rf, hA, cX.rf⟩
  have h17 : 0 < cn σ 17 := c_17 hM
  have hr := B.returns
  have hlk := B.notSynchronized
  have hx := C.1
  have hb := C.2.1
  have hl := lv_entry ([.int x0, .int x1, cr α 16 x2]) (n := 7) (by simp [lg_r, lg_i, lg_l, lg_n])
  rw [lg_entry_eq]
  generalize (lg_sl ([.int x0, .int x1, cr α 16 x2]) ++ List.replicate (7 - (lg_sl ([.int x0, .int x1, cr α 16 x2])).length) Slot.unset).toArray = ls at hl ⊢
  have hl : lv_has ls 7 [(0, .int x0), (1, .int x1), (2, cr α 16 x2)] := (lv_to hl (by simp only [la_r, la_i, la_l, la_n]))
  unfold fc_J6_getChars_ba4f3 at h
  refine lv_iload_n hx hb dJ6_getChars_ba4f3_0 rfl (lv_at hl 1 rfl) ?_
  refine lv_istore (lv' := [(5, .int x1), (0, .int x0), (1, .int x1), (2, cr α 16 x2)]) hx hb dJ6_getChars_ba4f3_1 hl (by decide) rfl (fun ls hl => ?_)
  refine lv_iload_n hx hb dJ6_getChars_ba4f3_3 rfl (lv_at hl 1 rfl) ?_
  refine lv_if_ge (tgt := 11) hx hb dJ6_getChars_ba4f3_4 (by decide) (fun c_1 => ?_) (fun c_1 => ?_)
  · have h := br_T c_1 h
    refine lv_iconst (v := (0 : Int32)) hx hb dJ6_getChars_ba4f3_11 (by decide) ?_
    refine lv_istore (lv' := [(6, .int (0 : Int32)), (5, .int x1), (0, .int x0), (1, .int x1), (2, cr α 16 x2)]) hx hb dJ6_getChars_ba4f3_12 hl (by decide) rfl (fun ls hl => ?_)
    refine lv_iload hx hb dJ6_getChars_ba4f3_14 (lv_at hl 0 rfl) ?_
    refine lv_if_ne (tgt := 22) hx hb dJ6_getChars_ba4f3_16 (by decide) (fun c_2 => ?_) (fun c_2 => ?_)
    · have h := br_F c_2 h
      exact gc_J6_getChars_ba4f3_22 C hr hlk h17  _ _ _ _ _ _ _ _ hM (lv_sub hl [2, 4, 1, 0] rfl) h
    · have h := br_T c_2 h
      refine lv_iload_n hx hb dJ6_getChars_ba4f3_19 rfl (lv_at hl 2 rfl) ?_
      refine lv_ineg hx hb dJ6_getChars_ba4f3_20 ?_
      refine lv_istore_n (lv' := [(0, .int (-x0)), (6, .int (0 : Int32)), (5, .int x1), (1, .int x1), (2, cr α 16 x2)]) hx hb dJ6_getChars_ba4f3_21 rfl hl (by decide) rfl (fun ls hl => ?_)
      exact gc_J6_getChars_ba4f3_22 C hr hlk h17  _ _ _ _ _ _ _ _ hM (lv_sub hl [0, 4, 2, 1] rfl) h
  · have h := br_F c_1 h
    cases h
/-! java/util/Arrays.copyOf([BI)[B -/
abbrev rc_J7_copyOf_9075b : Room := { frames := 1, cells := 1, slots := 200, locals := 26 }
def fc_J7_copyOf_9075b (σ : cS) (x0 : Option Nat) (x1 : Int32) : Option (Option Nat × cS) :=
  (dr σ 16 x0).bind fun i_1 =>
  if x1 = (nI (cln σ 16 i_1)) then
    none
  else
    if ¬ (¬ x1 < 0) then none else
    if ¬ (x1.toNatClampNeg ≤ 200) then none else
    if ¬ (lvq σ 16 x0 = true) then none else
    (dr (uN σ 16 x1.toNatClampNeg 0) 16 x0).bind fun i_4 =>
    (dr (uN σ 16 x1.toNatClampNeg 0) 16 (some (cn σ 16))).bind fun i_5 =>
    if ¬ (¬ (0 : Int32) < 0) then none else
    if ¬ (¬ (0 : Int32) < 0) then none else
    if ¬ (¬ (if x1 < (nI (cln (uN σ 16 x1.toNatClampNeg 0) 16 i_4)) then x1 else (nI (cln (uN σ 16 x1.toNatClampNeg 0) 16 i_4))) < 0) then none else
    if ¬ ((0 : Int32).toNatClampNeg + (if x1 < (nI (cln (uN σ 16 x1.toNatClampNeg 0) 16 i_4)) then x1 else (nI (cln (uN σ 16 x1.toNatClampNeg 0) 16 i_4))).toNatClampNeg ≤ cln (uN σ 16 x1.toNatClampNeg 0) 16 i_4) then none else
    if ¬ ((0 : Int32).toNatClampNeg + (if x1 < (nI (cln (uN σ 16 x1.toNatClampNeg 0) 16 i_4)) then x1 else (nI (cln (uN σ 16 x1.toNatClampNeg 0) 16 i_4))).toNatClampNeg ≤ cln (uN σ 16 x1.toNatClampNeg 0) 16 i_5) then none else
    if ¬ (∀ f, f < (if x1 < (nI (cln (uN σ 16 x1.toNatClampNeg 0) 16 i_4)) then x1 else (nI (cln (uN σ 16 x1.toNatClampNeg 0) 16 i_4))).toNatClampNeg → (cI (uN σ 16 x1.toNatClampNeg 0) 16 i_4 ((0 : Int32).toNatClampNeg + f)).toInt8.toInt32 = cI (uN σ 16 x1.toNatClampNeg 0) 16 i_4 ((0 : Int32).toNatClampNeg + f)) then none else
    some ((some (cn σ 16)), (uBb (uN σ 16 x1.toNatClampNeg 0) i_4 (0 : Int32).toNatClampNeg i_5 (0 : Int32).toNatClampNeg (if x1 < (nI (cln (uN σ 16 x1.toNatClampNeg 0) 16 i_4)) then x1 else (nI (cln (uN σ 16 x1.toNatClampNeg 0) 16 i_4))).toNatClampNeg))
set_option maxHeartbeats 4000000 in
set_option maxRecDepth 100000 in
theorem cc_J7_copyOf_9075b (l : Launch) (D : va_G) (ca : Nat → ClassId) (A : Nat → Prop) (α : cAl) (σ : cS) (x0 : Option Nat) (x1 : Int32) (o : Option Nat × cS) (h : fc_J7_copyOf_9075b σ x0 x1 = some o) : cMet true l yJ7_copyOf_9075b cJ7_copyOf_9075b 3 ((some (FieldType.array FieldType.byte))) rc_J7_copyOf_9075b 1 200 D ca true A α σ [cr α 16 x0, .int x1] (fun α1 => some (cr α1 16 o.1)) o.2 := by
  refine Met.ofW (cc := cJ7_copyOf_9075b) (maxL := 3) (ret := (some (FieldType.array FieldType.byte))) (by decide) rfl ?_
  intro p e s m args below meth c s₁ B hml hv
  obtain ⟨rfl, hP, hK, hD0, hSh, hA, hG⟩ := hv
  have C : cC p s m _ c cJ7_copyOf_9075b 3 RJ7 D ca A α := ⟨B.exec, B.bytes, hml, findClass_of_methodNamed B.named, fun w hw => atoms_spec (ws := mWs yJ7_copyOf_9075b cJ7_copyOf_9075b 3 ((some (FieldType.array FieldType.byte)))) B.pre w (List.mem_cons_of_mem _ hw), hK, hG⟩
  have hM : cM D ca true A s.heap σ α σ α s.heap [] := ⟨hP, hD0, hSh, va_S.rf, hA, cX.rf⟩
  have h17 : 0 < cn σ 17 := c_17 hM
  have hr := B.returns
  have hlk := B.notSynchronized
  have hx := C.1
  have hb := C.2.1
  have hl := lv_entry ([cr α 16 x0, .int x1]) (n := 3) (by simp [lg_r, lg_i, lg_l, lg_n])
  rw [lg_entry_eq]
  generalize (lg_sl ([cr α 16 x0, .int x1]) ++ List.replicate (3 - (lg_sl ([cr α 16 x0, .int x1])).length) Slot.unset).toArray = ls at hl ⊢
  have hl : lv_has ls 3 [(0, cr α 16 x0), (1, .int x1)] := (lv_to hl (by simp only [la_r, la_i, la_l, la_n]))
  unfold fc_J7_copyOf_9075b at h
  refine lv_iload_n hx hb dJ7_copyOf_9075b_0 rfl (lv_at hl 1 rfl) ?_
  refine c_aload_n (t := 16) (x := x0) hx hb dJ7_copyOf_9075b_1 rfl (lv_at hl 0 rfl) ?_
  obtain ⟨i_1, hd_1, h⟩ := bd_of h
  refine c_alen C hM hd_1 (by decide) dJ7_copyOf_9075b_2 ?_
  refine lv_icmp_ne (tgt := 14) hx hb dJ7_copyOf_9075b_3 (by decide) (fun c_1 => ?_) (fun c_1 => ?_)
  · have h := br_F c_1 h
    refine lv_iload_n hx hb dJ7_copyOf_9075b_14 rfl (lv_at hl 1 rfl) ?_
    obtain ⟨c_2, h⟩ := ko_of h
    obtain ⟨c_3, h⟩ := ko_of h
    obtain ⟨c_4, h⟩ := ko_of h
    have hlv_3 := (Classical.not_not.mp c_4)
    refine c_newA (k := 16) (N := x1.toNatClampNeg) C hM ⟨⟨by decide, rfl⟩, rfl⟩ (wl_in (i := 317) (by decide +kernel)) (Classical.not_not.mp c_2) rfl (Nat.le_trans (Classical.not_not.mp c_3) (by decide)) (Nat.le_of_ble_eq_true rfl) (Nat.le_trans (Nat.add_le_add_left (Classical.not_not.mp c_3) _) (Nat.le_of_ble_eq_true rfl)) dJ7_copyOf_9075b_15 (fun H α_1 hX_2 hM => ?_)
    refine W.widen (k := 1) (n := 200) (Nat.le_of_ble_eq_true rfl) (Nat.le_trans (Nat.add_le_add_left (Classical.not_not.mp c_3) _) (Nat.le_of_ble_eq_true rfl)) ?_
    have e_3 : cr α 16 x0 = cr α_1 16 x0 := cr_to hX_2 hlv_3
    have hl := lv_to (lv_sub hl [0, 1] rfl) (show ([(0, cr α 16 x0), (1, .int x1)] : List (Nat × Value)) = [(0, cr α_1 16 x0), (1, .int x1)] by rw [e_3])
    refine W_st (st' := [cr α_1 16 (some (cn σ 16))]) rfl ?_
    refine c_astore_n (t := 16) (x := (some (cn σ 16))) (lv' := [(2, cr α_1 16 (some (cn σ 16))), (0, cr α_1 16 x0), (1, .int x1)]) hx hb dJ7_copyOf_9075b_17 rfl hl (by decide) rfl (fun ls hl => ?_)
    refine c_aload_n (t := 16) (x := x0) hx hb dJ7_copyOf_9075b_18 rfl (lv_at hl 1 rfl) ?_
    refine lv_iconst (v := (0 : Int32)) hx hb dJ7_copyOf_9075b_19 (by decide) ?_
    refine c_aload_n (t := 16) (x := (some (cn σ 16))) hx hb dJ7_copyOf_9075b_20 rfl (lv_at hl 0 rfl) ?_
    refine lv_iconst (v := (0 : Int32)) hx hb dJ7_copyOf_9075b_21 (by decide) ?_
    refine c_aload_n (t := 16) (x := x0) hx hb dJ7_copyOf_9075b_22 rfl (lv_at hl 1 rfl) ?_
    obtain ⟨i_4, hd_4, h⟩ := bd_of h
    refine c_alen C hM hd_4 (by decide) dJ7_copyOf_9075b_23 ?_
    refine lv_iload_n hx hb dJ7_copyOf_9075b_24 rfl (lv_at hl 2 rfl) ?_
    refine va_mmin (rest := [.int (0 : Int32), cr α_1 16 (some (cn σ 16)), .int (0 : Int32), cr α_1 16 x0]) hx hb (C.2.2.1.trans hl.1.symm) C.2.2.2.1 (C.2.2.2.2.1 _ (wl_in (i := 1067) (by decide +kernel))) (C.2.2.2.2.1 _ (wl_in (i := 786) (by decide +kernel))) (C.2.2.2.2.1 _ (wl_in (i := 28) (by decide +kernel))) (C.2.2.2.2.1 _ (wl_in (i := 787) (by decide +kernel))) (Nat.le_of_ble_eq_true rfl) (by have := cats_le [.int (0 : Int32), cr α_1 16 (some (cn σ 16)), .int (0 : Int32), cr α_1 16 x0] (Nat.le_of_ble_eq_true rfl); exact Nat.le_trans (Nat.add_le_add_right this 13) (Nat.le_of_ble_eq_true rfl)) (Nat.le_of_ble_eq_true rfl) (Nat.le_of_ble_eq_true rfl) dJ7_copyOf_9075b_25 ?_
    obtain ⟨i_5, hd_5, h⟩ := bd_of h
    obtain ⟨c_5, h⟩ := ko_of h
    obtain ⟨c_6, h⟩ := ko_of h
    obtain ⟨c_7, h⟩ := ko_of h
    obtain ⟨c_8, h⟩ := ko_of h
    obtain ⟨c_9, h⟩ := ko_of h
    obtain ⟨c_10, h⟩ := ko_of h
    refine c_copyb (rest := []) C hM h17 hd_4 hd_5 (Classical.not_not.mp c_5) (Classical.not_not.mp c_6) (Classical.not_not.mp c_7) (Classical.not_not.mp c_8) (Classical.not_not.mp c_9) (Classical.not_not.mp c_10) (wl_in (i := 1068) (by decide +kernel)) hl.1 (Nat.le_of_ble_eq_true rfl) (by have := cats_le [] (Nat.le_of_ble_eq_true rfl); exact Nat.le_trans (Nat.add_le_add_right this 18) (Nat.le_of_ble_eq_true rfl)) dJ7_copyOf_9075b_28 (fun H locs hM => ?_)
    refine c_aload_n (t := 16) (x := (some (cn σ 16))) hx hb dJ7_copyOf_9075b_31 rfl (lv_at hl 0 rfl) ?_
    exact c_ra (k := 16) (v := (some (cn σ 16))) C hM (fun h => by cases h) hr rfl hlk dJ7_copyOf_9075b_32 h
  · have h := br_T c_1 h
    cases h
/-! java/lang/AbstractStringBuilder.isLatin1()Z -/
abbrev rc_J5_isLatin1_aae02 : Room := { frames := 0, cells := 0, slots := 0, locals := 0 }
def fc_J5_isLatin1_aae02_18 (σ : cS) (s0 : Int32) : Option (Int32 × cS) :=
    if s0 &&& 1 = s0 then some (s0, σ) else none
set_option maxHeartbeats 4000000 in
set_option maxRecDepth 100000 in
theorem gc_J5_isLatin1_aae02_18 {p : Program} {l : Launch} {e : Env} {s : State} {m : MethodId} {args : Array Value} {below : List Frame} {meth : Method} {c : Code} {D : va_G} {ca : Nat → ClassId} {A : Nat → Prop} {σ0 : cS} {α : cAl} {o : Int32 × cS} (C : cC p s m args c cJ5_isLatin1_aae02 1 RJ5 D ca A α) (hr : meth.sig.returnType = (some FieldType.boolean)) (hlk : meth.locks = false) (h17 : 0 < cn σ0 17) : ∀ (σ : cS) (s0 : Int32) (H : Heap) (locs : List Loc) (ls : Array Slot), cM D ca true A s.heap σ0 α σ α H locs → lv_has ls 1 [] → fc_J5_isLatin1_aae02_18 σ s0 = some o → W p l e rc_J5_isLatin1_aae02 s m args below meth c H locs 0 0 (MQ below (cQ false D ca true A α σ0 (fun _ => some (.int o.1)) o.2) args s 0 0 A) (F0 m 18 ls [.int s0]) := by
  have hx := C.1
  have hb := C.2.1
  intro σ s0 H locs ls hM hl h
  unfold fc_J5_isLatin1_aae02_18 at h
  exact c_rz C hM (fun _ => rfl) hr hlk dJ5_isLatin1_aae02_18 h
def fc_J5_isLatin1_aae02_17 (σ : cS) : Option (Int32 × cS) :=
    fc_J5_isLatin1_aae02_18 σ (0 : Int32)
set_option maxHeartbeats 4000000 in
set_option maxRecDepth 100000 in
theorem gc_J5_isLatin1_aae02_17 {p : Program} {l : Launch} {e : Env} {s : State} {m : MethodId} {args : Array Value} {below : List Frame} {meth : Method} {c : Code} {D : va_G} {ca : Nat → ClassId} {A : Nat → Prop} {σ0 : cS} {α : cAl} {o : Int32 × cS} (C : cC p s m args c cJ5_isLatin1_aae02 1 RJ5 D ca A α) (hr : meth.sig.returnType = (some FieldType.boolean)) (hlk : meth.locks = false) (h17 : 0 < cn σ0 17) : ∀ (σ : cS) (H : Heap) (locs : List Loc) (ls : Array Slot), cM D ca true A s.heap σ0 α σ α H locs → lv_has ls 1 [] → fc_J5_isLatin1_aae02_17 σ = some o → W p l e rc_J5_isLatin1_aae02 s m args below meth c H locs 0 0 (MQ below (cQ false D ca true A α σ0 (fun _ => some (.int o.1)) o.2) args s 0 0 A) (F0 m 17 ls []) := by
  have hx := C.1
  have hb := C.2.1
  intro σ H locs ls hM hl h
  unfold fc_J5_isLatin1_aae02_17 at h
  refine lv_iconst (v := (0 : Int32)) hx hb dJ5_isLatin1_aae02_17 (by decide) ?_
  exact gc_J5_isLatin1_aae02_18 C hr hlk h17  _ _ _ _ _ hM (lv_sub hl [] rfl) h
def fc_J5_isLatin1_aae02 (σ : cS) : Option (Int32 × cS) :=
  if (1 : Int32) = 0 then
    fc_J5_isLatin1_aae02_17 σ
  else
    if (cI σ 11 0 1) = 0 then
      fc_J5_isLatin1_aae02_18 σ (1 : Int32)
    else
      fc_J5_isLatin1_aae02_17 σ
set_option maxHeartbeats 4000000 in
set_option maxRecDepth 100000 in
theorem cc_J5_isLatin1_aae02 (l : Launch) (D : va_G) (ca : Nat → ClassId) (A : Nat → Prop) (α : cAl) (σ : cS) (o : Int32 × cS) (h : fc_J5_isLatin1_aae02 σ  = some o) : cMet false l yJ5_isLatin1_aae02 cJ5_isLatin1_aae02 1 ((some FieldType.boolean)) rc_J5_isLatin1_aae02 0 0 D ca true A α σ [cr α 11 (some 0)] (fun _ => some (.int o.1)) o.2 := by
  refine Met.ofW (cc := cJ5_isLatin1_aae02) (maxL := 1) (ret := (some FieldType.boolean)) (by decide) rfl ?_
  intro p e s m args below meth c s₁ B hml hv
  obtain ⟨rfl, hP, hK, hD0, hSh, hA, hG⟩ := hv
  have C : cC p s m _ c cJ5_isLatin1_aae02 1 RJ5 D ca A α := ⟨B.exec, B.bytes, hml, findClass_of_methodNamed B.named, fun w hw => atoms_spec (ws := mWs yJ5_isLatin1_aae02 cJ5_isLatin1_aae02 1 ((some FieldType.boolean))) B.pre w (List.mem_cons_of_mem _ hw), hK, hG⟩
  have hM : cM D ca true A s.heap σ α σ α s.heap [] := ⟨hP, hD0, hSh, va_S.rf, hA, cX.rf⟩
  have h17 : 0 < cn σ 17 := c_17 hM
  have hr := B.returns
  have hlk := B.notSynchronized
  have hx := C.1
  have hb := C.2.1
  have hl := lv_entry ([cr α 11 (some 0)]) (n := 1) (Nat.le_of_ble_eq_true rfl)
  rw [lg_entry_eq]
  generalize (lg_sl ([cr α 11 (some 0)]) ++ List.replicate (1 - (lg_sl ([cr α 11 (some 0)])).length) Slot.unset).toArray = ls at hl ⊢
  have hl : lv_has ls 1 [(0, cr α 11 (some 0))] := hl
  unfold fc_J5_isLatin1_aae02 at h
  refine c_getCS C hM fl_J5_18 dJ5_isLatin1_aae02_0 ?_
  refine lv_if_eq (tgt := 17) hx hb dJ5_isLatin1_aae02_3 (by decide) (fun c_1 => ?_) (fun c_1 => ?_)
  · have h := br_T c_1 h
    exact gc_J5_isLatin1_aae02_17 C hr hlk h17  _ _ _ _ hM (lv_sub hl [] rfl) h
  · have h := br_F c_1 h
    refine c_aload_n (t := 11) (x := (some 0)) hx hb dJ5_isLatin1_aae02_6 rfl (lv_at hl 0 rfl) ?_
    refine c_geti C hM (k := 11) (f := 1) (hM.cst 11 0 rfl) rfl fl_J5_22 dJ5_isLatin1_aae02_7 ?_
    refine lv_if_ne (tgt := 17) hx hb dJ5_isLatin1_aae02_10 (by decide) (fun c_2 => ?_) (fun c_2 => ?_)
    · have h := br_F c_2 h
      exact gc_J5_isLatin1_aae02_17 C hr hlk h17  _ _ _ _ hM (lv_sub hl [] rfl) h
    · have h := br_T c_2 h
      refine lv_iconst (v := (1 : Int32)) hx hb dJ5_isLatin1_aae02_13 (by decide) ?_
      refine lv_goto (tgt := 18) hx hb dJ5_isLatin1_aae02_14 (by decide) ?_
      exact gc_J5_isLatin1_aae02_18 C hr hlk h17  _ _ _ _ _ hM (lv_sub hl [] rfl) h
/-! java/lang/AbstractStringBuilder.length()I -/
abbrev rc_J5_length_8abf5 : Room := { frames := 0, cells := 0, slots := 0, locals := 0 }
def fc_J5_length_8abf5 (σ : cS) : Option (Int32 × cS) :=
  some ((cI σ 11 0 3), σ)
set_option maxHeartbeats 4000000 in
set_option maxRecDepth 100000 in
theorem cc_J5_length_8abf5 (l : Launch) (D : va_G) (ca : Nat → ClassId) (A : Nat → Prop) (α : cAl) (σ : cS) (o : Int32 × cS) (h : fc_J5_length_8abf5 σ  = some o) : cMet false l yJ5_length_8abf5 cJ5_length_8abf5 1 ((some FieldType.int)) rc_J5_length_8abf5 0 0 D ca true A α σ [cr α 11 (some 0)] (fun _ => some (.int o.1)) o.2 := by
  refine Met.ofW (cc := cJ5_length_8abf5) (maxL := 1) (ret := (some FieldType.int)) (by decide) rfl ?_
  intro p e s m args below meth c s₁ B hml hv
  obtain ⟨rfl, hP, hK, hD0, hSh, hA, hG⟩ := hv
  have C : cC p s m _ c cJ5_length_8abf5 1 RJ5 D ca A α := ⟨B.exec, B.bytes, hml, findClass_of_methodNamed B.named, fun w hw => atoms_spec (ws := mWs yJ5_length_8abf5 cJ5_length_8abf5 1 ((some FieldType.int))) B.pre w (List.mem_cons_of_mem _ hw), hK, hG⟩
  have hM : cM D ca true A s.heap σ α σ α s.heap [] := ⟨hP, hD0, hSh, va_S.rf, hA, cX.rf⟩
  have h17 : 0 < cn σ 17 := c_17 hM
  have hr := B.returns
  have hlk := B.notSynchronized
  have hx := C.1
  have hb := C.2.1
  have hl := lv_entry ([cr α 11 (some 0)]) (n := 1) (Nat.le_of_ble_eq_true rfl)
  rw [lg_entry_eq]
  generalize (lg_sl ([cr α 11 (some 0)]) ++ List.replicate (1 - (lg_sl ([cr α 11 (some 0)])).length) Slot.unset).toArray = ls at hl ⊢
  have hl : lv_has ls 1 [(0, cr α 11 (some 0))] := hl
  unfold fc_J5_length_8abf5 at h
  refine c_aload_n (t := 11) (x := (some 0)) hx hb dJ5_length_8abf5_0 rfl (lv_at hl 0 rfl) ?_
  refine c_geti C hM (k := 11) (f := 3) (hM.cst 11 0 rfl) rfl fl_J5_79 dJ5_length_8abf5_1 ?_
  exact c_ri C hM (fun _ => rfl) hr hlk dJ5_length_8abf5_4 h
/-! java/lang/AbstractStringBuilder.charAt(I)C -/
abbrev rc_J5_charAt_5068e : Room := { frames := 3, cells := 0, slots := 0, locals := 81 }
def fc_J5_charAt_5068e (σ : cS) (x1 : Int32) : Option (Int32 × cS) :=
  (dr σ 16 (cR σ 11 0 0)).bind fun i_1 =>
  (fc_S_ck σ x1 (if ((nI (cln σ 16 i_1)) >>> ((cI σ 11 0 1) &&& 31)) < (cI σ 11 0 3) then ((nI (cln σ 16 i_1)) >>> ((cI σ 11 0 1) &&& 31)) else (cI σ 11 0 3))).bind fun r_2 =>
  if (cI σ 11 0 1) = 0 then
    (dr r_2 16 (cR σ 11 0 0)).bind fun i_3 =>
    if x1 < 0 ∨ cln r_2 16 i_3 ≤ x1.toNatClampNeg then none else
    if ((((cI r_2 16 i_3 x1.toNatClampNeg) &&& (255 : Int32)).toUInt32 % 65536).toInt32).toUInt32.toUInt16.toUInt32.toInt32 = ((((cI r_2 16 i_3 x1.toNatClampNeg) &&& (255 : Int32)).toUInt32 % 65536).toInt32) then some (((((cI r_2 16 i_3 x1.toNatClampNeg) &&& (255 : Int32)).toUInt32 % 65536).toInt32), r_2) else none
  else
    none
set_option maxHeartbeats 4000000 in
set_option maxRecDepth 100000 in
theorem cc_J5_charAt_5068e (l : Launch) (D : va_G) (ca : Nat → ClassId) (A : Nat → Prop) (α : cAl) (σ : cS) (x1 : Int32) (o : Int32 × cS) (h : fc_J5_charAt_5068e σ x1 = some o) : cMet false l yJ5_charAt_5068e cJ5_charAt_5068e 5 ((some FieldType.char)) rc_J5_charAt_5068e 0 0 D ca true A α σ [cr α 11 (some 0), .int x1] (fun _ => some (.int o.1)) o.2 := by
  refine Met.ofW (cc := cJ5_charAt_5068e) (maxL := 5) (ret := (some FieldType.char)) (by decide) rfl ?_
  intro p e s m args below meth c s₁ B hml hv
  obtain ⟨rfl, hP, hK, hD0, hSh, hA, hG⟩ := hv
  have C : cC p s m _ c cJ5_charAt_5068e 5 RJ5 D ca A α := ⟨B.exec, B.bytes, hml, findClass_of_methodNamed B.named, fun w hw => atoms_spec (ws := mWs yJ5_charAt_5068e cJ5_charAt_5068e 5 ((some FieldType.char))) B.pre w (List.mem_cons_of_mem _ hw), hK, hG⟩
  have hM : cM D ca true A s.heap σ α σ α s.heap [] := ⟨hP, hD0, hSh, va_S.rf, hA, cX.rf⟩
  have h17 : 0 < cn σ 17 := c_17 hM
  have hr := B.returns
  have hlk := B.notSynchronized
  have hx := C.1
  have hb := C.2.1
  have hl := lv_entry ([cr α 11 (some 0), .int x1]) (n := 5) (Nat.le_of_ble_eq_true rfl)
  rw [lg_entry_eq]
  generalize (lg_sl ([cr α 11 (some 0), .int x1]) ++ List.replicate (5 - (lg_sl ([cr α 11 (some 0), .int x1])).length) Slot.unset).toArray = ls at hl ⊢
  have hl : lv_has ls 5 [(0, cr α 11 (some 0)), (1, .int x1)] := hl
  unfold fc_J5_charAt_5068e at h
  refine c_aload_n (t := 11) (x := (some 0)) hx hb dJ5_charAt_5068e_0 rfl (lv_at hl 0 rfl) ?_
  refine c_geti C hM (k := 11) (f := 1) (hM.cst 11 0 rfl) rfl fl_J5_22 dJ5_charAt_5068e_1 ?_
  refine lv_istore_n (lv' := [(2, .int (cI σ 11 0 1)), (0, cr α 11 (some 0)), (1, .int x1)]) hx hb dJ5_charAt_5068e_4 rfl hl (by decide) rfl (fun ls hl => ?_)
  refine c_aload_n (t := 11) (x := (some 0)) hx hb dJ5_charAt_5068e_5 rfl (lv_at hl 1 rfl) ?_
  refine c_getrt C hM (k := 11) (f := 0) (t := 16) (hM.cst 11 0 rfl) (by decide) fl_J5_15 dJ5_charAt_5068e_6 ?_
  refine c_astore_n (t := 16) (x := (cR σ 11 0 0)) (lv' := [(3, cr α 16 (cR σ 11 0 0)), (2, .int (cI σ 11 0 1)), (0, cr α 11 (some 0)), (1, .int x1)]) hx hb dJ5_charAt_5068e_9 rfl hl (by decide) rfl (fun ls hl => ?_)
  refine c_aload_n (t := 11) (x := (some 0)) hx hb dJ5_charAt_5068e_10 rfl (lv_at hl 2 rfl) ?_
  refine c_geti C hM (k := 11) (f := 3) (hM.cst 11 0 rfl) rfl fl_J5_79 dJ5_charAt_5068e_11 ?_
  refine c_aload_n (t := 16) (x := (cR σ 11 0 0)) hx hb dJ5_charAt_5068e_14 rfl (lv_at hl 0 rfl) ?_
  obtain ⟨i_1, hd_1, h⟩ := bd_of h
  refine c_alen C hM hd_1 (by decide) dJ5_charAt_5068e_15 ?_
  refine lv_iload_n hx hb dJ5_charAt_5068e_16 rfl (lv_at hl 1 rfl) ?_
  refine lv_ishr hx hb dJ5_charAt_5068e_17 ?_
  refine va_mmin (rest := []) hx hb (C.2.2.1.trans hl.1.symm) C.2.2.2.1 (C.2.2.2.2.1 _ (wl_in (i := 1794) (by decide +kernel))) (C.2.2.2.2.1 _ (wl_in (i := 786) (by decide +kernel))) (C.2.2.2.2.1 _ (wl_in (i := 28) (by decide +kernel))) (C.2.2.2.2.1 _ (wl_in (i := 787) (by decide +kernel))) (Nat.le_of_ble_eq_true rfl) (by have := cats_le [] (Nat.le_of_ble_eq_true rfl); exact Nat.le_trans (Nat.add_le_add_right this 13) (Nat.le_of_ble_eq_true rfl)) (Nat.le_of_ble_eq_true rfl) (Nat.le_of_ble_eq_true rfl) dJ5_charAt_5068e_18 ?_
  refine lv_istore (lv' := [(4, .int (if ((nI (cln σ 16 i_1)) >>> ((cI σ 11 0 1) &&& 31)) < (cI σ 11 0 3) then ((nI (cln σ 16 i_1)) >>> ((cI σ 11 0 1) &&& 31)) else (cI σ 11 0 3))), (3, cr α 16 (cR σ 11 0 0)), (2, .int (cI σ 11 0 1)), (0, cr α 11 (some 0)), (1, .int x1)]) hx hb dJ5_charAt_5068e_21 hl (by decide) (by first | rfl | (simp only [List.filter, cr_cat]; rfl)) (fun ls hl => ?_)
  refine lv_iload_n hx hb dJ5_charAt_5068e_23 rfl (lv_at hl 4 rfl) ?_
  refine lv_iload hx hb dJ5_charAt_5068e_24 (lv_at hl 0 rfl) ?_
  obtain ⟨r_2, hr_2, h⟩ := bd_of h
  refine c_go0 (c_rS (As := [.int x1, .int (if ((nI (cln σ 16 i_1)) >>> ((cI σ 11 0 1) &&& 31)) < (cI σ 11 0 3) then ((nI (cln σ 16 i_1)) >>> ((cI σ 11 0 1) &&& 31)) else (cI σ 11 0 3))]) (rest := []) C hM h17 (cc_S_ck l D ca A α σ x1 (if ((nI (cln σ 16 i_1)) >>> ((cI σ 11 0 1) &&& 31)) < (cI σ 11 0 3) then ((nI (cln σ 16 i_1)) >>> ((cI σ 11 0 1) &&& 31)) else (cI σ 11 0 3)) _ hr_2) cw_J5_144 ⟨rfl, rfl⟩ ⟨Nat.le_of_ble_eq_true rfl, Nat.le_of_ble_eq_true rfl⟩ rfl rfl (cats_le _ (Nat.le_of_ble_eq_true rfl)) hl.1 dJ5_charAt_5068e_26 ⟨Nat.le_of_ble_eq_true rfl, Nat.le_of_ble_eq_true rfl⟩) hM (fun H locs hM => ?_)
  refine W_st (st' := []) rfl ?_
  refine lv_iload_n hx hb dJ5_charAt_5068e_29 rfl (lv_at hl 2 rfl) ?_
  refine lv_if_ne (tgt := 42) hx hb dJ5_charAt_5068e_30 (by decide) (fun c_1 => ?_) (fun c_1 => ?_)
  · have h := br_F c_1 h
    cases h
  · have h := br_T c_1 h
    refine c_aload_n (t := 16) (x := (cR σ 11 0 0)) hx hb dJ5_charAt_5068e_33 rfl (lv_at hl 1 rfl) ?_
    refine lv_iload_n hx hb dJ5_charAt_5068e_34 rfl (lv_at hl 4 rfl) ?_
    obtain ⟨i_3, hd_3, h⟩ := bd_of h
    obtain ⟨c_2, h⟩ := ko_of h
    refine c_bald C hM hd_3 c_2 dJ5_charAt_5068e_35 ?_
    refine lv_sipush (v := (255 : Int32)) hx hb dJ5_charAt_5068e_36 (by decide) ?_
    refine lv_iand hx hb dJ5_charAt_5068e_39 ?_
    refine lv_i2c (v := (((cI r_2 16 i_3 x1.toNatClampNeg) &&& (255 : Int32)).toUInt32 % 65536).toInt32) hx hb dJ5_charAt_5068e_40 rfl ?_
    exact c_rc C hM (fun _ => rfl) hr hlk dJ5_charAt_5068e_41 h
/-! java/lang/AbstractStringBuilder.newCapacity(I)I -/
abbrev rc_J5_newCapacity_0f7a4 : Room := { frames := 2, cells := 0, slots := 0, locals := 44 }
def fc_J5_newCapacity_0f7a4 (σ : cS) (x1 : Int32) : Option (Int32 × cS) :=
  (dr σ 16 (cR σ 11 0 0)).bind fun i_1 =>
  (fc_J8_newLength_cabcc σ (nI (cln σ 16 i_1)) ((x1 <<< ((cI σ 11 0 1) &&& 31)) - (nI (cln σ 16 i_1))) ((nI (cln σ 16 i_1)) + ((2 : Int32) <<< ((cI σ 11 0 1) &&& 31)))).bind fun r_2 =>
  if r_2.1 = (2147483647 : Int32) then
    none
  else
    some ((r_2.1 >>> ((cI r_2.2 11 0 1) &&& 31)), r_2.2)
set_option maxHeartbeats 4000000 in
set_option maxRecDepth 100000 in
theorem cc_J5_newCapacity_0f7a4 (l : Launch) (D : va_G) (ca : Nat → ClassId) (A : Nat → Prop) (α : cAl) (σ : cS) (x1 : Int32) (o : Int32 × cS) (h : fc_J5_newCapacity_0f7a4 σ x1 = some o) : cMet false l yJ5_newCapacity_0f7a4 cJ5_newCapacity_0f7a4 6 ((some FieldType.int)) rc_J5_newCapacity_0f7a4 0 0 D ca true A α σ [cr α 11 (some 0), .int x1] (fun _ => some (.int o.1)) o.2 := by
  refine Met.ofW (cc := cJ5_newCapacity_0f7a4) (maxL := 6) (ret := (some FieldType.int)) (by decide) rfl ?_
  intro p e s m args below meth c s₁ B hml hv
  obtain ⟨rfl, hP, hK, hD0, hSh, hA, hG⟩ := hv
  have C : cC p s m _ c cJ5_newCapacity_0f7a4 6 RJ5 D ca A α := ⟨B.exec, B.bytes, hml, findClass_of_methodNamed B.named, fun w hw => atoms_spec (ws := mWs yJ5_newCapacity_0f7a4 cJ5_newCapacity_0f7a4 6 ((some FieldType.int))) B.pre w (List.mem_cons_of_mem _ hw), hK, hG⟩
  have hM : cM D ca true A s.heap σ α σ α s.heap [] := ⟨hP, hD0, hSh, va_S.rf, hA, cX.rf⟩
  have h17 : 0 < cn σ 17 := c_17 hM
  have hr := B.returns
  have hlk := B.notSynchronized
  have hx := C.1
  have hb := C.2.1
  have hl := lv_entry ([cr α 11 (some 0), .int x1]) (n := 6) (Nat.le_of_ble_eq_true rfl)
  rw [lg_entry_eq]
  generalize (lg_sl ([cr α 11 (some 0), .int x1]) ++ List.replicate (6 - (lg_sl ([cr α 11 (some 0), .int x1])).length) Slot.unset).toArray = ls at hl ⊢
  have hl : lv_has ls 6 [(0, cr α 11 (some 0)), (1, .int x1)] := hl
  unfold fc_J5_newCapacity_0f7a4 at h
  refine c_aload_n (t := 11) (x := (some 0)) hx hb dJ5_newCapacity_0f7a4_0 rfl (lv_at hl 0 rfl) ?_
  refine c_getrt C hM (k := 11) (f := 0) (t := 16) (hM.cst 11 0 rfl) (by decide) fl_J5_15 dJ5_newCapacity_0f7a4_1 ?_
  obtain ⟨i_1, hd_1, h⟩ := bd_of h
  refine c_alen C hM hd_1 (by decide) dJ5_newCapacity_0f7a4_4 ?_
  refine lv_istore_n (lv' := [(2, .int (nI (cln σ 16 i_1))), (0, cr α 11 (some 0)), (1, .int x1)]) hx hb dJ5_newCapacity_0f7a4_5 rfl hl (by decide) rfl (fun ls hl => ?_)
  refine lv_iload_n hx hb dJ5_newCapacity_0f7a4_6 rfl (lv_at hl 2 rfl) ?_
  refine c_aload_n (t := 11) (x := (some 0)) hx hb dJ5_newCapacity_0f7a4_7 rfl (lv_at hl 1 rfl) ?_
  refine c_geti C hM (k := 11) (f := 1) (hM.cst 11 0 rfl) rfl fl_J5_22 dJ5_newCapacity_0f7a4_8 ?_
  refine lv_ishl hx hb dJ5_newCapacity_0f7a4_11 ?_
  refine lv_istore_n (lv' := [(3, .int (x1 <<< ((cI σ 11 0 1) &&& 31))), (2, .int (nI (cln σ 16 i_1))), (0, cr α 11 (some 0)), (1, .int x1)]) hx hb dJ5_newCapacity_0f7a4_12 rfl hl (by decide) rfl (fun ls hl => ?_)
  refine lv_iload_n hx hb dJ5_newCapacity_0f7a4_13 rfl (lv_at hl 0 rfl) ?_
  refine lv_iload_n hx hb dJ5_newCapacity_0f7a4_14 rfl (lv_at hl 1 rfl) ?_
  refine lv_isub hx hb dJ5_newCapacity_0f7a4_15 ?_
  refine lv_istore (lv' := [(4, .int ((x1 <<< ((cI σ 11 0 1) &&& 31)) - (nI (cln σ 16 i_1)))), (3, .int (x1 <<< ((cI σ 11 0 1) &&& 31))), (2, .int (nI (cln σ 16 i_1))), (0, cr α 11 (some 0)), (1, .int x1)]) hx hb dJ5_newCapacity_0f7a4_16 hl (by decide) rfl (fun ls hl => ?_)
  refine lv_iload_n hx hb dJ5_newCapacity_0f7a4_18 rfl (lv_at hl 2 rfl) ?_
  refine lv_iload hx hb dJ5_newCapacity_0f7a4_19 (lv_at hl 0 rfl) ?_
  refine lv_iload_n hx hb dJ5_newCapacity_0f7a4_21 rfl (lv_at hl 2 rfl) ?_
  refine lv_iconst (v := (2 : Int32)) hx hb dJ5_newCapacity_0f7a4_22 (by decide) ?_
  refine c_aload_n (t := 11) (x := (some 0)) hx hb dJ5_newCapacity_0f7a4_23 rfl (lv_at hl 3 rfl) ?_
  refine c_geti C hM (k := 11) (f := 1) (hM.cst 11 0 rfl) rfl fl_J5_22 dJ5_newCapacity_0f7a4_24 ?_
  refine lv_ishl hx hb dJ5_newCapacity_0f7a4_27 ?_
  refine lv_iadd hx hb dJ5_newCapacity_0f7a4_28 ?_
  obtain ⟨r_2, hr_2, h⟩ := bd_of h
  refine c_go0 (c_rS (As := [.int (nI (cln σ 16 i_1)), .int ((x1 <<< ((cI σ 11 0 1) &&& 31)) - (nI (cln σ 16 i_1))), .int ((nI (cln σ 16 i_1)) + ((2 : Int32) <<< ((cI σ 11 0 1) &&& 31)))]) (rest := []) C hM h17 (cc_J8_newLength_cabcc l D ca A α σ (nI (cln σ 16 i_1)) ((x1 <<< ((cI σ 11 0 1) &&& 31)) - (nI (cln σ 16 i_1))) ((nI (cln σ 16 i_1)) + ((2 : Int32) <<< ((cI σ 11 0 1) &&& 31))) _ hr_2) cw_J5_114 ⟨rfl, rfl⟩ ⟨Nat.le_of_ble_eq_true rfl, Nat.le_of_ble_eq_true rfl⟩ rfl rfl (cats_le _ (Nat.le_of_ble_eq_true rfl)) hl.1 dJ5_newCapacity_0f7a4_29 ⟨Nat.le_of_ble_eq_true rfl, Nat.le_of_ble_eq_true rfl⟩) hM (fun H locs hM => ?_)
  refine W_st (st' := [.int r_2.1]) rfl ?_
  refine lv_istore (lv' := [(5, .int r_2.1), (4, .int ((x1 <<< ((cI σ 11 0 1) &&& 31)) - (nI (cln σ 16 i_1)))), (3, .int (x1 <<< ((cI σ 11 0 1) &&& 31))), (2, .int (nI (cln σ 16 i_1))), (0, cr α 11 (some 0)), (1, .int x1)]) hx hb dJ5_newCapacity_0f7a4_32 hl (by decide) rfl (fun ls hl => ?_)
  refine lv_iload hx hb dJ5_newCapacity_0f7a4_34 (lv_at hl 0 rfl) ?_
  refine lv_ldc (own := RJ5) (v := (2147483647 : Int32)) hx hb C.2.2.2.1 (C.2.2.2.2.1 _ (wl_in (i := 1578) (by decide +kernel))) dJ5_newCapacity_0f7a4_36 ?_
  refine lv_icmp_ne (tgt := 51) hx hb dJ5_newCapacity_0f7a4_38 (by decide) (fun c_1 => ?_) (fun c_1 => ?_)
  · have h := br_F c_1 h
    refine lv_iload hx hb dJ5_newCapacity_0f7a4_51 (lv_at hl 0 rfl) ?_
    refine c_aload_n (t := 11) (x := (some 0)) hx hb dJ5_newCapacity_0f7a4_53 rfl (lv_at hl 4 rfl) ?_
    refine c_geti C hM (k := 11) (f := 1) (hM.cst 11 0 rfl) rfl fl_J5_22 dJ5_newCapacity_0f7a4_54 ?_
    refine lv_ishr hx hb dJ5_newCapacity_0f7a4_57 ?_
    exact c_ri C hM (fun _ => rfl) hr hlk dJ5_newCapacity_0f7a4_58 h
  · have h := br_T c_1 h
    cases h
/-! java/lang/AbstractStringBuilder.inflateIfNeededFor(Ljava/lang/String;)V -/
abbrev rc_J5_inflateIfNeededFor_a7421 : Room := { frames := 1, cells := 0, slots := 0, locals := 20 }
def fc_J5_inflateIfNeededFor_a7421_21 (σ : cS) : Option (cS) :=
    some σ
set_option maxHeartbeats 4000000 in
set_option maxRecDepth 100000 in
theorem gc_J5_inflateIfNeededFor_a7421_21 {p : Program} {l : Launch} {e : Env} {s : State} {m : MethodId} {args : Array Value} {below : List Frame} {meth : Method} {c : Code} {D : va_G} {ca : Nat → ClassId} {A : Nat → Prop} {σ0 : cS} {α : cAl} {o : cS} (C : cC p s m args c cJ5_inflateIfNeededFor_a7421 2 RJ5 D ca A α) (hr : meth.sig.returnType = (none : Option FieldType)) (hlk : meth.locks = false) (h17 : 0 < cn σ0 17) : ∀ (σ : cS) (H : Heap) (locs : List Loc) (ls : Array Slot), cM D ca true A s.heap σ0 α σ α H locs → lv_has ls 2 [] → fc_J5_inflateIfNeededFor_a7421_21 σ = some o → W p l e rc_J5_inflateIfNeededFor_a7421 s m args below meth c H locs 0 0 (MQ below (cQ false D ca true A α σ0 (fun _ => none) o) args s 0 0 A) (F0 m 21 ls []) := by
  have hx := C.1
  have hb := C.2.1
  intro σ H locs ls hM hl h
  unfold fc_J5_inflateIfNeededFor_a7421_21 at h
  exact c_rv C hM (fun _ => rfl) hr hlk dJ5_inflateIfNeededFor_a7421_21 h
def fc_J5_inflateIfNeededFor_a7421 (σ : cS) (x1 : Option Nat) : Option (cS) :=
  if (1 : Int32) = 0 then
    fc_J5_inflateIfNeededFor_a7421_21 σ
  else
    (dt x1).bind fun i_1 =>
    (fc_J0_coder_7d493 σ x1).bind fun r_2 =>
    if (cI σ 11 0 1) = r_2.1 then
      fc_J5_inflateIfNeededFor_a7421_21 r_2.2
    else
      none
set_option maxHeartbeats 4000000 in
set_option maxRecDepth 100000 in
theorem cc_J5_inflateIfNeededFor_a7421 (l : Launch) (D : va_G) (ca : Nat → ClassId) (A : Nat → Prop) (α : cAl) (σ : cS) (x1 : Option Nat) (o : cS) (h : fc_J5_inflateIfNeededFor_a7421 σ x1 = some o) : cMet false l yJ5_inflateIfNeededFor_a7421 cJ5_inflateIfNeededFor_a7421 2 ((none : Option FieldType)) rc_J5_inflateIfNeededFor_a7421 0 0 D ca true A α σ [cr α 11 (some 0), cr α 19 x1] (fun _ => none) o := by
  refine Met.ofW (cc := cJ5_inflateIfNeededFor_a7421) (maxL := 2) (ret := (none : Option FieldType)) (by decide) rfl ?_
  intro p e s m args below meth c s₁ B hml hv
  obtain ⟨rfl, hP, hK, hD0, hSh, hA, hG⟩ := hv
  have C : cC p s m _ c cJ5_inflateIfNeededFor_a7421 2 RJ5 D ca A α := ⟨B.exec, B.bytes, hml, findClass_of_methodNamed B.named, fun w hw => atoms_spec (ws := mWs yJ5_inflateIfNeededFor_a7421 cJ5_inflateIfNeededFor_a7421 2 ((none : Option FieldType))) B.pre w (List.mem_cons_of_mem _ hw), hK, hG⟩
  have hM : cM D ca true A s.heap σ α σ α s.heap [] := ⟨hP, hD0, hSh, va_S.rf, hA, cX.rf⟩
  have h17 : 0 < cn σ 17 := c_17 hM
  have hr := B.returns
  have hlk := B.notSynchronized
  have hx := C.1
  have hb := C.2.1
  have hl := lv_entry ([cr α 11 (some 0), cr α 19 x1]) (n := 2) (by simp [lg_r, lg_i, lg_l, lg_n])
  rw [lg_entry_eq]
  generalize (lg_sl ([cr α 11 (some 0), cr α 19 x1]) ++ List.replicate (2 - (lg_sl ([cr α 11 (some 0), cr α 19 x1])).length) Slot.unset).toArray = ls at hl ⊢
  have hl : lv_has ls 2 [(0, cr α 11 (some 0)), (1, cr α 19 x1)] := (lv_to hl (by simp only [la_r, la_i, la_l, la_n]))
  unfold fc_J5_inflateIfNeededFor_a7421 at h
  refine c_getCS C hM fl_J5_18 dJ5_inflateIfNeededFor_a7421_0 ?_
  refine lv_if_eq (tgt := 21) hx hb dJ5_inflateIfNeededFor_a7421_3 (by decide) (fun c_1 => ?_) (fun c_1 => ?_)
  · have h := br_T c_1 h
    exact gc_J5_inflateIfNeededFor_a7421_21 C hr hlk h17  _ _ _ _ hM (lv_sub hl [] rfl) h
  · have h := br_F c_1 h
    refine c_aload_n (t := 11) (x := (some 0)) hx hb dJ5_inflateIfNeededFor_a7421_6 rfl (lv_at hl 0 rfl) ?_
    refine c_geti C hM (k := 11) (f := 1) (hM.cst 11 0 rfl) rfl fl_J5_22 dJ5_inflateIfNeededFor_a7421_7 ?_
    refine c_aload_n (t := 19) (x := x1) hx hb dJ5_inflateIfNeededFor_a7421_10 rfl (lv_at hl 1 rfl) ?_
    obtain ⟨i_1, ht_1, h⟩ := bd_of h
    obtain ⟨r_2, hr_2, h⟩ := bd_of h
    refine c_go0 (c_rT (As := []) (rest := [.int (cI σ 11 0 1)]) C hM h17 ht_1 (cc_J0_coder_7d493 l D ca A α σ x1 _ hr_2) cw_J5_40 ⟨rfl, rfl⟩ ⟨Nat.le_of_ble_eq_true rfl, Nat.le_of_ble_eq_true rfl⟩ rfl rfl (cats_le _ (Nat.le_of_ble_eq_true rfl)) hl.1 dJ5_inflateIfNeededFor_a7421_11 ⟨Nat.le_of_ble_eq_true rfl, Nat.le_of_ble_eq_true rfl⟩) hM (fun H locs hM => ?_)
    refine W_st (st' := [.int r_2.1, .int (cI σ 11 0 1)]) rfl ?_
    refine lv_icmp_eq (tgt := 21) hx hb dJ5_inflateIfNeededFor_a7421_14 (by decide) (fun c_2 => ?_) (fun c_2 => ?_)
    · have h := br_T c_2 h
      exact gc_J5_inflateIfNeededFor_a7421_21 C hr hlk h17  _ _ _ _ hM (lv_sub hl [] rfl) h
    · have h := br_F c_2 h
      cases h
/-! java/lang/AbstractStringBuilder.putStringAt(ILjava/lang/String;)V -/
abbrev rc_J5_putStringAt_47b60 : Room := { frames := 2, cells := 0, slots := 0, locals := 49 }
def fc_J5_putStringAt_47b60 (σ : cS) (x1 : Int32) (x2 : Option Nat) : Option (cS) :=
  (fc_J5_inflateIfNeededFor_a7421 σ x2).bind fun r_1 =>
  (dt x2).bind fun i_2 =>
  (fc_J0_getBytes_840e7 r_1 x2 (cR r_1 11 0 0) x1 (cI r_1 11 0 1)).bind fun r_3 =>
  some r_3
set_option maxHeartbeats 4000000 in
set_option maxRecDepth 100000 in
theorem cc_J5_putStringAt_47b60 (l : Launch) (D : va_G) (ca : Nat → ClassId) (A : Nat → Prop) (α : cAl) (σ : cS) (x1 : Int32) (x2 : Option Nat) (o : cS) (h : fc_J5_putStringAt_47b60 σ x1 x2 = some o) : cMet false l yJ5_putStringAt_47b60 cJ5_putStringAt_47b60 3 ((none : Option FieldType)) rc_J5_putStringAt_47b60 0 0 D ca true A α σ [cr α 11 (some 0), .int x1, cr α 19 x2] (fun _ => none) o := by
  refine Met.ofW (cc := cJ5_putStringAt_47b60) (maxL := 3) (ret := (none : Option FieldType)) (by decide) rfl ?_
  intro p e s m args below meth c s₁ B hml hv
  obtain ⟨rfl, hP, hK, hD0, hSh, hA, hG⟩ := hv
  have C : cC p s m _ c cJ5_putStringAt_47b60 3 RJ5 D ca A α := ⟨B.exec, B.bytes, hml, findClass_of_methodNamed B.named, fun w hw => atoms_spec (ws := mWs yJ5_putStringAt_47b60 cJ5_putStringAt_47b60 3 ((none : Option FieldType))) B.pre w (List.mem_cons_of_mem _ hw), hK, hG⟩
  have hM : cM D ca true A s.heap σ α σ α s.heap [] := ⟨hP, hD0, hSh, va_S.rf, hA, cX.rf⟩
  have h17 : 0 < cn σ 17 := c_17 hM
  have hr := B.returns
  have hlk := B.notSynchronized
  have hx := C.1
  have hb := C.2.1
  have hl := lv_entry ([cr α 11 (some 0), .int x1, cr α 19 x2]) (n := 3) (by simp [lg_r, lg_i, lg_l, lg_n])
  rw [lg_entry_eq]
  generalize (lg_sl ([cr α 11 (some 0), .int x1, cr α 19 x2]) ++ List.replicate (3 - (lg_sl ([cr α 11 (some 0), .int x1, cr α 19 x2])).length) Slot.unset).toArray = ls at hl ⊢
  have hl : lv_has ls 3 [(0, cr α 11 (some 0)), (1, .int x1), (2, cr α 19 x2)] := (lv_to hl (by simp only [la_r, la_i, la_l, la_n]))
  unfold fc_J5_putStringAt_47b60 at h
  refine c_aload_n (t := 11) (x := (some 0)) hx hb dJ5_putStringAt_47b60_0 rfl (lv_at hl 0 rfl) ?_
  refine c_aload_n (t := 19) (x := x2) hx hb dJ5_putStringAt_47b60_1 rfl (lv_at hl 2 rfl) ?_
  obtain ⟨r_1, hr_1, h⟩ := bd_of h
  refine c_go0 (c_rU (As := [cr α 19 x2]) (rest := []) C hM h17 (hM.cst 11 0 rfl) (cc_J5_inflateIfNeededFor_a7421 l D ca A α σ x2 _ hr_1) cw_J5_397 ⟨rfl, rfl⟩ ⟨Nat.le_of_ble_eq_true rfl, Nat.le_of_ble_eq_true rfl⟩ rfl rfl (cats_le _ (Nat.le_of_ble_eq_true rfl)) hl.1 dJ5_putStringAt_47b60_2 ⟨Nat.le_of_ble_eq_true rfl, Nat.le_of_ble_eq_true rfl⟩) hM (fun H locs hM => ?_)
  refine W_st (st' := []) rfl ?_
  refine c_aload_n (t := 19) (x := x2) hx hb dJ5_putStringAt_47b60_5 rfl (lv_at hl 2 rfl) ?_
  refine c_aload_n (t := 11) (x := (some 0)) hx hb dJ5_putStringAt_47b60_6 rfl (lv_at hl 0 rfl) ?_
  refine c_getrt C hM (k := 11) (f := 0) (t := 16) (hM.cst 11 0 rfl) (by decide) fl_J5_15 dJ5_putStringAt_47b60_7 ?_
  refine lv_iload_n hx hb dJ5_putStringAt_47b60_10 rfl (lv_at hl 1 rfl) ?_
  refine c_aload_n (t := 11) (x := (some 0)) hx hb dJ5_putStringAt_47b60_11 rfl (lv_at hl 0 rfl) ?_
  refine c_geti C hM (k := 11) (f := 1) (hM.cst 11 0 rfl) rfl fl_J5_22 dJ5_putStringAt_47b60_12 ?_
  obtain ⟨i_2, ht_2, h⟩ := bd_of h
  obtain ⟨r_3, hr_3, h⟩ := bd_of h
  refine c_go0 (c_rT (As := [cr α 16 (cR r_1 11 0 0), .int x1, .int (cI r_1 11 0 1)]) (rest := []) C hM h17 ht_2 (cc_J0_getBytes_840e7 l D ca A α r_1 x2 (cR r_1 11 0 0) x1 (cI r_1 11 0 1) _ hr_3) cw_J5_399 ⟨rfl, rfl⟩ ⟨Nat.le_of_ble_eq_true rfl, Nat.le_of_ble_eq_true rfl⟩ rfl rfl (cats_le _ (Nat.le_of_ble_eq_true rfl)) hl.1 dJ5_putStringAt_47b60_15 ⟨Nat.le_of_ble_eq_true rfl, Nat.le_of_ble_eq_true rfl⟩) hM (fun H locs hM => ?_)
  refine W_st (st' := []) rfl ?_
  exact c_rv C hM (fun _ => rfl) hr hlk dJ5_putStringAt_47b60_18 h
/-! java/lang/StringBuilder.length()I -/
abbrev rc_J4_length_8abf5 : Room := { frames := 1, cells := 0, slots := 0, locals := 20 }
def fc_J4_length_8abf5 (σ : cS) : Option (Int32 × cS) :=
  (fc_J5_length_8abf5 σ).bind fun r_1 =>
  some (r_1.1, r_1.2)
set_option maxHeartbeats 4000000 in
set_option maxRecDepth 100000 in
theorem cc_J4_length_8abf5 (l : Launch) (D : va_G) (ca : Nat → ClassId) (A : Nat → Prop) (α : cAl) (σ : cS) (o : Int32 × cS) (h : fc_J4_length_8abf5 σ  = some o) : cMet false l yJ4_length_8abf5 cJ4_length_8abf5 1 ((some FieldType.int)) rc_J4_length_8abf5 0 0 D ca true A α σ [cr α 11 (some 0)] (fun _ => some (.int o.1)) o.2 := by
  refine Met.ofW (cc := cJ4_length_8abf5) (maxL := 1) (ret := (some FieldType.int)) (by decide) rfl ?_
  intro p e s m args below meth c s₁ B hml hv
  obtain ⟨rfl, hP, hK, hD0, hSh, hA, hG⟩ := hv
  have C : cC p s m _ c cJ4_length_8abf5 1 RJ4 D ca A α := ⟨B.exec, B.bytes, hml, findClass_of_methodNamed B.named, fun w hw => atoms_spec (ws := mWs yJ4_length_8abf5 cJ4_length_8abf5 1 ((some FieldType.int))) B.pre w (List.mem_cons_of_mem _ hw), hK, hG⟩
  have hM : cM D ca true A s.heap σ α σ α s.heap [] := ⟨hP, hD0, hSh, va_S.rf, hA, cX.rf⟩
  have h17 : 0 < cn σ 17 := c_17 hM
  have hr := B.returns
  have hlk := B.notSynchronized
  have hx := C.1
  have hb := C.2.1
  have hl := lv_entry ([cr α 11 (some 0)]) (n := 1) (Nat.le_of_ble_eq_true rfl)
  rw [lg_entry_eq]
  generalize (lg_sl ([cr α 11 (some 0)]) ++ List.replicate (1 - (lg_sl ([cr α 11 (some 0)])).length) Slot.unset).toArray = ls at hl ⊢
  have hl : lv_has ls 1 [(0, cr α 11 (some 0))] := hl
  unfold fc_J4_length_8abf5 at h
  refine c_aload_n (t := 11) (x := (some 0)) hx hb dJ4_length_8abf5_0 rfl (lv_at hl 0 rfl) ?_
  obtain ⟨r_1, hr_1, h⟩ := bd_of h
  refine c_go0 (c_rSU (As := []) (rest := []) C hM h17 (hM.cst 11 0 rfl) (cc_J5_length_8abf5 l D ca A α σ _ hr_1) cw_J4_343 ⟨rfl, rfl⟩ ⟨Nat.le_of_ble_eq_true rfl, Nat.le_of_ble_eq_true rfl⟩ rfl rfl (cats_le _ (Nat.le_of_ble_eq_true rfl)) hl.1 dJ4_length_8abf5_1 ⟨Nat.le_of_ble_eq_true rfl, Nat.le_of_ble_eq_true rfl⟩) hM (fun H locs hM => ?_)
  refine W_st (st' := [.int r_1.1]) rfl ?_
  exact c_ri C hM (fun _ => rfl) hr hlk dJ4_length_8abf5_4 h
/-! java/lang/StringBuilder.charAt(I)C -/
abbrev rc_J4_charAt_5068e : Room := { frames := 4, cells := 0, slots := 0, locals := 105 }
def fc_J4_charAt_5068e (σ : cS) (x1 : Int32) : Option (Int32 × cS) :=
  (fc_J5_charAt_5068e σ x1).bind fun r_1 =>
  if r_1.1.toUInt32.toUInt16.toUInt32.toInt32 = r_1.1 then some (r_1.1, r_1.2) else none
set_option maxHeartbeats 4000000 in
set_option maxRecDepth 100000 in
theorem cc_J4_charAt_5068e (l : Launch) (D : va_G) (ca : Nat → ClassId) (A : Nat → Prop) (α : cAl) (σ : cS) (x1 : Int32) (o : Int32 × cS) (h : fc_J4_charAt_5068e σ x1 = some o) : cMet false l yJ4_charAt_5068e cJ4_charAt_5068e 2 ((some FieldType.char)) rc_J4_charAt_5068e 0 0 D ca true A α σ [cr α 11 (some 0), .int x1] (fun _ => some (.int o.1)) o.2 := by
  refine Met.ofW (cc := cJ4_charAt_5068e) (maxL := 2) (ret := (some FieldType.char)) (by decide) rfl ?_
  intro p e s m args below meth c s₁ B hml hv
  obtain ⟨rfl, hP, hK, hD0, hSh, hA, hG⟩ := hv
  have C : cC p s m _ c cJ4_charAt_5068e 2 RJ4 D ca A α := ⟨B.exec, B.bytes, hml, findClass_of_methodNamed B.named, fun w hw => atoms_spec (ws := mWs yJ4_charAt_5068e cJ4_charAt_5068e 2 ((some FieldType.char))) B.pre w (List.mem_cons_of_mem _ hw), hK, hG⟩
  have hM : cM D ca true A s.heap σ α σ α s.heap [] := ⟨hP, hD0, hSh, va_S.rf, hA, cX.rf⟩
  have h17 : 0 < cn σ 17 := c_17 hM
  have hr := B.returns
  have hlk := B.notSynchronized
  have hx := C.1
  have hb := C.2.1
  have hl := lv_entry ([cr α 11 (some 0), .int x1]) (n := 2) (Nat.le_of_ble_eq_true rfl)
  rw [lg_entry_eq]
  generalize (lg_sl ([cr α 11 (some 0), .int x1]) ++ List.replicate (2 - (lg_sl ([cr α 11 (some 0), .int x1])).length) Slot.unset).toArray = ls at hl ⊢
  have hl : lv_has ls 2 [(0, cr α 11 (some 0)), (1, .int x1)] := hl
  unfold fc_J4_charAt_5068e at h
  refine c_aload_n (t := 11) (x := (some 0)) hx hb dJ4_charAt_5068e_0 rfl (lv_at hl 0 rfl) ?_
  refine lv_iload_n hx hb dJ4_charAt_5068e_1 rfl (lv_at hl 1 rfl) ?_
  obtain ⟨r_1, hr_1, h⟩ := bd_of h
  refine c_go0 (c_rSU (As := [.int x1]) (rest := []) C hM h17 (hM.cst 11 0 rfl) (cc_J5_charAt_5068e l D ca A α σ x1 _ hr_1) cw_J4_329 ⟨rfl, rfl⟩ ⟨Nat.le_of_ble_eq_true rfl, Nat.le_of_ble_eq_true rfl⟩ rfl rfl (cats_le _ (Nat.le_of_ble_eq_true rfl)) hl.1 dJ4_charAt_5068e_2 ⟨Nat.le_of_ble_eq_true rfl, Nat.le_of_ble_eq_true rfl⟩) hM (fun H locs hM => ?_)
  refine W_st (st' := [.int r_1.1]) rfl ?_
  exact c_rc C hM (fun _ => rfl) hr hlk dJ4_charAt_5068e_5 h
/-! java/lang/AbstractStringBuilder.ensureCapacityInternal(I)V -/
abbrev rc_J5_ensureCapacityInternal_d00dfS : Room := { frames := 3, cells := 1, slots := 200, locals := 69 }
def fc_J5_ensureCapacityInternal_d00dfS_38 (σ : cS) : Option (cS) :=
    some σ
set_option maxHeartbeats 4000000 in
set_option maxRecDepth 100000 in
theorem gc_J5_ensureCapacityInternal_d00dfS_38 {p : Program} {l : Launch} {e : Env} {s : State} {m : MethodId} {args : Array Value} {below : List Frame} {meth : Method} {c : Code} {D : va_G} {ca : Nat → ClassId} {A : Nat → Prop} {σ0 : cS} {α0 : cAl} {o : cS} (C : cC p s m args c cJ5_ensureCapacityInternal_d00df 3 RJ5 D ca A α0) (hr : meth.sig.returnType = (none : Option FieldType)) (hlk : meth.locks = false) (h17 : 0 < cn σ0 17) : ∀ (α : cAl) (σ : cS) (H : Heap) (locs : List Loc) (ls : Array Slot), cM D ca true A s.heap σ0 α0 σ α H locs → lv_has ls 3 [] → fc_J5_ensureCapacityInternal_d00dfS_38 σ = some o → W p l e rc_J5_ensureCapacityInternal_d00dfS s m args below meth c H locs 1 200 (MQ below (cQ true D ca true A α0 σ0 (fun _ => none) o) args s 1 200 A) (F0 m 38 ls []) := by
  have hx := C.1
  have hb := C.2.1
  intro α σ H locs ls hM hl h
  unfold fc_J5_ensureCapacityInternal_d00dfS_38 at h
  exact c_rv C hM (fun h => by cases h) hr hlk dJ5_ensureCapacityInternal_d00df_38 h
def fc_J5_ensureCapacityInternal_d00dfS (σ : cS) (x1 : Int32) : Option (cS) :=
  (dr σ 16 (cR σ 11 0 0)).bind fun i_1 =>
  if (x1 - ((nI (cln σ 16 i_1)) >>> ((cI σ 11 0 1) &&& 31))) ≤ 0 then
    fc_J5_ensureCapacityInternal_d00dfS_38 σ
  else
    (fc_J5_newCapacity_0f7a4 σ x1).bind fun r_2 =>
    (fc_J7_copyOf_9075b r_2.2 (cR σ 11 0 0) (r_2.1 <<< ((cI r_2.2 11 0 1) &&& 31))).bind fun r_3 =>
    if ¬ (lvq r_3.2 16 r_3.1 = true) then none else
    fc_J5_ensureCapacityInternal_d00dfS_38 (uR r_3.2 11 0 0 r_3.1)
set_option maxHeartbeats 4000000 in
set_option maxRecDepth 100000 in
theorem cc_J5_ensureCapacityInternal_d00dfS (l : Launch) (D : va_G) (ca : Nat → ClassId) (A : Nat → Prop) (α : cAl) (σ : cS) (x1 : Int32) (o : cS) (h : fc_J5_ensureCapacityInternal_d00dfS σ x1 = some o) : cMet true l yJ5_ensureCapacityInternal_d00df cJ5_ensureCapacityInternal_d00df 3 ((none : Option FieldType)) rc_J5_ensureCapacityInternal_d00dfS 1 200 D ca true A α σ [cr α 11 (some 0), .int x1] (fun _ => none) o := by
  refine Met.ofW (cc := cJ5_ensureCapacityInternal_d00df) (maxL := 3) (ret := (none : Option FieldType)) (by decide) rfl ?_
  intro p e s m args below meth c s₁ B hml hv
  obtain ⟨rfl, hP, hK, hD0, hSh, hA, hG⟩ := hv
  have C : cC p s m _ c cJ5_ensureCapacityInternal_d00df 3 RJ5 D ca A α := ⟨B.exec, B.bytes, hml, findClass_of_methodNamed B.named, fun w hw => atoms_spec (ws := mWs yJ5_ensureCapacityInternal_d00df cJ5_ensureCapacityInternal_d00df 3 ((none : Option FieldType))) B.pre w (List.mem_cons_of_mem _ hw), hK, hG⟩
  have hM : cM D ca true A s.heap σ α σ α s.heap [] := ⟨hP, hD0, hSh, va_S.rf, hA, cX.rf⟩
  have h17 : 0 < cn σ 17 := c_17 hM
  have hr := B.returns
  have hlk := B.notSynchronized
  have hx := C.1
  have hb := C.2.1
  have hl := lv_entry ([cr α 11 (some 0), .int x1]) (n := 3) (Nat.le_of_ble_eq_true rfl)
  rw [lg_entry_eq]
  generalize (lg_sl ([cr α 11 (some 0), .int x1]) ++ List.replicate (3 - (lg_sl ([cr α 11 (some 0), .int x1])).length) Slot.unset).toArray = ls at hl ⊢
  have hl : lv_has ls 3 [(0, cr α 11 (some 0)), (1, .int x1)] := hl
  unfold fc_J5_ensureCapacityInternal_d00dfS at h
  refine c_aload_n (t := 11) (x := (some 0)) hx hb dJ5_ensureCapacityInternal_d00df_0 rfl (lv_at hl 0 rfl) ?_
  refine c_getrt C hM (k := 11) (f := 0) (t := 16) (hM.cst 11 0 rfl) (by decide) fl_J5_15 dJ5_ensureCapacityInternal_d00df_1 ?_
  obtain ⟨i_1, hd_1, h⟩ := bd_of h
  refine c_alen C hM hd_1 (by decide) dJ5_ensureCapacityInternal_d00df_4 ?_
  refine c_aload_n (t := 11) (x := (some 0)) hx hb dJ5_ensureCapacityInternal_d00df_5 rfl (lv_at hl 0 rfl) ?_
  refine c_geti C hM (k := 11) (f := 1) (hM.cst 11 0 rfl) rfl fl_J5_22 dJ5_ensureCapacityInternal_d00df_6 ?_
  refine lv_ishr hx hb dJ5_ensureCapacityInternal_d00df_9 ?_
  refine lv_istore_n (lv' := [(2, .int ((nI (cln σ 16 i_1)) >>> ((cI σ 11 0 1) &&& 31))), (0, cr α 11 (some 0)), (1, .int x1)]) hx hb dJ5_ensureCapacityInternal_d00df_10 rfl hl (by decide) rfl (fun ls hl => ?_)
  refine lv_iload_n hx hb dJ5_ensureCapacityInternal_d00df_11 rfl (lv_at hl 2 rfl) ?_
  refine lv_iload_n hx hb dJ5_ensureCapacityInternal_d00df_12 rfl (lv_at hl 0 rfl) ?_
  refine lv_isub hx hb dJ5_ensureCapacityInternal_d00df_13 ?_
  refine lv_if_le (tgt := 38) hx hb dJ5_ensureCapacityInternal_d00df_14 (by decide) (fun c_1 => ?_) (fun c_1 => ?_)
  · have h := br_T c_1 h
    refine W.widen (k := 1) (n := 200) (Nat.le_of_ble_eq_true rfl) (Nat.le_of_ble_eq_true rfl) ?_
    exact gc_J5_ensureCapacityInternal_d00dfS_38 C hr hlk h17  α _ _ _ _ hM (lv_sub hl [] rfl) h
  · have h := br_F c_1 h
    refine c_aload_n (t := 11) (x := (some 0)) hx hb dJ5_ensureCapacityInternal_d00df_17 rfl (lv_at hl 1 rfl) ?_
    refine c_aload_n (t := 11) (x := (some 0)) hx hb dJ5_ensureCapacityInternal_d00df_18 rfl (lv_at hl 1 rfl) ?_
    refine c_getrt C hM (k := 11) (f := 0) (t := 16) (hM.cst 11 0 rfl) (by decide) fl_J5_15 dJ5_ensureCapacityInternal_d00df_19 ?_
    refine c_aload_n (t := 11) (x := (some 0)) hx hb dJ5_ensureCapacityInternal_d00df_22 rfl (lv_at hl 1 rfl) ?_
    refine lv_iload_n hx hb dJ5_ensureCapacityInternal_d00df_23 rfl (lv_at hl 2 rfl) ?_
    obtain ⟨r_2, hr_2, h⟩ := bd_of h
    refine c_go0 (c_rU (As := [.int x1]) (rest := [cr α 16 (cR σ 11 0 0), cr α 11 (some 0)]) C hM h17 (hM.cst 11 0 rfl) (cc_J5_newCapacity_0f7a4 l D ca A α σ x1 _ hr_2) cw_J5_104 ⟨rfl, rfl⟩ ⟨Nat.le_of_ble_eq_true rfl, Nat.le_of_ble_eq_true rfl⟩ rfl rfl (cats_le _ (Nat.le_of_ble_eq_true rfl)) hl.1 dJ5_ensureCapacityInternal_d00df_24 ⟨Nat.le_of_ble_eq_true rfl, Nat.le_of_ble_eq_true rfl⟩) hM (fun H locs hM => ?_)
    refine W_st (st' := [.int r_2.1, cr α 16 (cR σ 11 0 0), cr α 11 (some 0)]) rfl ?_
    refine c_aload_n (t := 11) (x := (some 0)) hx hb dJ5_ensureCapacityInternal_d00df_27 rfl (lv_at hl 1 rfl) ?_
    refine c_geti C hM (k := 11) (f := 1) (hM.cst 11 0 rfl) rfl fl_J5_22 dJ5_ensureCapacityInternal_d00df_28 ?_
    refine lv_ishl hx hb dJ5_ensureCapacityInternal_d00df_31 ?_
    have hlv_4 := c_lvc hM 11 0 rfl
    obtain ⟨r_3, hr_3, h⟩ := bd_of h
    refine c_go1 (c_rS (As := [cr α 16 (cR σ 11 0 0), .int (r_2.1 <<< ((cI r_2.2 11 0 1) &&& 31))]) (rest := [cr α 11 (some 0)]) C hM h17 (cc_J7_copyOf_9075b l D ca A α r_2.2 (cR σ 11 0 0) (r_2.1 <<< ((cI r_2.2 11 0 1) &&& 31)) _ hr_3) cw_J5_108 ⟨rfl, rfl⟩ ⟨Nat.le_of_ble_eq_true rfl, Nat.le_of_ble_eq_true rfl⟩ rfl rfl (cats_le _ (Nat.le_of_ble_eq_true rfl)) hl.1 dJ5_ensureCapacityInternal_d00df_32 ⟨Nat.le_of_ble_eq_true rfl, Nat.le_of_ble_eq_true rfl⟩) hM (fun H locs α_1 hX_3 hM => ?_)
    have e_4 : cr α 11 (some 0) = cr α_1 11 (some 0) := cr_to hX_3 hlv_4
    have hl := lv_to (lv_sub hl [] rfl) (show ([] : List (Nat × Value)) = [] by rfl)
    refine W_st (st' := [cr α_1 16 r_3.1, cr α_1 11 (some 0)]) (show ([cr α_1 16 r_3.1, cr α 11 (some 0)] : List Value) = _ by rw [e_4]) ?_
    obtain ⟨c_2, h⟩ := ko_of h
    refine c_putr C hM (k := 11) (f := 0) (t := 16) (v := r_3.1) (hM.cst 11 0 rfl) (by decide) (fun _ => Or.inl (by decide)) (Classical.not_not.mp c_2) fl_J5_15 (Or.inl rfl) dJ5_ensureCapacityInternal_d00df_35 (fun H locs hM => ?_)
    exact gc_J5_ensureCapacityInternal_d00dfS_38 C hr hlk h17  α_1 _ _ _ _ hM (lv_sub hl [] rfl) h
/-! java/lang/AbstractStringBuilder.setLength(I)V -/
abbrev rc_J5_setLength_d00dfS : Room := { frames := 4, cells := 1, slots := 200, locals := 91 }
def fc_J5_setLength_d00dfS_76 (σ : cS) (x1 : Int32) : Option (cS) :=
    some (uI σ 11 0 3 x1)
set_option maxHeartbeats 4000000 in
set_option maxRecDepth 100000 in
theorem gc_J5_setLength_d00dfS_76 {p : Program} {l : Launch} {e : Env} {s : State} {m : MethodId} {args : Array Value} {below : List Frame} {meth : Method} {c : Code} {D : va_G} {ca : Nat → ClassId} {A : Nat → Prop} {σ0 : cS} {α0 : cAl} {o : cS} (C : cC p s m args c cJ5_setLength_d00df 2 RJ5 D ca A α0) (hr : meth.sig.returnType = (none : Option FieldType)) (hlk : meth.locks = false) (h17 : 0 < cn σ0 17) : ∀ (α : cAl) (σ : cS) (x1 : Int32) (H : Heap) (locs : List Loc) (ls : Array Slot), cM D ca true A s.heap σ0 α0 σ α H locs → lv_has ls 2 [(0, cr α 11 (some 0)), (1, .int x1)] → fc_J5_setLength_d00dfS_76 σ x1 = some o → W p l e rc_J5_setLength_d00dfS s m args below meth c H locs 1 200 (MQ below (cQ true D ca true A α0 σ0 (fun _ => none) o) args s 1 200 A) (F0 m 76 ls []) := by
  have hx := C.1
  have hb := C.2.1
  intro α σ x1 H locs ls hM hl h
  unfold fc_J5_setLength_d00dfS_76 at h
  refine c_aload_n (t := 11) (x := (some 0)) hx hb dJ5_setLength_d00df_76 rfl (lv_at hl 0 rfl) ?_
  refine lv_iload_n hx hb dJ5_setLength_d00df_77 rfl (lv_at hl 1 rfl) ?_
  refine c_puti C hM (k := 11) (f := 3) (hM.cst 11 0 rfl) rfl fl_J5_79 (Or.inl rfl) dJ5_setLength_d00df_78 (fun H locs hM => ?_)
  exact c_rv C hM (fun h => by cases h) hr hlk dJ5_setLength_d00df_81 h
def fc_J5_setLength_d00dfS (σ : cS) (x1 : Int32) : Option (cS) :=
  if 0 ≤ x1 then
    (fc_J5_ensureCapacityInternal_d00dfS σ x1).bind fun r_1 =>
    if x1 ≤ (cI r_1 11 0 3) then
      if (cI r_1 11 0 3) ≤ x1 then
        fc_J5_setLength_d00dfS_76 r_1 x1
      else
        if ¬ ((1 : Int32) &&& 1 = (1 : Int32)) then none else
        fc_J5_setLength_d00dfS_76 (uI r_1 11 0 2 (1 : Int32)) x1
    else
      none
  else
    none
set_option maxHeartbeats 4000000 in
set_option maxRecDepth 100000 in
theorem cc_J5_setLength_d00dfS (l : Launch) (D : va_G) (ca : Nat → ClassId) (A : Nat → Prop) (α : cAl) (σ : cS) (x1 : Int32) (o : cS) (h : fc_J5_setLength_d00dfS σ x1 = some o) : cMet true l yJ5_setLength_d00df cJ5_setLength_d00df 2 ((none : Option FieldType)) rc_J5_setLength_d00dfS 1 200 D ca true A α σ [cr α 11 (some 0), .int x1] (fun _ => none) o := by
  refine Met.ofW (cc := cJ5_setLength_d00df) (maxL := 2) (ret := (none : Option FieldType)) (by decide) rfl ?_
  intro p e s m args below meth c s₁ B hml hv
  obtain ⟨rfl, hP, hK, hD0, hSh, hA, hG⟩ := hv
  have C : cC p s m _ c cJ5_setLength_d00df 2 RJ5 D ca A α := ⟨B.exec, B.bytes, hml, findClass_of_methodNamed B.named, fun w hw => atoms_spec (ws := mWs yJ5_setLength_d00df cJ5_setLength_d00df 2 ((none : Option FieldType))) B.pre w (List.mem_cons_of_mem _ hw), hK, hG⟩
  have hM : cM D ca true A s.heap σ α σ α s.heap [] := ⟨hP, hD0, hSh, va_S.rf, hA, cX.rf⟩
  have h17 : 0 < cn σ 17 := c_17 hM
  have hr := B.returns
  have hlk := B.notSynchronized
  have hx := C.1
  have hb := C.2.1
  have hl := lv_entry ([cr α 11 (some 0), .int x1]) (n := 2) (Nat.le_of_ble_eq_true rfl)
  rw [lg_entry_eq]
  generalize (lg_sl ([cr α 11 (some 0), .int x1]) ++ List.replicate (2 - (lg_sl ([cr α 11 (some 0), .int x1])).length) Slot.unset).toArray = ls at hl ⊢
  have hl : lv_has ls 2 [(0, cr α 11 (some 0)), (1, .int x1)] := hl
  unfold fc_J5_setLength_d00dfS at h
  refine lv_iload_n hx hb dJ5_setLength_d00df_0 rfl (lv_at hl 1 rfl) ?_
  refine lv_if_ge (tgt := 13) hx hb dJ5_setLength_d00df_1 (by decide) (fun c_1 => ?_) (fun c_1 => ?_)
  · have h := br_T c_1 h
    refine c_aload_n (t := 11) (x := (some 0)) hx hb dJ5_setLength_d00df_13 rfl (lv_at hl 0 rfl) ?_
    refine lv_iload_n hx hb dJ5_setLength_d00df_14 rfl (lv_at hl 1 rfl) ?_
    have hlv_2 := c_lvc hM 11 0 rfl
    obtain ⟨r_1, hr_1, h⟩ := bd_of h
    refine c_go1 (c_rU (As := [.int x1]) (rest := []) C hM h17 (hM.cst 11 0 rfl) (cc_J5_ensureCapacityInternal_d00dfS l D ca A α σ x1 _ hr_1) cw_J5_100 ⟨rfl, rfl⟩ ⟨Nat.le_of_ble_eq_true rfl, Nat.le_of_ble_eq_true rfl⟩ rfl rfl (cats_le _ (Nat.le_of_ble_eq_true rfl)) hl.1 dJ5_setLength_d00df_15 ⟨Nat.le_of_ble_eq_true rfl, Nat.le_of_ble_eq_true rfl⟩) hM (fun H locs α_1 hX_1 hM => ?_)
    have e_2 : cr α 11 (some 0) = cr α_1 11 (some 0) := cr_to hX_1 hlv_2
    have hl := lv_to (lv_sub hl [0, 1] rfl) (show ([(0, cr α 11 (some 0)), (1, .int x1)] : List (Nat × Value)) = [(0, cr α_1 11 (some 0)), (1, .int x1)] by rw [e_2])
    refine W_st (st' := []) rfl ?_
    refine c_aload_n (t := 11) (x := (some 0)) hx hb dJ5_setLength_d00df_18 rfl (lv_at hl 0 rfl) ?_
    refine c_geti C hM (k := 11) (f := 3) (hM.cst 11 0 rfl) rfl fl_J5_79 dJ5_setLength_d00df_19 ?_
    refine lv_iload_n hx hb dJ5_setLength_d00df_22 rfl (lv_at hl 1 rfl) ?_
    refine lv_icmp_ge (tgt := 63) hx hb dJ5_setLength_d00df_23 (by decide) (fun c_2 => ?_) (fun c_2 => ?_)
    · have h := br_T c_2 h
      refine c_aload_n (t := 11) (x := (some 0)) hx hb dJ5_setLength_d00df_63 rfl (lv_at hl 0 rfl) ?_
      refine c_geti C hM (k := 11) (f := 3) (hM.cst 11 0 rfl) rfl fl_J5_79 dJ5_setLength_d00df_64 ?_
      refine lv_iload_n hx hb dJ5_setLength_d00df_67 rfl (lv_at hl 1 rfl) ?_
      refine lv_icmp_le (tgt := 76) hx hb dJ5_setLength_d00df_68 (by decide) (fun c_3 => ?_) (fun c_3 => ?_)
      · have h := br_T c_3 h
        exact gc_J5_setLength_d00dfS_76 C hr hlk h17  α_1 _ _ _ _ _ hM (lv_sub hl [0, 1] rfl) h
      · have h := br_F c_3 h
        refine c_aload_n (t := 11) (x := (some 0)) hx hb dJ5_setLength_d00df_71 rfl (lv_at hl 0 rfl) ?_
        refine lv_iconst (v := (1 : Int32)) hx hb dJ5_setLength_d00df_72 (by decide) ?_
        obtain ⟨c_4, h⟩ := ko_of h
        refine c_putz C hM (k := 11) (f := 2) (hM.cst 11 0 rfl) rfl (Classical.not_not.mp c_4) fl_J5_73 (Or.inl rfl) dJ5_setLength_d00df_73 (fun H locs hM => ?_)
        exact gc_J5_setLength_d00dfS_76 C hr hlk h17  α_1 _ _ _ _ _ hM (lv_sub hl [0, 1] rfl) h
    · have h := br_F c_2 h
      cases h
  · have h := br_F c_1 h
    cases h
/-! java/lang/AbstractStringBuilder.append(Ljava/lang/String;)Ljava/lang/AbstractStringBuilder; -/
abbrev rc_J5_append_cf1ceS : Room := { frames := 4, cells := 1, slots := 200, locals := 91 }
def fc_J5_append_cf1ceS (σ : cS) (x1 : Option Nat) : Option (cS) :=
  if x1 = none then
    none
  else
    (dt x1).bind fun i_1 =>
    (fc_J0_length_8abf5 σ x1).bind fun r_2 =>
    (fc_J5_ensureCapacityInternal_d00dfS r_2.2 ((cI r_2.2 11 0 3) + r_2.1)).bind fun r_3 =>
    (fc_J5_putStringAt_47b60 r_3 (cI r_3 11 0 3) x1).bind fun r_6 =>
    some (uI r_6 11 0 3 ((cI r_6 11 0 3) + r_2.1))
set_option maxHeartbeats 4000000 in
set_option maxRecDepth 100000 in
theorem cc_J5_append_cf1ceS (l : Launch) (D : va_G) (ca : Nat → ClassId) (A : Nat → Prop) (α : cAl) (σ : cS) (x1 : Option Nat) (o : cS) (h : fc_J5_append_cf1ceS σ x1 = some o) : cMet true l yJ5_append_cf1ce cJ5_append_cf1ce 3 ((some (FieldType.object "java/lang/AbstractStringBuilder"))) rc_J5_append_cf1ceS 1 200 D ca true A α σ [cr α 11 (some 0), cr α 19 x1] (fun α1 => some (cr α1 11 (some 0))) o := by
  refine Met.ofW (cc := cJ5_append_cf1ce) (maxL := 3) (ret := (some (FieldType.object "java/lang/AbstractStringBuilder"))) (by decide) rfl ?_
  intro p e s m args below meth c s₁ B hml hv
  obtain ⟨rfl, hP, hK, hD0, hSh, hA, hG⟩ := hv
  have C : cC p s m _ c cJ5_append_cf1ce 3 RJ5 D ca A α := ⟨B.exec, B.bytes, hml, findClass_of_methodNamed B.named, fun w hw => atoms_spec (ws := mWs yJ5_append_cf1ce cJ5_append_cf1ce 3 ((some (FieldType.object "java/lang/AbstractStringBuilder")))) B.pre w (List.mem_cons_of_mem _ hw), hK, hG⟩
  have hM : cM D ca true A s.heap σ α σ α s.heap [] := ⟨hP, hD0, hSh, va_S.rf, hA, cX.rf⟩
  have h17 : 0 < cn σ 17 := c_17 hM
  have hr := B.returns
  have hlk := B.notSynchronized
  have hx := C.1
  have hb := C.2.1
  have hl := lv_entry ([cr α 11 (some 0), cr α 19 x1]) (n := 3) (by simp [lg_r, lg_i, lg_l, lg_n])
  rw [lg_entry_eq]
  generalize (lg_sl ([cr α 11 (some 0), cr α 19 x1]) ++ List.replicate (3 - (lg_sl ([cr α 11 (some 0), cr α 19 x1])).length) Slot.unset).toArray = ls at hl ⊢
  have hl : lv_has ls 3 [(0, cr α 11 (some 0)), (1, cr α 19 x1)] := (lv_to hl (by simp only [la_r, la_i, la_l, la_n]))
  unfold fc_J5_append_cf1ceS at h
  refine c_aload_n (t := 19) (x := x1) hx hb dJ5_append_cf1ce_0 rfl (lv_at hl 1 rfl) ?_
  refine c_ifnonnull (tgt := 9) hx hb dJ5_append_cf1ce_1 (by decide) (fun c_1 => ?_) (fun c_1 => ?_)
  · have h := br_F c_1 h
    refine c_aload_n (t := 19) (x := x1) hx hb dJ5_append_cf1ce_9 rfl (lv_at hl 1 rfl) ?_
    obtain ⟨i_1, ht_1, h⟩ := bd_of h
    obtain ⟨r_2, hr_2, h⟩ := bd_of h
    refine c_go0 (c_rT (As := []) (rest := []) C hM h17 ht_1 (cc_J0_length_8abf5 l D ca A α σ x1 _ hr_2) cw_J5_32 ⟨rfl, rfl⟩ ⟨Nat.le_of_ble_eq_true rfl, Nat.le_of_ble_eq_true rfl⟩ rfl rfl (cats_le _ (Nat.le_of_ble_eq_true rfl)) hl.1 dJ5_append_cf1ce_10 ⟨Nat.le_of_ble_eq_true rfl, Nat.le_of_ble_eq_true rfl⟩) hM (fun H locs hM => ?_)
    refine W_st (st' := [.int r_2.1]) rfl ?_
    refine lv_istore_n (lv' := [(2, .int r_2.1), (0, cr α 11 (some 0)), (1, cr α 19 x1)]) hx hb dJ5_append_cf1ce_13 rfl hl (by decide) (by first | rfl | (simp only [List.filter, cr_cat]; rfl)) (fun ls hl => ?_)
    refine c_aload_n (t := 11) (x := (some 0)) hx hb dJ5_append_cf1ce_14 rfl (lv_at hl 1 rfl) ?_
    refine c_aload_n (t := 11) (x := (some 0)) hx hb dJ5_append_cf1ce_15 rfl (lv_at hl 1 rfl) ?_
    refine c_geti C hM (k := 11) (f := 3) (hM.cst 11 0 rfl) rfl fl_J5_79 dJ5_append_cf1ce_16 ?_
    refine lv_iload_n hx hb dJ5_append_cf1ce_19 rfl (lv_at hl 0 rfl) ?_
    refine lv_iadd hx hb dJ5_append_cf1ce_20 ?_
    have hlv_4 := c_lvc hM 11 0 rfl
    obtain ⟨r_3, hr_3, h⟩ := bd_of h
    refine c_go1 (c_rU (As := [.int ((cI r_2.2 11 0 3) + r_2.1)]) (rest := []) C hM h17 (hM.cst 11 0 rfl) (cc_J5_ensureCapacityInternal_d00dfS l D ca A α r_2.2 ((cI r_2.2 11 0 3) + r_2.1) _ hr_3) cw_J5_100 ⟨rfl, rfl⟩ ⟨Nat.le_of_ble_eq_true rfl, Nat.le_of_ble_eq_true rfl⟩ rfl rfl (cats_le _ (Nat.le_of_ble_eq_true rfl)) hl.1 dJ5_append_cf1ce_21 ⟨Nat.le_of_ble_eq_true rfl, Nat.le_of_ble_eq_true rfl⟩) hM (fun H locs α_1 hX_3 hM => ?_)
    have e_4 : cr α 11 (some 0) = cr α_1 11 (some 0) := cr_to hX_3 hlv_4
    have e_5 : cr α 19 x1 = cr α_1 19 x1 := cr_to18 hX_3 (by decide)
    have hl := lv_to (lv_sub hl [0, 1, 2] rfl) (show ([(2, .int r_2.1), (0, cr α 11 (some 0)), (1, cr α 19 x1)] : List (Nat × Value)) = [(2, .int r_2.1), (0, cr α_1 11 (some 0)), (1, cr α_1 19 x1)] by rw [e_4, e_5])
    refine W_st (st' := []) rfl ?_
    refine c_aload_n (t := 11) (x := (some 0)) hx hb dJ5_append_cf1ce_24 rfl (lv_at hl 1 rfl) ?_
    refine c_aload_n (t := 11) (x := (some 0)) hx hb dJ5_append_cf1ce_25 rfl (lv_at hl 1 rfl) ?_
    refine c_geti C hM (k := 11) (f := 3) (hM.cst 11 0 rfl) rfl fl_J5_79 dJ5_append_cf1ce_26 ?_
    refine c_aload_n (t := 19) (x := x1) hx hb dJ5_append_cf1ce_29 rfl (lv_at hl 2 rfl) ?_
    obtain ⟨r_6, hr_6, h⟩ := bd_of h
    refine c_go0 (c_rU (As := [.int (cI r_3 11 0 3), cr α_1 19 x1]) (rest := []) C hM h17 (hM.cst 11 0 rfl) (cc_J5_putStringAt_47b60 l D ca A α_1 r_3 (cI r_3 11 0 3) x1 _ hr_6) cw_J5_208 ⟨rfl, rfl⟩ ⟨Nat.le_of_ble_eq_true rfl, Nat.le_of_ble_eq_true rfl⟩ rfl rfl (cats_le _ (Nat.le_of_ble_eq_true rfl)) hl.1 dJ5_append_cf1ce_30 ⟨Nat.le_of_ble_eq_true rfl, Nat.le_of_ble_eq_true rfl⟩) hM (fun H locs hM => ?_)
    refine W_st (st' := []) rfl ?_
    refine c_aload_n (t := 11) (x := (some 0)) hx hb dJ5_append_cf1ce_33 rfl (lv_at hl 1 rfl) ?_
    refine lv_dup hx hb dJ5_append_cf1ce_34 cr_cat ?_
    refine c_geti C hM (k := 11) (f := 3) (hM.cst 11 0 rfl) rfl fl_J5_79 dJ5_append_cf1ce_35 ?_
    refine lv_iload_n hx hb dJ5_append_cf1ce_38 rfl (lv_at hl 0 rfl) ?_
    refine lv_iadd hx hb dJ5_append_cf1ce_39 ?_
    refine c_puti C hM (k := 11) (f := 3) (hM.cst 11 0 rfl) rfl fl_J5_79 (Or.inl rfl) dJ5_append_cf1ce_40 (fun H locs hM => ?_)
    refine c_aload_n (t := 11) (x := (some 0)) hx hb dJ5_append_cf1ce_43 rfl (lv_at hl 1 rfl) ?_
    exact c_rac (k := 11) (j := 0) C hM (fun h => by cases h) hr rfl hlk dJ5_append_cf1ce_44 h
  · have h := br_T c_1 h
    cases h
/-! java/lang/AbstractStringBuilder.append(C)Ljava/lang/AbstractStringBuilder; -/
abbrev rc_J5_append_3fe6fS : Room := { frames := 4, cells := 1, slots := 200, locals := 91 }
def fc_J5_append_3fe6fS (σ : cS) (x1 : Int32) : Option (cS) :=
  (fc_J5_ensureCapacityInternal_d00dfS σ ((cI σ 11 0 3) + (1 : Int32))).bind fun r_1 =>
  (fc_J5_isLatin1_aae02 r_1).bind fun r_3 =>
  if r_3.1 = 0 then
    none
  else
    (fc_J1_canEncode_fc78d r_3.2 x1).bind fun r_4 =>
    if r_4.1 = 0 then
      none
    else
      (dr (uI r_4.2 11 0 3 ((cI r_4.2 11 0 3) + (1 : Int32))) 16 (cR r_4.2 11 0 0)).bind fun i_5 =>
      if (cI r_4.2 11 0 3) < 0 ∨ cln (uI r_4.2 11 0 3 ((cI r_4.2 11 0 3) + (1 : Int32))) 16 i_5 ≤ (cI r_4.2 11 0 3).toNatClampNeg then none else
      some (uI (uI r_4.2 11 0 3 ((cI r_4.2 11 0 3) + (1 : Int32))) 16 i_5 (cI r_4.2 11 0 3).toNatClampNeg ((x1.toInt8.toInt32).toInt8.toInt32))
set_option maxHeartbeats 4000000 in
set_option maxRecDepth 100000 in
theorem cc_J5_append_3fe6fS (l : Launch) (D : va_G) (ca : Nat → ClassId) (A : Nat → Prop) (α : cAl) (σ : cS) (x1 : Int32) (o : cS) (h : fc_J5_append_3fe6fS σ x1 = some o) : cMet true l yJ5_append_3fe6f cJ5_append_3fe6f 2 ((some (FieldType.object "java/lang/AbstractStringBuilder"))) rc_J5_append_3fe6fS 1 200 D ca true A α σ [cr α 11 (some 0), .int x1] (fun α1 => some (cr α1 11 (some 0))) o := by
  refine Met.ofW (cc := cJ5_append_3fe6f) (maxL := 2) (ret := (some (FieldType.object "java/lang/AbstractStringBuilder"))) (by decide) rfl ?_
  intro p e s m args below meth c s₁ B hml hv
  obtain ⟨rfl, hP, hK, hD0, hSh, hA, hG⟩ := hv
  have C : cC p s m _ c cJ5_append_3fe6f 2 RJ5 D ca A α := ⟨B.exec, B.bytes, hml, findClass_of_methodNamed B.named, fun w hw => atoms_spec (ws := mWs yJ5_append_3fe6f cJ5_append_3fe6f 2 ((some (FieldType.object "java/lang/AbstractStringBuilder")))) B.pre w (List.mem_cons_of_mem _ hw), hK, hG⟩
  have hM : cM D ca true A s.heap σ α σ α s.heap [] := ⟨hP, hD0, hSh, va_S.rf, hA, cX.rf⟩
  have h17 : 0 < cn σ 17 := c_17 hM
  have hr := B.returns
  have hlk := B.notSynchronized
  have hx := C.1
  have hb := C.2.1
  have hl := lv_entry ([cr α 11 (some 0), .int x1]) (n := 2) (Nat.le_of_ble_eq_true rfl)
  rw [lg_entry_eq]
  generalize (lg_sl ([cr α 11 (some 0), .int x1]) ++ List.replicate (2 - (lg_sl ([cr α 11 (some 0), .int x1])).length) Slot.unset).toArray = ls at hl ⊢
  have hl : lv_has ls 2 [(0, cr α 11 (some 0)), (1, .int x1)] := hl
  unfold fc_J5_append_3fe6fS at h
  refine c_aload_n (t := 11) (x := (some 0)) hx hb dJ5_append_3fe6f_0 rfl (lv_at hl 0 rfl) ?_
  refine c_aload_n (t := 11) (x := (some 0)) hx hb dJ5_append_3fe6f_1 rfl (lv_at hl 0 rfl) ?_
  refine c_geti C hM (k := 11) (f := 3) (hM.cst 11 0 rfl) rfl fl_J5_79 dJ5_append_3fe6f_2 ?_
  refine lv_iconst (v := (1 : Int32)) hx hb dJ5_append_3fe6f_5 (by decide) ?_
  refine lv_iadd hx hb dJ5_append_3fe6f_6 ?_
  have hlv_2 := c_lvc hM 11 0 rfl
  obtain ⟨r_1, hr_1, h⟩ := bd_of h
  refine c_go1 (c_rU (As := [.int ((cI σ 11 0 3) + (1 : Int32))]) (rest := []) C hM h17 (hM.cst 11 0 rfl) (cc_J5_ensureCapacityInternal_d00dfS l D ca A α σ ((cI σ 11 0 3) + (1 : Int32)) _ hr_1) cw_J5_100 ⟨rfl, rfl⟩ ⟨Nat.le_of_ble_eq_true rfl, Nat.le_of_ble_eq_true rfl⟩ rfl rfl (cats_le _ (Nat.le_of_ble_eq_true rfl)) hl.1 dJ5_append_3fe6f_7 ⟨Nat.le_of_ble_eq_true rfl, Nat.le_of_ble_eq_true rfl⟩) hM (fun H locs α_1 hX_1 hM => ?_)
  have e_2 : cr α 11 (some 0) = cr α_1 11 (some 0) := cr_to hX_1 hlv_2
  have hl := lv_to (lv_sub hl [0, 1] rfl) (show ([(0, cr α 11 (some 0)), (1, .int x1)] : List (Nat × Value)) = [(0, cr α_1 11 (some 0)), (1, .int x1)] by rw [e_2])
  refine W_st (st' := []) rfl ?_
  refine c_aload_n (t := 11) (x := (some 0)) hx hb dJ5_append_3fe6f_10 rfl (lv_at hl 0 rfl) ?_
  obtain ⟨r_3, hr_3, h⟩ := bd_of h
  refine c_go0 (c_rU (As := []) (rest := []) C hM h17 (hM.cst 11 0 rfl) (cc_J5_isLatin1_aae02 l D ca A α_1 r_1 _ hr_3) cw_J5_83 ⟨rfl, rfl⟩ ⟨Nat.le_of_ble_eq_true rfl, Nat.le_of_ble_eq_true rfl⟩ rfl rfl (cats_le _ (Nat.le_of_ble_eq_true rfl)) hl.1 dJ5_append_3fe6f_11 ⟨Nat.le_of_ble_eq_true rfl, Nat.le_of_ble_eq_true rfl⟩) hM (fun H locs hM => ?_)
  refine W_st (st' := [.int r_3.1]) rfl ?_
  refine lv_if_eq (tgt := 45) hx hb dJ5_append_3fe6f_14 (by decide) (fun c_1 => ?_) (fun c_1 => ?_)
  · have h := br_T c_1 h
    cases h
  · have h := br_F c_1 h
    refine lv_iload_n hx hb dJ5_append_3fe6f_17 rfl (lv_at hl 1 rfl) ?_
    obtain ⟨r_4, hr_4, h⟩ := bd_of h
    refine c_go0 (c_rS (As := [.int x1]) (rest := []) C hM h17 (cc_J1_canEncode_fc78d l D ca A α_1 r_3.2 x1 _ hr_4) cw_J5_191 ⟨rfl, rfl⟩ ⟨Nat.le_of_ble_eq_true rfl, Nat.le_of_ble_eq_true rfl⟩ rfl rfl (cats_le _ (Nat.le_of_ble_eq_true rfl)) hl.1 dJ5_append_3fe6f_18 ⟨Nat.le_of_ble_eq_true rfl, Nat.le_of_ble_eq_true rfl⟩) hM (fun H locs hM => ?_)
    refine W_st (st' := [.int r_4.1]) rfl ?_
    refine lv_if_eq (tgt := 45) hx hb dJ5_append_3fe6f_21 (by decide) (fun c_2 => ?_) (fun c_2 => ?_)
    · have h := br_T c_2 h
      cases h
    · have h := br_F c_2 h
      refine c_aload_n (t := 11) (x := (some 0)) hx hb dJ5_append_3fe6f_24 rfl (lv_at hl 0 rfl) ?_
      refine c_getrt C hM (k := 11) (f := 0) (t := 16) (hM.cst 11 0 rfl) (by decide) fl_J5_15 dJ5_append_3fe6f_25 ?_
      refine c_aload_n (t := 11) (x := (some 0)) hx hb dJ5_append_3fe6f_28 rfl (lv_at hl 0 rfl) ?_
      refine lv_dup hx hb dJ5_append_3fe6f_29 cr_cat ?_
      refine c_geti C hM (k := 11) (f := 3) (hM.cst 11 0 rfl) rfl fl_J5_79 dJ5_append_3fe6f_30 ?_
      refine lv_dup_x1 hx hb dJ5_append_3fe6f_33 rfl cr_cat ?_
      refine lv_iconst (v := (1 : Int32)) hx hb dJ5_append_3fe6f_34 (by decide) ?_
      refine lv_iadd hx hb dJ5_append_3fe6f_35 ?_
      refine c_puti C hM (k := 11) (f := 3) (hM.cst 11 0 rfl) rfl fl_J5_79 (Or.inl rfl) dJ5_append_3fe6f_36 (fun H locs hM => ?_)
      refine lv_iload_n hx hb dJ5_append_3fe6f_39 rfl (lv_at hl 1 rfl) ?_
      refine lv_i2b (v := x1.toInt8.toInt32) hx hb dJ5_append_3fe6f_40 rfl ?_
      obtain ⟨i_5, hd_5, h⟩ := bd_of h
      obtain ⟨c_3, h⟩ := ko_of h
      refine c_bast C hM hd_5 c_3 dJ5_append_3fe6f_41 (fun H locs hM => ?_)
      refine lv_goto (tgt := 75) hx hb dJ5_append_3fe6f_42 (by decide) ?_
      refine c_aload_n (t := 11) (x := (some 0)) hx hb dJ5_append_3fe6f_75 rfl (lv_at hl 0 rfl) ?_
      exact c_rac (k := 11) (j := 0) C hM (fun h => by cases h) hr rfl hlk dJ5_append_3fe6f_76 h
/-! java/lang/AbstractStringBuilder.append(I)Ljava/lang/AbstractStringBuilder; -/
abbrev rc_J5_append_c97b9S : Room := { frames := 4, cells := 1, slots := 200, locals := 91 }
def fc_J5_append_c97b9S (σ : cS) (x1 : Int32) : Option (cS) :=
  (fc_J6_stringSize_0f7a4 σ x1).bind fun r_1 =>
  (fc_J5_ensureCapacityInternal_d00dfS r_1.2 ((cI σ 11 0 3) + r_1.1)).bind fun r_2 =>
  (fc_J5_isLatin1_aae02 r_2).bind fun r_4 =>
  if r_4.1 = 0 then
    none
  else
    (fc_J6_getChars_ba4f3 r_4.2 x1 ((cI σ 11 0 3) + r_1.1) (cR r_4.2 11 0 0)).bind fun r_5 =>
    some (uI r_5.2 11 0 3 ((cI σ 11 0 3) + r_1.1))
set_option maxHeartbeats 4000000 in
set_option maxRecDepth 100000 in
theorem cc_J5_append_c97b9S (l : Launch) (D : va_G) (ca : Nat → ClassId) (A : Nat → Prop) (α : cAl) (σ : cS) (x1 : Int32) (o : cS) (h : fc_J5_append_c97b9S σ x1 = some o) : cMet true l yJ5_append_c97b9 cJ5_append_c97b9 4 ((some (FieldType.object "java/lang/AbstractStringBuilder"))) rc_J5_append_c97b9S 1 200 D ca true A α σ [cr α 11 (some 0), .int x1] (fun α1 => some (cr α1 11 (some 0))) o := by
  refine Met.ofW (cc := cJ5_append_c97b9) (maxL := 4) (ret := (some (FieldType.object "java/lang/AbstractStringBuilder"))) (by decide) rfl ?_
  intro p e s m args below meth c s₁ B hml hv
  obtain ⟨rfl, hP, hK, hD0, hSh, hA, hG⟩ := hv
  have C : cC p s m _ c cJ5_append_c97b9 4 RJ5 D ca A α := ⟨B.exec, B.bytes, hml, findClass_of_methodNamed B.named, fun w hw => atoms_spec (ws := mWs yJ5_append_c97b9 cJ5_append_c97b9 4 ((some (FieldType.object "java/lang/AbstractStringBuilder")))) B.pre w (List.mem_cons_of_mem _ hw), hK, hG⟩
  have hM : cM D ca true A s.heap σ α σ α s.heap [] := ⟨hP, hD0, hSh, va_S.rf, hA, cX.rf⟩
  have h17 : 0 < cn σ 17 := c_17 hM
  have hr := B.returns
  have hlk := B.notSynchronized
  have hx := C.1
  have hb := C.2.1
  have hl := lv_entry ([cr α 11 (some 0), .int x1]) (n := 4) (Nat.le_of_ble_eq_true rfl)
  rw [lg_entry_eq]
  generalize (lg_sl ([cr α 11 (some 0), .int x1]) ++ List.replicate (4 - (lg_sl ([cr α 11 (some 0), .int x1])).length) Slot.unset).toArray = ls at hl ⊢
  have hl : lv_has ls 4 [(0, cr α 11 (some 0)), (1, .int x1)] := hl
  unfold fc_J5_append_c97b9S at h
  refine c_aload_n (t := 11) (x := (some 0)) hx hb dJ5_append_c97b9_0 rfl (lv_at hl 0 rfl) ?_
  refine c_geti C hM (k := 11) (f := 3) (hM.cst 11 0 rfl) rfl fl_J5_79 dJ5_append_c97b9_1 ?_
  refine lv_istore_n (lv' := [(2, .int (cI σ 11 0 3)), (0, cr α 11 (some 0)), (1, .int x1)]) hx hb dJ5_append_c97b9_4 rfl hl (by decide) rfl (fun ls hl => ?_)
  refine lv_iload_n hx hb dJ5_append_c97b9_5 rfl (lv_at hl 0 rfl) ?_
  refine lv_iload_n hx hb dJ5_append_c97b9_6 rfl (lv_at hl 2 rfl) ?_
  obtain ⟨r_1, hr_1, h⟩ := bd_of h
  refine c_go0 (c_rS (As := [.int x1]) (rest := [.int (cI σ 11 0 3)]) C hM h17 (cc_J6_stringSize_0f7a4 l D ca A α σ x1 _ hr_1) cw_J5_245 ⟨rfl, rfl⟩ ⟨Nat.le_of_ble_eq_true rfl, Nat.le_of_ble_eq_true rfl⟩ rfl rfl (cats_le _ (Nat.le_of_ble_eq_true rfl)) hl.1 dJ5_append_c97b9_7 ⟨Nat.le_of_ble_eq_true rfl, Nat.le_of_ble_eq_true rfl⟩) hM (fun H locs hM => ?_)
  refine W_st (st' := [.int r_1.1, .int (cI σ 11 0 3)]) rfl ?_
  refine lv_iadd hx hb dJ5_append_c97b9_10 ?_
  refine lv_istore_n (lv' := [(3, .int ((cI σ 11 0 3) + r_1.1)), (2, .int (cI σ 11 0 3)), (0, cr α 11 (some 0)), (1, .int x1)]) hx hb dJ5_append_c97b9_11 rfl hl (by decide) rfl (fun ls hl => ?_)
  refine c_aload_n (t := 11) (x := (some 0)) hx hb dJ5_append_c97b9_12 rfl (lv_at hl 2 rfl) ?_
  refine lv_iload_n hx hb dJ5_append_c97b9_13 rfl (lv_at hl 0 rfl) ?_
  have hlv_3 := c_lvc hM 11 0 rfl
  obtain ⟨r_2, hr_2, h⟩ := bd_of h
  refine c_go1 (c_rU (As := [.int ((cI σ 11 0 3) + r_1.1)]) (rest := []) C hM h17 (hM.cst 11 0 rfl) (cc_J5_ensureCapacityInternal_d00dfS l D ca A α r_1.2 ((cI σ 11 0 3) + r_1.1) _ hr_2) cw_J5_100 ⟨rfl, rfl⟩ ⟨Nat.le_of_ble_eq_true rfl, Nat.le_of_ble_eq_true rfl⟩ rfl rfl (cats_le _ (Nat.le_of_ble_eq_true rfl)) hl.1 dJ5_append_c97b9_14 ⟨Nat.le_of_ble_eq_true rfl, Nat.le_of_ble_eq_true rfl⟩) hM (fun H locs α_1 hX_2 hM => ?_)
  have e_3 : cr α 11 (some 0) = cr α_1 11 (some 0) := cr_to hX_2 hlv_3
  have hl := lv_to (lv_sub hl [0, 2, 3] rfl) (show ([(3, .int ((cI σ 11 0 3) + r_1.1)), (0, cr α 11 (some 0)), (1, .int x1)] : List (Nat × Value)) = [(3, .int ((cI σ 11 0 3) + r_1.1)), (0, cr α_1 11 (some 0)), (1, .int x1)] by rw [e_3])
  refine W_st (st' := []) rfl ?_
  refine c_aload_n (t := 11) (x := (some 0)) hx hb dJ5_append_c97b9_17 rfl (lv_at hl 1 rfl) ?_
  obtain ⟨r_4, hr_4, h⟩ := bd_of h
  refine c_go0 (c_rU (As := []) (rest := []) C hM h17 (hM.cst 11 0 rfl) (cc_J5_isLatin1_aae02 l D ca A α_1 r_2 _ hr_4) cw_J5_83 ⟨rfl, rfl⟩ ⟨Nat.le_of_ble_eq_true rfl, Nat.le_of_ble_eq_true rfl⟩ rfl rfl (cats_le _ (Nat.le_of_ble_eq_true rfl)) hl.1 dJ5_append_c97b9_18 ⟨Nat.le_of_ble_eq_true rfl, Nat.le_of_ble_eq_true rfl⟩) hM (fun H locs hM => ?_)
  refine W_st (st' := [.int r_4.1]) rfl ?_
  refine lv_if_eq (tgt := 37) hx hb dJ5_append_c97b9_21 (by decide) (fun c_1 => ?_) (fun c_1 => ?_)
  · have h := br_T c_1 h
    cases h
  · have h := br_F c_1 h
    refine lv_iload_n hx hb dJ5_append_c97b9_24 rfl (lv_at hl 2 rfl) ?_
    refine lv_iload_n hx hb dJ5_append_c97b9_25 rfl (lv_at hl 0 rfl) ?_
    refine c_aload_n (t := 11) (x := (some 0)) hx hb dJ5_append_c97b9_26 rfl (lv_at hl 1 rfl) ?_
    refine c_getrt C hM (k := 11) (f := 0) (t := 16) (hM.cst 11 0 rfl) (by decide) fl_J5_15 dJ5_append_c97b9_27 ?_
    obtain ⟨r_5, hr_5, h⟩ := bd_of h
    refine c_go0 (c_rS (As := [.int x1, .int ((cI σ 11 0 3) + r_1.1), cr α_1 16 (cR r_4.2 11 0 0)]) (rest := []) C hM h17 (cc_J6_getChars_ba4f3 l D ca A α_1 r_4.2 x1 ((cI σ 11 0 3) + r_1.1) (cR r_4.2 11 0 0) _ hr_5) cw_J5_248 ⟨rfl, rfl⟩ ⟨Nat.le_of_ble_eq_true rfl, Nat.le_of_ble_eq_true rfl⟩ rfl rfl (cats_le _ (Nat.le_of_ble_eq_true rfl)) hl.1 dJ5_append_c97b9_30 ⟨Nat.le_of_ble_eq_true rfl, Nat.le_of_ble_eq_true rfl⟩) hM (fun H locs hM => ?_)
    refine W_st (st' := [.int r_5.1]) rfl ?_
    refine lv_pop hx hb dJ5_append_c97b9_33 rfl ?_
    refine lv_goto (tgt := 48) hx hb dJ5_append_c97b9_34 (by decide) ?_
    refine c_aload_n (t := 11) (x := (some 0)) hx hb dJ5_append_c97b9_48 rfl (lv_at hl 1 rfl) ?_
    refine lv_iload_n hx hb dJ5_append_c97b9_49 rfl (lv_at hl 0 rfl) ?_
    refine c_puti C hM (k := 11) (f := 3) (hM.cst 11 0 rfl) rfl fl_J5_79 (Or.inl rfl) dJ5_append_c97b9_50 (fun H locs hM => ?_)
    refine c_aload_n (t := 11) (x := (some 0)) hx hb dJ5_append_c97b9_53 rfl (lv_at hl 1 rfl) ?_
    exact c_rac (k := 11) (j := 0) C hM (fun h => by cases h) hr rfl hlk dJ5_append_c97b9_54 h
/-! java/lang/StringBuilder.setLength(I)V -/
abbrev rc_J4_setLength_d00dfS : Room := { frames := 5, cells := 1, slots := 200, locals := 112 }
def fc_J4_setLength_d00dfS (σ : cS) (x1 : Int32) : Option (cS) :=
  (fc_J5_setLength_d00dfS σ x1).bind fun r_1 =>
  some r_1
set_option maxHeartbeats 4000000 in
set_option maxRecDepth 100000 in
theorem cc_J4_setLength_d00dfS (l : Launch) (D : va_G) (ca : Nat → ClassId) (A : Nat → Prop) (α : cAl) (σ : cS) (x1 : Int32) (o : cS) (h : fc_J4_setLength_d00dfS σ x1 = some o) : cMet true l yJ4_setLength_d00df cJ4_setLength_d00df 2 ((none : Option FieldType)) rc_J4_setLength_d00dfS 1 200 D ca true A α σ [cr α 11 (some 0), .int x1] (fun _ => none) o := by
  refine Met.ofW (cc := cJ4_setLength_d00df) (maxL := 2) (ret := (none : Option FieldType)) (by decide) rfl ?_
  intro p e s m args below meth c s₁ B hml hv
  obtain ⟨rfl, hP, hK, hD0, hSh, hA, hG⟩ := hv
  have C : cC p s m _ c cJ4_setLength_d00df 2 RJ4 D ca A α := ⟨B.exec, B.bytes, hml, findClass_of_methodNamed B.named, fun w hw => atoms_spec (ws := mWs yJ4_setLength_d00df cJ4_setLength_d00df 2 ((none : Option FieldType))) B.pre w (List.mem_cons_of_mem _ hw), hK, hG⟩
  have hM : cM D ca true A s.heap σ α σ α s.heap [] := ⟨hP, hD0, hSh, va_S.rf, hA, cX.rf⟩
  have h17 : 0 < cn σ 17 := c_17 hM
  have hr := B.returns
  have hlk := B.notSynchronized
  have hx := C.1
  have hb := C.2.1
  have hl := lv_entry ([cr α 11 (some 0), .int x1]) (n := 2) (Nat.le_of_ble_eq_true rfl)
  rw [lg_entry_eq]
  generalize (lg_sl ([cr α 11 (some 0), .int x1]) ++ List.replicate (2 - (lg_sl ([cr α 11 (some 0), .int x1])).length) Slot.unset).toArray = ls at hl ⊢
  have hl : lv_has ls 2 [(0, cr α 11 (some 0)), (1, .int x1)] := hl
  unfold fc_J4_setLength_d00dfS at h
  refine c_aload_n (t := 11) (x := (some 0)) hx hb dJ4_setLength_d00df_0 rfl (lv_at hl 0 rfl) ?_
  refine lv_iload_n hx hb dJ4_setLength_d00df_1 rfl (lv_at hl 1 rfl) ?_
  obtain ⟨r_1, hr_1, h⟩ := bd_of h
  refine c_go1 (c_rSU (As := [.int x1]) (rest := []) C hM h17 (hM.cst 11 0 rfl) (cc_J5_setLength_d00dfS l D ca A α σ x1 _ hr_1) cw_J4_333 ⟨rfl, rfl⟩ ⟨Nat.le_of_ble_eq_true rfl, Nat.le_of_ble_eq_true rfl⟩ rfl rfl (cats_le _ (Nat.le_of_ble_eq_true rfl)) hl.1 dJ4_setLength_d00df_2 ⟨Nat.le_of_ble_eq_true rfl, Nat.le_of_ble_eq_true rfl⟩) hM (fun H locs α_1 hX_1 hM => ?_)
  have hl := lv_to (lv_sub hl [] rfl) (show ([] : List (Nat × Value)) = [] by rfl)
  refine W_st (st' := []) rfl ?_
  exact c_rv C hM (fun h => by cases h) hr hlk dJ4_setLength_d00df_5 h
/-! java/lang/StringBuilder.append(Ljava/lang/String;)Ljava/lang/StringBuilder; -/
abbrev rc_J4_append_15ec4S : Room := { frames := 5, cells := 1, slots := 200, locals := 113 }
def fc_J4_append_15ec4S (σ : cS) (x1 : Option Nat) : Option (cS) :=
  (fc_J5_append_cf1ceS σ x1).bind fun r_1 =>
  some r_1
set_option maxHeartbeats 4000000 in
set_option maxRecDepth 100000 in
theorem cc_J4_append_15ec4S (l : Launch) (D : va_G) (ca : Nat → ClassId) (A : Nat → Prop) (α : cAl) (σ : cS) (x1 : Option Nat) (o : cS) (h : fc_J4_append_15ec4S σ x1 = some o) : cMet true l yJ4_append_15ec4 cJ4_append_15ec4 2 ((some (FieldType.object "java/lang/StringBuilder"))) rc_J4_append_15ec4S 1 200 D ca true A α σ [cr α 11 (some 0), cr α 19 x1] (fun α1 => some (cr α1 11 (some 0))) o := by
  refine Met.ofW (cc := cJ4_append_15ec4) (maxL := 2) (ret := (some (FieldType.object "java/lang/StringBuilder"))) (by decide) rfl ?_
  intro p e s m args below meth c s₁ B hml hv
  obtain ⟨rfl, hP, hK, hD0, hSh, hA, hG⟩ := hv
  have C : cC p s m _ c cJ4_append_15ec4 2 RJ4 D ca A α := ⟨B.exec, B.bytes, hml, findClass_of_methodNamed B.named, fun w hw => atoms_spec (ws := mWs yJ4_append_15ec4 cJ4_append_15ec4 2 ((some (FieldType.object "java/lang/StringBuilder")))) B.pre w (List.mem_cons_of_mem _ hw), hK, hG⟩
  have hM : cM D ca true A s.heap σ α σ α s.heap [] := ⟨hP, hD0, hSh, va_S.rf, hA, cX.rf⟩
  have h17 : 0 < cn σ 17 := c_17 hM
  have hr := B.returns
  have hlk := B.notSynchronized
  have hx := C.1
  have hb := C.2.1
  have hl := lv_entry ([cr α 11 (some 0), cr α 19 x1]) (n := 2) (by simp [lg_r, lg_i, lg_l, lg_n])
  rw [lg_entry_eq]
  generalize (lg_sl ([cr α 11 (some 0), cr α 19 x1]) ++ List.replicate (2 - (lg_sl ([cr α 11 (some 0), cr α 19 x1])).length) Slot.unset).toArray = ls at hl ⊢
  have hl : lv_has ls 2 [(0, cr α 11 (some 0)), (1, cr α 19 x1)] := (lv_to hl (by simp only [la_r, la_i, la_l, la_n]))
  unfold fc_J4_append_15ec4S at h
  refine c_aload_n (t := 11) (x := (some 0)) hx hb dJ4_append_15ec4_0 rfl (lv_at hl 0 rfl) ?_
  refine c_aload_n (t := 19) (x := x1) hx hb dJ4_append_15ec4_1 rfl (lv_at hl 1 rfl) ?_
  have hlv_2 := c_lvc hM 11 0 rfl
  obtain ⟨r_1, hr_1, h⟩ := bd_of h
  refine c_go1 (c_rSU (As := [cr α 19 x1]) (rest := []) C hM h17 (hM.cst 11 0 rfl) (cc_J5_append_cf1ceS l D ca A α σ x1 _ hr_1) cw_J4_29 ⟨rfl, rfl⟩ ⟨Nat.le_of_ble_eq_true rfl, Nat.le_of_ble_eq_true rfl⟩ rfl rfl (cats_le _ (Nat.le_of_ble_eq_true rfl)) hl.1 dJ4_append_15ec4_2 ⟨Nat.le_of_ble_eq_true rfl, Nat.le_of_ble_eq_true rfl⟩) hM (fun H locs α_1 hX_1 hM => ?_)
  have e_2 : cr α 11 (some 0) = cr α_1 11 (some 0) := cr_to hX_1 hlv_2
  have hl := lv_to (lv_sub hl [0] rfl) (show ([(0, cr α 11 (some 0))] : List (Nat × Value)) = [(0, cr α_1 11 (some 0))] by rw [e_2])
  refine W_st (st' := [cr α_1 11 (some 0)]) rfl ?_
  refine lv_pop hx hb dJ4_append_15ec4_5 cr_cat ?_
  refine c_aload_n (t := 11) (x := (some 0)) hx hb dJ4_append_15ec4_6 rfl (lv_at hl 0 rfl) ?_
  exact c_rac (k := 11) (j := 0) C hM (fun h => by cases h) hr rfl hlk dJ4_append_15ec4_7 h
/-! java/lang/StringBuilder.append(C)Ljava/lang/StringBuilder; -/
abbrev rc_J4_append_cf468S : Room := { frames := 5, cells := 1, slots := 200, locals := 112 }
def fc_J4_append_cf468S (σ : cS) (x1 : Int32) : Option (cS) :=
  (fc_J5_append_3fe6fS σ x1).bind fun r_1 =>
  some r_1
set_option maxHeartbeats 4000000 in
set_option maxRecDepth 100000 in
theorem cc_J4_append_cf468S (l : Launch) (D : va_G) (ca : Nat → ClassId) (A : Nat → Prop) (α : cAl) (σ : cS) (x1 : Int32) (o : cS) (h : fc_J4_append_cf468S σ x1 = some o) : cMet true l yJ4_append_cf468 cJ4_append_cf468 2 ((some (FieldType.object "java/lang/StringBuilder"))) rc_J4_append_cf468S 1 200 D ca true A α σ [cr α 11 (some 0), .int x1] (fun α1 => some (cr α1 11 (some 0))) o := by
  refine Met.ofW (cc := cJ4_append_cf468) (maxL := 2) (ret := (some (FieldType.object "java/lang/StringBuilder"))) (by decide) rfl ?_
  intro p e s m args below meth c s₁ B hml hv
  obtain ⟨rfl, hP, hK, hD0, hSh, hA, hG⟩ := hv
  have C : cC p s m _ c cJ4_append_cf468 2 RJ4 D ca A α := ⟨B.exec, B.bytes, hml, findClass_of_methodNamed B.named, fun w hw => atoms_spec (ws := mWs yJ4_append_cf468 cJ4_append_cf468 2 ((some (FieldType.object "java/lang/StringBuilder")))) B.pre w (List.mem_cons_of_mem _ hw), hK, hG⟩
  have hM : cM D ca true A s.heap σ α σ α s.heap [] := ⟨hP, hD0, hSh, va_S.rf, hA, cX.rf⟩
  have h17 : 0 < cn σ 17 := c_17 hM
  have hr := B.returns
  have hlk := B.notSynchronized
  have hx := C.1
  have hb := C.2.1
  have hl := lv_entry ([cr α 11 (some 0), .int x1]) (n := 2) (Nat.le_of_ble_eq_true rfl)
  rw [lg_entry_eq]
  generalize (lg_sl ([cr α 11 (some 0), .int x1]) ++ List.replicate (2 - (lg_sl ([cr α 11 (some 0), .int x1])).length) Slot.unset).toArray = ls at hl ⊢
  have hl : lv_has ls 2 [(0, cr α 11 (some 0)), (1, .int x1)] := hl
  unfold fc_J4_append_cf468S at h
  refine c_aload_n (t := 11) (x := (some 0)) hx hb dJ4_append_cf468_0 rfl (lv_at hl 0 rfl) ?_
  refine lv_iload_n hx hb dJ4_append_cf468_1 rfl (lv_at hl 1 rfl) ?_
  have hlv_2 := c_lvc hM 11 0 rfl
  obtain ⟨r_1, hr_1, h⟩ := bd_of h
  refine c_go1 (c_rSU (As := [.int x1]) (rest := []) C hM h17 (hM.cst 11 0 rfl) (cc_J5_append_3fe6fS l D ca A α σ x1 _ hr_1) cw_J4_50 ⟨rfl, rfl⟩ ⟨Nat.le_of_ble_eq_true rfl, Nat.le_of_ble_eq_true rfl⟩ rfl rfl (cats_le _ (Nat.le_of_ble_eq_true rfl)) hl.1 dJ4_append_cf468_2 ⟨Nat.le_of_ble_eq_true rfl, Nat.le_of_ble_eq_true rfl⟩) hM (fun H locs α_1 hX_1 hM => ?_)
  have e_2 : cr α 11 (some 0) = cr α_1 11 (some 0) := cr_to hX_1 hlv_2
  have hl := lv_to (lv_sub hl [0] rfl) (show ([(0, cr α 11 (some 0))] : List (Nat × Value)) = [(0, cr α_1 11 (some 0))] by rw [e_2])
  refine W_st (st' := [cr α_1 11 (some 0)]) rfl ?_
  refine lv_pop hx hb dJ4_append_cf468_5 cr_cat ?_
  refine c_aload_n (t := 11) (x := (some 0)) hx hb dJ4_append_cf468_6 rfl (lv_at hl 0 rfl) ?_
  exact c_rac (k := 11) (j := 0) C hM (fun h => by cases h) hr rfl hlk dJ4_append_cf468_7 h
/-! java/lang/StringBuilder.append(I)Ljava/lang/StringBuilder; -/
abbrev rc_J4_append_bf812S : Room := { frames := 5, cells := 1, slots := 200, locals := 114 }
def fc_J4_append_bf812S (σ : cS) (x1 : Int32) : Option (cS) :=
  (fc_J5_append_c97b9S σ x1).bind fun r_1 =>
  some r_1
set_option maxHeartbeats 4000000 in
set_option maxRecDepth 100000 in
theorem cc_J4_append_bf812S (l : Launch) (D : va_G) (ca : Nat → ClassId) (A : Nat → Prop) (α : cAl) (σ : cS) (x1 : Int32) (o : cS) (h : fc_J4_append_bf812S σ x1 = some o) : cMet true l yJ4_append_bf812 cJ4_append_bf812 2 ((some (FieldType.object "java/lang/StringBuilder"))) rc_J4_append_bf812S 1 200 D ca true A α σ [cr α 11 (some 0), .int x1] (fun α1 => some (cr α1 11 (some 0))) o := by
  refine Met.ofW (cc := cJ4_append_bf812) (maxL := 2) (ret := (some (FieldType.object "java/lang/StringBuilder"))) (by decide) rfl ?_
  intro p e s m args below meth c s₁ B hml hv
  obtain ⟨rfl, hP, hK, hD0, hSh, hA, hG⟩ := hv
  have C : cC p s m _ c cJ4_append_bf812 2 RJ4 D ca A α := ⟨B.exec, B.bytes, hml, findClass_of_methodNamed B.named, fun w hw => atoms_spec (ws := mWs yJ4_append_bf812 cJ4_append_bf812 2 ((some (FieldType.object "java/lang/StringBuilder")))) B.pre w (List.mem_cons_of_mem _ hw), hK, hG⟩
  have hM : cM D ca true A s.heap σ α σ α s.heap [] := ⟨hP, hD0, hSh, va_S.rf, hA, cX.rf⟩
  have h17 : 0 < cn σ 17 := c_17 hM
  have hr := B.returns
  have hlk := B.notSynchronized
  have hx := C.1
  have hb := C.2.1
  have hl := lv_entry ([cr α 11 (some 0), .int x1]) (n := 2) (Nat.le_of_ble_eq_true rfl)
  rw [lg_entry_eq]
  generalize (lg_sl ([cr α 11 (some 0), .int x1]) ++ List.replicate (2 - (lg_sl ([cr α 11 (some 0), .int x1])).length) Slot.unset).toArray = ls at hl ⊢
  have hl : lv_has ls 2 [(0, cr α 11 (some 0)), (1, .int x1)] := hl
  unfold fc_J4_append_bf812S at h
  refine c_aload_n (t := 11) (x := (some 0)) hx hb dJ4_append_bf812_0 rfl (lv_at hl 0 rfl) ?_
  refine lv_iload_n hx hb dJ4_append_bf812_1 rfl (lv_at hl 1 rfl) ?_
  have hlv_2 := c_lvc hM 11 0 rfl
  obtain ⟨r_1, hr_1, h⟩ := bd_of h
  refine c_go1 (c_rSU (As := [.int x1]) (rest := []) C hM h17 (hM.cst 11 0 rfl) (cc_J5_append_c97b9S l D ca A α σ x1 _ hr_1) cw_J4_53 ⟨rfl, rfl⟩ ⟨Nat.le_of_ble_eq_true rfl, Nat.le_of_ble_eq_true rfl⟩ rfl rfl (cats_le _ (Nat.le_of_ble_eq_true rfl)) hl.1 dJ4_append_bf812_2 ⟨Nat.le_of_ble_eq_true rfl, Nat.le_of_ble_eq_true rfl⟩) hM (fun H locs α_1 hX_1 hM => ?_)
  have e_2 : cr α 11 (some 0) = cr α_1 11 (some 0) := cr_to hX_1 hlv_2
  have hl := lv_to (lv_sub hl [0] rfl) (show ([(0, cr α 11 (some 0))] : List (Nat × Value)) = [(0, cr α_1 11 (some 0))] by rw [e_2])
  refine W_st (st' := [cr α_1 11 (some 0)]) rfl ?_
  refine lv_pop hx hb dJ4_append_bf812_5 cr_cat ?_
  refine c_aload_n (t := 11) (x := (some 0)) hx hb dJ4_append_bf812_6 rfl (lv_at hl 0 rfl) ?_
  exact c_rac (k := 11) (j := 0) C hM (fun h => by cases h) hr rfl hlk dJ4_append_bf812_7 h
/-! java/lang/AbstractStringBuilder.ensureCapacityInternal(I)V -/
abbrev rc_J5_ensureCapacityInternal_d00dfZ : Room := { frames := 3, cells := 0, slots := 0, locals := 69 }
def fc_J5_ensureCapacityInternal_d00dfZ (σ : cS) (x1 : Int32) : Option (cS) :=
  (dr σ 16 (cR σ 11 0 0)).bind fun i_1 =>
  if (x1 - ((nI (cln σ 16 i_1)) >>> ((cI σ 11 0 1) &&& 31))) ≤ 0 then
    some σ
  else
    none
set_option maxHeartbeats 4000000 in
set_option maxRecDepth 100000 in
theorem cc_J5_ensureCapacityInternal_d00dfZ (l : Launch) (D : va_G) (ca : Nat → ClassId) (A : Nat → Prop) (α : cAl) (σ : cS) (x1 : Int32) (o : cS) (h : fc_J5_ensureCapacityInternal_d00dfZ σ x1 = some o) : cMet true l yJ5_ensureCapacityInternal_d00df cJ5_ensureCapacityInternal_d00df 3 ((none : Option FieldType)) rc_J5_ensureCapacityInternal_d00dfZ 0 0 D ca true A α σ [cr α 11 (some 0), .int x1] (fun _ => none) o := by
  refine Met.ofW (cc := cJ5_ensureCapacityInternal_d00df) (maxL := 3) (ret := (none : Option FieldType)) (by decide) rfl ?_
  intro p e s m args below meth c s₁ B hml hv
  obtain ⟨rfl, hP, hK, hD0, hSh, hA, hG⟩ := hv
  have C : cC p s m _ c cJ5_ensureCapacityInternal_d00df 3 RJ5 D ca A α := ⟨B.exec, B.bytes, hml, findClass_of_methodNamed B.named, fun w hw => atoms_spec (ws := mWs yJ5_ensureCapacityInternal_d00df cJ5_ensureCapacityInternal_d00df 3 ((none : Option FieldType))) B.pre w (List.mem_cons_of_mem _ hw), hK, hG⟩
  have hM : cM D ca true A s.heap σ α σ α s.heap [] := ⟨hP, hD0, hSh, va_S.rf, hA, cX.rf⟩
  have h17 : 0 < cn σ 17 := c_17 hM
  have hr := B.returns
  have hlk := B.notSynchronized
  have hx := C.1
  have hb := C.2.1
  have hl := lv_entry ([cr α 11 (some 0), .int x1]) (n := 3) (Nat.le_of_ble_eq_true rfl)
  rw [lg_entry_eq]
  generalize (lg_sl ([cr α 11 (some 0), .int x1]) ++ List.replicate (3 - (lg_sl ([cr α 11 (some 0), .int x1])).length) Slot.unset).toArray = ls at hl ⊢
  have hl : lv_has ls 3 [(0, cr α 11 (some 0)), (1, .int x1)] := hl
  unfold fc_J5_ensureCapacityInternal_d00dfZ at h
  refine c_aload_n (t := 11) (x := (some 0)) hx hb dJ5_ensureCapacityInternal_d00df_0 rfl (lv_at hl 0 rfl) ?_
  refine c_getrt C hM (k := 11) (f := 0) (t := 16) (hM.cst 11 0 rfl) (by decide) fl_J5_15 dJ5_ensureCapacityInternal_d00df_1 ?_
  obtain ⟨i_1, hd_1, h⟩ := bd_of h
  refine c_alen C hM hd_1 (by decide) dJ5_ensureCapacityInternal_d00df_4 ?_
  refine c_aload_n (t := 11) (x := (some 0)) hx hb dJ5_ensureCapacityInternal_d00df_5 rfl (lv_at hl 0 rfl) ?_
  refine c_geti C hM (k := 11) (f := 1) (hM.cst 11 0 rfl) rfl fl_J5_22 dJ5_ensureCapacityInternal_d00df_6 ?_
  refine lv_ishr hx hb dJ5_ensureCapacityInternal_d00df_9 ?_
  refine lv_istore_n (lv' := [(2, .int ((nI (cln σ 16 i_1)) >>> ((cI σ 11 0 1) &&& 31))), (0, cr α 11 (some 0)), (1, .int x1)]) hx hb dJ5_ensureCapacityInternal_d00df_10 rfl hl (by decide) rfl (fun ls hl => ?_)
  refine lv_iload_n hx hb dJ5_ensureCapacityInternal_d00df_11 rfl (lv_at hl 2 rfl) ?_
  refine lv_iload_n hx hb dJ5_ensureCapacityInternal_d00df_12 rfl (lv_at hl 0 rfl) ?_
  refine lv_isub hx hb dJ5_ensureCapacityInternal_d00df_13 ?_
  refine lv_if_le (tgt := 38) hx hb dJ5_ensureCapacityInternal_d00df_14 (by decide) (fun c_1 => ?_) (fun c_1 => ?_)
  · have h := br_T c_1 h
    exact c_rv C hM (fun h => by cases h) hr hlk dJ5_ensureCapacityInternal_d00df_38 h
  · have h := br_F c_1 h
    cases h
/-! java/lang/AbstractStringBuilder.setLength(I)V -/
abbrev rc_J5_setLength_d00dfZ : Room := { frames := 4, cells := 0, slots := 0, locals := 91 }
def fc_J5_setLength_d00dfZ_76 (σ : cS) (x1 : Int32) : Option (cS) :=
    some (uI σ 11 0 3 x1)
set_option maxHeartbeats 4000000 in
set_option maxRecDepth 100000 in
theorem gc_J5_setLength_d00dfZ_76 {p : Program} {l : Launch} {e : Env} {s : State} {m : MethodId} {args : Array Value} {below : List Frame} {meth : Method} {c : Code} {D : va_G} {ca : Nat → ClassId} {A : Nat → Prop} {σ0 : cS} {α0 : cAl} {o : cS} (C : cC p s m args c cJ5_setLength_d00df 2 RJ5 D ca A α0) (hr : meth.sig.returnType = (none : Option FieldType)) (hlk : meth.locks = false) (h17 : 0 < cn σ0 17) : ∀ (α : cAl) (σ : cS) (x1 : Int32) (H : Heap) (locs : List Loc) (ls : Array Slot), cM D ca true A s.heap σ0 α0 σ α H locs → lv_has ls 2 [(0, cr α 11 (some 0)), (1, .int x1)] → fc_J5_setLength_d00dfZ_76 σ x1 = some o → W p l e rc_J5_setLength_d00dfZ s m args below meth c H locs 0 0 (MQ below (cQ true D ca true A α0 σ0 (fun _ => none) o) args s 0 0 A) (F0 m 76 ls []) := by
  have hx := C.1
  have hb := C.2.1
  intro α σ x1 H locs ls hM hl h
  unfold fc_J5_setLength_d00dfZ_76 at h
  refine c_aload_n (t := 11) (x := (some 0)) hx hb dJ5_setLength_d00df_76 rfl (lv_at hl 0 rfl) ?_
  refine lv_iload_n hx hb dJ5_setLength_d00df_77 rfl (lv_at hl 1 rfl) ?_
  refine c_puti C hM (k := 11) (f := 3) (hM.cst 11 0 rfl) rfl fl_J5_79 (Or.inl rfl) dJ5_setLength_d00df_78 (fun H locs hM => ?_)
  exact c_rv C hM (fun h => by cases h) hr hlk dJ5_setLength_d00df_81 h
def fc_J5_setLength_d00dfZ (σ : cS) (x1 : Int32) : Option (cS) :=
  if 0 ≤ x1 then
    (fc_J5_ensureCapacityInternal_d00dfZ σ x1).bind fun r_1 =>
    if x1 ≤ (cI r_1 11 0 3) then
      if (cI r_1 11 0 3) ≤ x1 then
        fc_J5_setLength_d00dfZ_76 r_1 x1
      else
        if ¬ ((1 : Int32) &&& 1 = (1 : Int32)) then none else
        fc_J5_setLength_d00dfZ_76 (uI r_1 11 0 2 (1 : Int32)) x1
    else
      none
  else
    none
set_option maxHeartbeats 4000000 in
set_option maxRecDepth 100000 in
theorem cc_J5_setLength_d00dfZ (l : Launch) (D : va_G) (ca : Nat → ClassId) (A : Nat → Prop) (α : cAl) (σ : cS) (x1 : Int32) (o : cS) (h : fc_J5_setLength_d00dfZ σ x1 = some o) : cMet true l yJ5_setLength_d00df cJ5_setLength_d00df 2 ((none : Option FieldType)) rc_J5_setLength_d00dfZ 0 0 D ca true A α σ [cr α 11 (some 0), .int x1] (fun _ => none) o := by
  refine Met.ofW (cc := cJ5_setLength_d00df) (maxL := 2) (ret := (none : Option FieldType)) (by decide) rfl ?_
  intro p e s m args below meth c s₁ B hml hv
  obtain ⟨rfl, hP, hK, hD0, hSh, hA, hG⟩ := hv
  have C : cC p s m _ c cJ5_setLength_d00df 2 RJ5 D ca A α := ⟨B.exec, B.bytes, hml, findClass_of_methodNamed B.named, fun w hw => atoms_spec (ws := mWs yJ5_setLength_d00df cJ5_setLength_d00df 2 ((none : Option FieldType))) B.pre w (List.mem_cons_of_mem _ hw), hK, hG⟩
  have hM : cM D ca true A s.heap σ α σ α s.heap [] := ⟨hP, hD0, hSh, va_S.rf, hA, cX.rf⟩
  have h17 : 0 < cn σ 17 := c_17 hM
  have hr := B.returns
  have hlk := B.notSynchronized
  have hx := C.1
  have hb := C.2.1
  have hl := lv_entry ([cr α 11 (some 0), .int x1]) (n := 2) (Nat.le_of_ble_eq_true rfl)
  rw [lg_entry_eq]
  generalize (lg_sl ([cr α 11 (some 0), .int x1]) ++ List.replicate (2 - (lg_sl ([cr α 11 (some 0), .int x1])).length) Slot.unset).toArray = ls at hl ⊢
  have hl : lv_has ls 2 [(0, cr α 11 (some 0)), (1, .int x1)] := hl
  unfold fc_J5_setLength_d00dfZ at h
  refine lv_iload_n hx hb dJ5_setLength_d00df_0 rfl (lv_at hl 1 rfl) ?_
  refine lv_if_ge (tgt := 13) hx hb dJ5_setLength_d00df_1 (by decide) (fun c_1 => ?_) (fun c_1 => ?_)
  · have h := br_T c_1 h
    refine c_aload_n (t := 11) (x := (some 0)) hx hb dJ5_setLength_d00df_13 rfl (lv_at hl 0 rfl) ?_
    refine lv_iload_n hx hb dJ5_setLength_d00df_14 rfl (lv_at hl 1 rfl) ?_
    have hlv_2 := c_lvc hM 11 0 rfl
    obtain ⟨r_1, hr_1, h⟩ := bd_of h
    refine c_go1 (c_rU (As := [.int x1]) (rest := []) C hM h17 (hM.cst 11 0 rfl) (cc_J5_ensureCapacityInternal_d00dfZ l D ca A α σ x1 _ hr_1) cw_J5_100 ⟨rfl, rfl⟩ ⟨Nat.le_of_ble_eq_true rfl, Nat.le_of_ble_eq_true rfl⟩ rfl rfl (cats_le _ (Nat.le_of_ble_eq_true rfl)) hl.1 dJ5_setLength_d00df_15 ⟨Nat.le_of_ble_eq_true rfl, Nat.le_of_ble_eq_true rfl⟩) hM (fun H locs α_1 hX_1 hM => ?_)
    have e_2 : cr α 11 (some 0) = cr α_1 11 (some 0) := cr_to hX_1 hlv_2
    have hl := lv_to (lv_sub hl [0, 1] rfl) (show ([(0, cr α 11 (some 0)), (1, .int x1)] : List (Nat × Value)) = [(0, cr α_1 11 (some 0)), (1, .int x1)] by rw [e_2])
    refine W_st (st' := []) rfl ?_
    refine c_aload_n (t := 11) (x := (some 0)) hx hb dJ5_setLength_d00df_18 rfl (lv_at hl 0 rfl) ?_
    refine c_geti C hM (k := 11) (f := 3) (hM.cst 11 0 rfl) rfl fl_J5_79 dJ5_setLength_d00df_19 ?_
    refine lv_iload_n hx hb dJ5_setLength_d00df_22 rfl (lv_at hl 1 rfl) ?_
    refine lv_icmp_ge (tgt := 63) hx hb dJ5_setLength_d00df_23 (by decide) (fun c_2 => ?_) (fun c_2 => ?_)
    · have h := br_T c_2 h
      refine c_aload_n (t := 11) (x := (some 0)) hx hb dJ5_setLength_d00df_63 rfl (lv_at hl 0 rfl) ?_
      refine c_geti C hM (k := 11) (f := 3) (hM.cst 11 0 rfl) rfl fl_J5_79 dJ5_setLength_d00df_64 ?_
      refine lv_iload_n hx hb dJ5_setLength_d00df_67 rfl (lv_at hl 1 rfl) ?_
      refine lv_icmp_le (tgt := 76) hx hb dJ5_setLength_d00df_68 (by decide) (fun c_3 => ?_) (fun c_3 => ?_)
      · have h := br_T c_3 h
        exact gc_J5_setLength_d00dfZ_76 C hr hlk h17  α_1 _ _ _ _ _ hM (lv_sub hl [0, 1] rfl) h
      · have h := br_F c_3 h
        refine c_aload_n (t := 11) (x := (some 0)) hx hb dJ5_setLength_d00df_71 rfl (lv_at hl 0 rfl) ?_
        refine lv_iconst (v := (1 : Int32)) hx hb dJ5_setLength_d00df_72 (by decide) ?_
        obtain ⟨c_4, h⟩ := ko_of h
        refine c_putz C hM (k := 11) (f := 2) (hM.cst 11 0 rfl) rfl (Classical.not_not.mp c_4) fl_J5_73 (Or.inl rfl) dJ5_setLength_d00df_73 (fun H locs hM => ?_)
        exact gc_J5_setLength_d00dfZ_76 C hr hlk h17  α_1 _ _ _ _ _ hM (lv_sub hl [0, 1] rfl) h
    · have h := br_F c_2 h
      cases h
  · have h := br_F c_1 h
    cases h
/-! java/lang/AbstractStringBuilder.append(Ljava/lang/String;)Ljava/lang/AbstractStringBuilder; -/
abbrev rc_J5_append_cf1ceZ : Room := { frames := 4, cells := 0, slots := 0, locals := 91 }
def fc_J5_append_cf1ceZ (σ : cS) (x1 : Option Nat) : Option (cS) :=
  if x1 = none then
    none
  else
    (dt x1).bind fun i_1 =>
    (fc_J0_length_8abf5 σ x1).bind fun r_2 =>
    (fc_J5_ensureCapacityInternal_d00dfZ r_2.2 ((cI r_2.2 11 0 3) + r_2.1)).bind fun r_3 =>
    (fc_J5_putStringAt_47b60 r_3 (cI r_3 11 0 3) x1).bind fun r_6 =>
    some (uI r_6 11 0 3 ((cI r_6 11 0 3) + r_2.1))
set_option maxHeartbeats 4000000 in
set_option maxRecDepth 100000 in
theorem cc_J5_append_cf1ceZ (l : Launch) (D : va_G) (ca : Nat → ClassId) (A : Nat → Prop) (α : cAl) (σ : cS) (x1 : Option Nat) (o : cS) (h : fc_J5_append_cf1ceZ σ x1 = some o) : cMet true l yJ5_append_cf1ce cJ5_append_cf1ce 3 ((some (FieldType.object "java/lang/AbstractStringBuilder"))) rc_J5_append_cf1ceZ 0 0 D ca true A α σ [cr α 11 (some 0), cr α 19 x1] (fun α1 => some (cr α1 11 (some 0))) o := by
  refine Met.ofW (cc := cJ5_append_cf1ce) (maxL := 3) (ret := (some (FieldType.object "java/lang/AbstractStringBuilder"))) (by decide) rfl ?_
  intro p e s m args below meth c s₁ B hml hv
  obtain ⟨rfl, hP, hK, hD0, hSh, hA, hG⟩ := hv
  have C : cC p s m _ c cJ5_append_cf1ce 3 RJ5 D ca A α := ⟨B.exec, B.bytes, hml, findClass_of_methodNamed B.named, fun w hw => atoms_spec (ws := mWs yJ5_append_cf1ce cJ5_append_cf1ce 3 ((some (FieldType.object "java/lang/AbstractStringBuilder")))) B.pre w (List.mem_cons_of_mem _ hw), hK, hG⟩
  have hM : cM D ca true A s.heap σ α σ α s.heap [] := ⟨hP, hD0, hSh, va_S.rf, hA, cX.rf⟩
  have h17 : 0 < cn σ 17 := c_17 hM
  have hr := B.returns
  have hlk := B.notSynchronized
  have hx := C.1
  have hb := C.2.1
  have hl := lv_entry ([cr α 11 (some 0), cr α 19 x1]) (n := 3) (by simp [lg_r, lg_i, lg_l, lg_n])
  rw [lg_entry_eq]
  generalize (lg_sl ([cr α 11 (some 0), cr α 19 x1]) ++ List.replicate (3 - (lg_sl ([cr α 11 (some 0), cr α 19 x1])).length) Slot.unset).toArray = ls at hl ⊢
  have hl : lv_has ls 3 [(0, cr α 11 (some 0)), (1, cr α 19 x1)] := (lv_to hl (by simp only [la_r, la_i, la_l, la_n]))
  unfold fc_J5_append_cf1ceZ at h
  refine c_aload_n (t := 19) (x := x1) hx hb dJ5_append_cf1ce_0 rfl (lv_at hl 1 rfl) ?_
  refine c_ifnonnull (tgt := 9) hx hb dJ5_append_cf1ce_1 (by decide) (fun c_1 => ?_) (fun c_1 => ?_)
  · have h := br_F c_1 h
    refine c_aload_n (t := 19) (x := x1) hx hb dJ5_append_cf1ce_9 rfl (lv_at hl 1 rfl) ?_
    obtain ⟨i_1, ht_1, h⟩ := bd_of h
    obtain ⟨r_2, hr_2, h⟩ := bd_of h
    refine c_go0 (c_rT (As := []) (rest := []) C hM h17 ht_1 (cc_J0_length_8abf5 l D ca A α σ x1 _ hr_2) cw_J5_32 ⟨rfl, rfl⟩ ⟨Nat.le_of_ble_eq_true rfl, Nat.le_of_ble_eq_true rfl⟩ rfl rfl (cats_le _ (Nat.le_of_ble_eq_true rfl)) hl.1 dJ5_append_cf1ce_10 ⟨Nat.le_of_ble_eq_true rfl, Nat.le_of_ble_eq_true rfl⟩) hM (fun H locs hM => ?_)
    refine W_st (st' := [.int r_2.1]) rfl ?_
    refine lv_istore_n (lv' := [(2, .int r_2.1), (0, cr α 11 (some 0)), (1, cr α 19 x1)]) hx hb dJ5_append_cf1ce_13 rfl hl (by decide) (by first | rfl | (simp only [List.filter, cr_cat]; rfl)) (fun ls hl => ?_)
    refine c_aload_n (t := 11) (x := (some 0)) hx hb dJ5_append_cf1ce_14 rfl (lv_at hl 1 rfl) ?_
    refine c_aload_n (t := 11) (x := (some 0)) hx hb dJ5_append_cf1ce_15 rfl (lv_at hl 1 rfl) ?_
    refine c_geti C hM (k := 11) (f := 3) (hM.cst 11 0 rfl) rfl fl_J5_79 dJ5_append_cf1ce_16 ?_
    refine lv_iload_n hx hb dJ5_append_cf1ce_19 rfl (lv_at hl 0 rfl) ?_
    refine lv_iadd hx hb dJ5_append_cf1ce_20 ?_
    have hlv_4 := c_lvc hM 11 0 rfl
    obtain ⟨r_3, hr_3, h⟩ := bd_of h
    refine c_go1 (c_rU (As := [.int ((cI r_2.2 11 0 3) + r_2.1)]) (rest := []) C hM h17 (hM.cst 11 0 rfl) (cc_J5_ensureCapacityInternal_d00dfZ l D ca A α r_2.2 ((cI r_2.2 11 0 3) + r_2.1) _ hr_3) cw_J5_100 ⟨rfl, rfl⟩ ⟨Nat.le_of_ble_eq_true rfl, Nat.le_of_ble_eq_true rfl⟩ rfl rfl (cats_le _ (Nat.le_of_ble_eq_true rfl)) hl.1 dJ5_append_cf1ce_21 ⟨Nat.le_of_ble_eq_true rfl, Nat.le_of_ble_eq_true rfl⟩) hM (fun H locs α_1 hX_3 hM => ?_)
    have e_4 : cr α 11 (some 0) = cr α_1 11 (some 0) := cr_to hX_3 hlv_4
    have e_5 : cr α 19 x1 = cr α_1 19 x1 := cr_to18 hX_3 (by decide)
    have hl := lv_to (lv_sub hl [0, 1, 2] rfl) (show ([(2, .int r_2.1), (0, cr α 11 (some 0)), (1, cr α 19 x1)] : List (Nat × Value)) = [(2, .int r_2.1), (0, cr α_1 11 (some 0)), (1, cr α_1 19 x1)] by rw [e_4, e_5])
    refine W_st (st' := []) rfl ?_
    refine c_aload_n (t := 11) (x := (some 0)) hx hb dJ5_append_cf1ce_24 rfl (lv_at hl 1 rfl) ?_
    refine c_aload_n (t := 11) (x := (some 0)) hx hb dJ5_append_cf1ce_25 rfl (lv_at hl 1 rfl) ?_
    refine c_geti C hM (k := 11) (f := 3) (hM.cst 11 0 rfl) rfl fl_J5_79 dJ5_append_cf1ce_26 ?_
    refine c_aload_n (t := 19) (x := x1) hx hb dJ5_append_cf1ce_29 rfl (lv_at hl 2 rfl) ?_
    obtain ⟨r_6, hr_6, h⟩ := bd_of h
    refine c_go0 (c_rU (As := [.int (cI r_3 11 0 3), cr α_1 19 x1]) (rest := []) C hM h17 (hM.cst 11 0 rfl) (cc_J5_putStringAt_47b60 l D ca A α_1 r_3 (cI r_3 11 0 3) x1 _ hr_6) cw_J5_208 ⟨rfl, rfl⟩ ⟨Nat.le_of_ble_eq_true rfl, Nat.le_of_ble_eq_true rfl⟩ rfl rfl (cats_le _ (Nat.le_of_ble_eq_true rfl)) hl.1 dJ5_append_cf1ce_30 ⟨Nat.le_of_ble_eq_true rfl, Nat.le_of_ble_eq_true rfl⟩) hM (fun H locs hM => ?_)
    refine W_st (st' := []) rfl ?_
    refine c_aload_n (t := 11) (x := (some 0)) hx hb dJ5_append_cf1ce_33 rfl (lv_at hl 1 rfl) ?_
    refine lv_dup hx hb dJ5_append_cf1ce_34 cr_cat ?_
    refine c_geti C hM (k := 11) (f := 3) (hM.cst 11 0 rfl) rfl fl_J5_79 dJ5_append_cf1ce_35 ?_
    refine lv_iload_n hx hb dJ5_append_cf1ce_38 rfl (lv_at hl 0 rfl) ?_
    refine lv_iadd hx hb dJ5_append_cf1ce_39 ?_
    refine c_puti C hM (k := 11) (f := 3) (hM.cst 11 0 rfl) rfl fl_J5_79 (Or.inl rfl) dJ5_append_cf1ce_40 (fun H locs hM => ?_)
    refine c_aload_n (t := 11) (x := (some 0)) hx hb dJ5_append_cf1ce_43 rfl (lv_at hl 1 rfl) ?_
    exact c_rac (k := 11) (j := 0) C hM (fun h => by cases h) hr rfl hlk dJ5_append_cf1ce_44 h
  · have h := br_T c_1 h
    cases h
/-! java/lang/AbstractStringBuilder.append(C)Ljava/lang/AbstractStringBuilder; -/
abbrev rc_J5_append_3fe6fZ : Room := { frames := 4, cells := 0, slots := 0, locals := 91 }
def fc_J5_append_3fe6fZ (σ : cS) (x1 : Int32) : Option (cS) :=
  (fc_J5_ensureCapacityInternal_d00dfZ σ ((cI σ 11 0 3) + (1 : Int32))).bind fun r_1 =>
  (fc_J5_isLatin1_aae02 r_1).bind fun r_3 =>
  if r_3.1 = 0 then
    none
  else
    (fc_J1_canEncode_fc78d r_3.2 x1).bind fun r_4 =>
    if r_4.1 = 0 then
      none
    else
      (dr (uI r_4.2 11 0 3 ((cI r_4.2 11 0 3) + (1 : Int32))) 16 (cR r_4.2 11 0 0)).bind fun i_5 =>
      if (cI r_4.2 11 0 3) < 0 ∨ cln (uI r_4.2 11 0 3 ((cI r_4.2 11 0 3) + (1 : Int32))) 16 i_5 ≤ (cI r_4.2 11 0 3).toNatClampNeg then none else
      some (uI (uI r_4.2 11 0 3 ((cI r_4.2 11 0 3) + (1 : Int32))) 16 i_5 (cI r_4.2 11 0 3).toNatClampNeg ((x1.toInt8.toInt32).toInt8.toInt32))
set_option maxHeartbeats 4000000 in
set_option maxRecDepth 100000 in
theorem cc_J5_append_3fe6fZ (l : Launch) (D : va_G) (ca : Nat → ClassId) (A : Nat → Prop) (α : cAl) (σ : cS) (x1 : Int32) (o : cS) (h : fc_J5_append_3fe6fZ σ x1 = some o) : cMet true l yJ5_append_3fe6f cJ5_append_3fe6f 2 ((some (FieldType.object "java/lang/AbstractStringBuilder"))) rc_J5_append_3fe6fZ 0 0 D ca true A α σ [cr α 11 (some 0), .int x1] (fun α1 => some (cr α1 11 (some 0))) o := by
  refine Met.ofW (cc := cJ5_append_3fe6f) (maxL := 2) (ret := (some (FieldType.object "java/lang/AbstractStringBuilder"))) (by decide) rfl ?_
  intro p e s m args below meth c s₁ B hml hv
  obtain ⟨rfl, hP, hK, hD0, hSh, hA, hG⟩ := hv
  have C : cC p s m _ c cJ5_append_3fe6f 2 RJ5 D ca A α := ⟨B.exec, B.bytes, hml, findClass_of_methodNamed B.named, fun w hw => atoms_spec (ws := mWs yJ5_append_3fe6f cJ5_append_3fe6f 2 ((some (FieldType.object "java/lang/AbstractStringBuilder")))) B.pre w (List.mem_cons_of_mem _ hw), hK, hG⟩
  have hM : cM D ca true A s.heap σ α σ α s.heap [] := ⟨hP, hD0, hSh, va_S.rf, hA, cX.rf⟩
  have h17 : 0 < cn σ 17 := c_17 hM
  have hr := B.returns
  have hlk := B.notSynchronized
  have hx := C.1
  have hb := C.2.1
  have hl := lv_entry ([cr α 11 (some 0), .int x1]) (n := 2) (Nat.le_of_ble_eq_true rfl)
  rw [lg_entry_eq]
  generalize (lg_sl ([cr α 11 (some 0), .int x1]) ++ List.replicate (2 - (lg_sl ([cr α 11 (some 0), .int x1])).length) Slot.unset).toArray = ls at hl ⊢
  have hl : lv_has ls 2 [(0, cr α 11 (some 0)), (1, .int x1)] := hl
  unfold fc_J5_append_3fe6fZ at h
  refine c_aload_n (t := 11) (x := (some 0)) hx hb dJ5_append_3fe6f_0 rfl (lv_at hl 0 rfl) ?_
  refine c_aload_n (t := 11) (x := (some 0)) hx hb dJ5_append_3fe6f_1 rfl (lv_at hl 0 rfl) ?_
  refine c_geti C hM (k := 11) (f := 3) (hM.cst 11 0 rfl) rfl fl_J5_79 dJ5_append_3fe6f_2 ?_
  refine lv_iconst (v := (1 : Int32)) hx hb dJ5_append_3fe6f_5 (by decide) ?_
  refine lv_iadd hx hb dJ5_append_3fe6f_6 ?_
  have hlv_2 := c_lvc hM 11 0 rfl
  obtain ⟨r_1, hr_1, h⟩ := bd_of h
  refine c_go1 (c_rU (As := [.int ((cI σ 11 0 3) + (1 : Int32))]) (rest := []) C hM h17 (hM.cst 11 0 rfl) (cc_J5_ensureCapacityInternal_d00dfZ l D ca A α σ ((cI σ 11 0 3) + (1 : Int32)) _ hr_1) cw_J5_100 ⟨rfl, rfl⟩ ⟨Nat.le_of_ble_eq_true rfl, Nat.le_of_ble_eq_true rfl⟩ rfl rfl (cats_le _ (Nat.le_of_ble_eq_true rfl)) hl.1 dJ5_append_3fe6f_7 ⟨Nat.le_of_ble_eq_true rfl, Nat.le_of_ble_eq_true rfl⟩) hM (fun H locs α_1 hX_1 hM => ?_)
  have e_2 : cr α 11 (some 0) = cr α_1 11 (some 0) := cr_to hX_1 hlv_2
  have hl := lv_to (lv_sub hl [0, 1] rfl) (show ([(0, cr α 11 (some 0)), (1, .int x1)] : List (Nat × Value)) = [(0, cr α_1 11 (some 0)), (1, .int x1)] by rw [e_2])
  refine W_st (st' := []) rfl ?_
  refine c_aload_n (t := 11) (x := (some 0)) hx hb dJ5_append_3fe6f_10 rfl (lv_at hl 0 rfl) ?_
  obtain ⟨r_3, hr_3, h⟩ := bd_of h
  refine c_go0 (c_rU (As := []) (rest := []) C hM h17 (hM.cst 11 0 rfl) (cc_J5_isLatin1_aae02 l D ca A α_1 r_1 _ hr_3) cw_J5_83 ⟨rfl, rfl⟩ ⟨Nat.le_of_ble_eq_true rfl, Nat.le_of_ble_eq_true rfl⟩ rfl rfl (cats_le _ (Nat.le_of_ble_eq_true rfl)) hl.1 dJ5_append_3fe6f_11 ⟨Nat.le_of_ble_eq_true rfl, Nat.le_of_ble_eq_true rfl⟩) hM (fun H locs hM => ?_)
  refine W_st (st' := [.int r_3.1]) rfl ?_
  refine lv_if_eq (tgt := 45) hx hb dJ5_append_3fe6f_14 (by decide) (fun c_1 => ?_) (fun c_1 => ?_)
  · have h := br_T c_1 h
    cases h
  · have h := br_F c_1 h
    refine lv_iload_n hx hb dJ5_append_3fe6f_17 rfl (lv_at hl 1 rfl) ?_
    obtain ⟨r_4, hr_4, h⟩ := bd_of h
    refine c_go0 (c_rS (As := [.int x1]) (rest := []) C hM h17 (cc_J1_canEncode_fc78d l D ca A α_1 r_3.2 x1 _ hr_4) cw_J5_191 ⟨rfl, rfl⟩ ⟨Nat.le_of_ble_eq_true rfl, Nat.le_of_ble_eq_true rfl⟩ rfl rfl (cats_le _ (Nat.le_of_ble_eq_true rfl)) hl.1 dJ5_append_3fe6f_18 ⟨Nat.le_of_ble_eq_true rfl, Nat.le_of_ble_eq_true rfl⟩) hM (fun H locs hM => ?_)
    refine W_st (st' := [.int r_4.1]) rfl ?_
    refine lv_if_eq (tgt := 45) hx hb dJ5_append_3fe6f_21 (by decide) (fun c_2 => ?_) (fun c_2 => ?_)
    · have h := br_T c_2 h
      cases h
    · have h := br_F c_2 h
      refine c_aload_n (t := 11) (x := (some 0)) hx hb dJ5_append_3fe6f_24 rfl (lv_at hl 0 rfl) ?_
      refine c_getrt C hM (k := 11) (f := 0) (t := 16) (hM.cst 11 0 rfl) (by decide) fl_J5_15 dJ5_append_3fe6f_25 ?_
      refine c_aload_n (t := 11) (x := (some 0)) hx hb dJ5_append_3fe6f_28 rfl (lv_at hl 0 rfl) ?_
      refine lv_dup hx hb dJ5_append_3fe6f_29 cr_cat ?_
      refine c_geti C hM (k := 11) (f := 3) (hM.cst 11 0 rfl) rfl fl_J5_79 dJ5_append_3fe6f_30 ?_
      refine lv_dup_x1 hx hb dJ5_append_3fe6f_33 rfl cr_cat ?_
      refine lv_iconst (v := (1 : Int32)) hx hb dJ5_append_3fe6f_34 (by decide) ?_
      refine lv_iadd hx hb dJ5_append_3fe6f_35 ?_
      refine c_puti C hM (k := 11) (f := 3) (hM.cst 11 0 rfl) rfl fl_J5_79 (Or.inl rfl) dJ5_append_3fe6f_36 (fun H locs hM => ?_)
      refine lv_iload_n hx hb dJ5_append_3fe6f_39 rfl (lv_at hl 1 rfl) ?_
      refine lv_i2b (v := x1.toInt8.toInt32) hx hb dJ5_append_3fe6f_40 rfl ?_
      obtain ⟨i_5, hd_5, h⟩ := bd_of h
      obtain ⟨c_3, h⟩ := ko_of h
      refine c_bast C hM hd_5 c_3 dJ5_append_3fe6f_41 (fun H locs hM => ?_)
      refine lv_goto (tgt := 75) hx hb dJ5_append_3fe6f_42 (by decide) ?_
      refine c_aload_n (t := 11) (x := (some 0)) hx hb dJ5_append_3fe6f_75 rfl (lv_at hl 0 rfl) ?_
      exact c_rac (k := 11) (j := 0) C hM (fun h => by cases h) hr rfl hlk dJ5_append_3fe6f_76 h
/-! java/lang/AbstractStringBuilder.append(I)Ljava/lang/AbstractStringBuilder; -/
abbrev rc_J5_append_c97b9Z : Room := { frames := 4, cells := 0, slots := 0, locals := 91 }
def fc_J5_append_c97b9Z (σ : cS) (x1 : Int32) : Option (cS) :=
  (fc_J6_stringSize_0f7a4 σ x1).bind fun r_1 =>
  (fc_J5_ensureCapacityInternal_d00dfZ r_1.2 ((cI σ 11 0 3) + r_1.1)).bind fun r_2 =>
  (fc_J5_isLatin1_aae02 r_2).bind fun r_4 =>
  if r_4.1 = 0 then
    none
  else
    (fc_J6_getChars_ba4f3 r_4.2 x1 ((cI σ 11 0 3) + r_1.1) (cR r_4.2 11 0 0)).bind fun r_5 =>
    some (uI r_5.2 11 0 3 ((cI σ 11 0 3) + r_1.1))
set_option maxHeartbeats 4000000 in
set_option maxRecDepth 100000 in
theorem cc_J5_append_c97b9Z (l : Launch) (D : va_G) (ca : Nat → ClassId) (A : Nat → Prop) (α : cAl) (σ : cS) (x1 : Int32) (o : cS) (h : fc_J5_append_c97b9Z σ x1 = some o) : cMet true l yJ5_append_c97b9 cJ5_append_c97b9 4 ((some (FieldType.object "java/lang/AbstractStringBuilder"))) rc_J5_append_c97b9Z 0 0 D ca true A α σ [cr α 11 (some 0), .int x1] (fun α1 => some (cr α1 11 (some 0))) o := by
  refine Met.ofW (cc := cJ5_append_c97b9) (maxL := 4) (ret := (some (FieldType.object "java/lang/AbstractStringBuilder"))) (by decide) rfl ?_
  intro p e s m args below meth c s₁ B hml hv
  obtain ⟨rfl, hP, hK, hD0, hSh, hA, hG⟩ := hv
  have C : cC p s m _ c cJ5_append_c97b9 4 RJ5 D ca A α := ⟨B.exec, B.bytes, hml, findClass_of_methodNamed B.named, fun w hw => atoms_spec (ws := mWs yJ5_append_c97b9 cJ5_append_c97b9 4 ((some (FieldType.object "java/lang/AbstractStringBuilder")))) B.pre w (List.mem_cons_of_mem _ hw), hK, hG⟩
  have hM : cM D ca true A s.heap σ α σ α s.heap [] := ⟨hP, hD0, hSh, va_S.rf, hA, cX.rf⟩
  have h17 : 0 < cn σ 17 := c_17 hM
  have hr := B.returns
  have hlk := B.notSynchronized
  have hx := C.1
  have hb := C.2.1
  have hl := lv_entry ([cr α 11 (some 0), .int x1]) (n := 4) (Nat.le_of_ble_eq_true rfl)
  rw [lg_entry_eq]
  generalize (lg_sl ([cr α 11 (some 0), .int x1]) ++ List.replicate (4 - (lg_sl ([cr α 11 (some 0), .int x1])).length) Slot.unset).toArray = ls at hl ⊢
  have hl : lv_has ls 4 [(0, cr α 11 (some 0)), (1, .int x1)] := hl
  unfold fc_J5_append_c97b9Z at h
  refine c_aload_n (t := 11) (x := (some 0)) hx hb dJ5_append_c97b9_0 rfl (lv_at hl 0 rfl) ?_
  refine c_geti C hM (k := 11) (f := 3) (hM.cst 11 0 rfl) rfl fl_J5_79 dJ5_append_c97b9_1 ?_
  refine lv_istore_n (lv' := [(2, .int (cI σ 11 0 3)), (0, cr α 11 (some 0)), (1, .int x1)]) hx hb dJ5_append_c97b9_4 rfl hl (by decide) rfl (fun ls hl => ?_)
  refine lv_iload_n hx hb dJ5_append_c97b9_5 rfl (lv_at hl 0 rfl) ?_
  refine lv_iload_n hx hb dJ5_append_c97b9_6 rfl (lv_at hl 2 rfl) ?_
  obtain ⟨r_1, hr_1, h⟩ := bd_of h
  refine c_go0 (c_rS (As := [.int x1]) (rest := [.int (cI σ 11 0 3)]) C hM h17 (cc_J6_stringSize_0f7a4 l D ca A α σ x1 _ hr_1) cw_J5_245 ⟨rfl, rfl⟩ ⟨Nat.le_of_ble_eq_true rfl, Nat.le_of_ble_eq_true rfl⟩ rfl rfl (cats_le _ (Nat.le_of_ble_eq_true rfl)) hl.1 dJ5_append_c97b9_7 ⟨Nat.le_of_ble_eq_true rfl, Nat.le_of_ble_eq_true rfl⟩) hM (fun H locs hM => ?_)
  refine W_st (st' := [.int r_1.1, .int (cI σ 11 0 3)]) rfl ?_
  refine lv_iadd hx hb dJ5_append_c97b9_10 ?_
  refine lv_istore_n (lv' := [(3, .int ((cI σ 11 0 3) + r_1.1)), (2, .int (cI σ 11 0 3)), (0, cr α 11 (some 0)), (1, .int x1)]) hx hb dJ5_append_c97b9_11 rfl hl (by decide) rfl (fun ls hl => ?_)
  refine c_aload_n (t := 11) (x := (some 0)) hx hb dJ5_append_c97b9_12 rfl (lv_at hl 2 rfl) ?_
  refine lv_iload_n hx hb dJ5_append_c97b9_13 rfl (lv_at hl 0 rfl) ?_
  have hlv_3 := c_lvc hM 11 0 rfl
  obtain ⟨r_2, hr_2, h⟩ := bd_of h
  refine c_go1 (c_rU (As := [.int ((cI σ 11 0 3) + r_1.1)]) (rest := []) C hM h17 (hM.cst 11 0 rfl) (cc_J5_ensureCapacityInternal_d00dfZ l D ca A α r_1.2 ((cI σ 11 0 3) + r_1.1) _ hr_2) cw_J5_100 ⟨rfl, rfl⟩ ⟨Nat.le_of_ble_eq_true rfl, Nat.le_of_ble_eq_true rfl⟩ rfl rfl (cats_le _ (Nat.le_of_ble_eq_true rfl)) hl.1 dJ5_append_c97b9_14 ⟨Nat.le_of_ble_eq_true rfl, Nat.le_of_ble_eq_true rfl⟩) hM (fun H locs α_1 hX_2 hM => ?_)
  have e_3 : cr α 11 (some 0) = cr α_1 11 (some 0) := cr_to hX_2 hlv_3
  have hl := lv_to (lv_sub hl [0, 2, 3] rfl) (show ([(3, .int ((cI σ 11 0 3) + r_1.1)), (0, cr α 11 (some 0)), (1, .int x1)] : List (Nat × Value)) = [(3, .int ((cI σ 11 0 3) + r_1.1)), (0, cr α_1 11 (some 0)), (1, .int x1)] by rw [e_3])
  refine W_st (st' := []) rfl ?_
  refine c_aload_n (t := 11) (x := (some 0)) hx hb dJ5_append_c97b9_17 rfl (lv_at hl 1 rfl) ?_
  obtain ⟨r_4, hr_4, h⟩ := bd_of h
  refine c_go0 (c_rU (As := []) (rest := []) C hM h17 (hM.cst 11 0 rfl) (cc_J5_isLatin1_aae02 l D ca A α_1 r_2 _ hr_4) cw_J5_83 ⟨rfl, rfl⟩ ⟨Nat.le_of_ble_eq_true rfl, Nat.le_of_ble_eq_true rfl⟩ rfl rfl (cats_le _ (Nat.le_of_ble_eq_true rfl)) hl.1 dJ5_append_c97b9_18 ⟨Nat.le_of_ble_eq_true rfl, Nat.le_of_ble_eq_true rfl⟩) hM (fun H locs hM => ?_)
  refine W_st (st' := [.int r_4.1]) rfl ?_
  refine lv_if_eq (tgt := 37) hx hb dJ5_append_c97b9_21 (by decide) (fun c_1 => ?_) (fun c_1 => ?_)
  · have h := br_T c_1 h
    cases h
  · have h := br_F c_1 h
    refine lv_iload_n hx hb dJ5_append_c97b9_24 rfl (lv_at hl 2 rfl) ?_
    refine lv_iload_n hx hb dJ5_append_c97b9_25 rfl (lv_at hl 0 rfl) ?_
    refine c_aload_n (t := 11) (x := (some 0)) hx hb dJ5_append_c97b9_26 rfl (lv_at hl 1 rfl) ?_
    refine c_getrt C hM (k := 11) (f := 0) (t := 16) (hM.cst 11 0 rfl) (by decide) fl_J5_15 dJ5_append_c97b9_27 ?_
    obtain ⟨r_5, hr_5, h⟩ := bd_of h
    refine c_go0 (c_rS (As := [.int x1, .int ((cI σ 11 0 3) + r_1.1), cr α_1 16 (cR r_4.2 11 0 0)]) (rest := []) C hM h17 (cc_J6_getChars_ba4f3 l D ca A α_1 r_4.2 x1 ((cI σ 11 0 3) + r_1.1) (cR r_4.2 11 0 0) _ hr_5) cw_J5_248 ⟨rfl, rfl⟩ ⟨Nat.le_of_ble_eq_true rfl, Nat.le_of_ble_eq_true rfl⟩ rfl rfl (cats_le _ (Nat.le_of_ble_eq_true rfl)) hl.1 dJ5_append_c97b9_30 ⟨Nat.le_of_ble_eq_true rfl, Nat.le_of_ble_eq_true rfl⟩) hM (fun H locs hM => ?_)
    refine W_st (st' := [.int r_5.1]) rfl ?_
    refine lv_pop hx hb dJ5_append_c97b9_33 rfl ?_
    refine lv_goto (tgt := 48) hx hb dJ5_append_c97b9_34 (by decide) ?_
    refine c_aload_n (t := 11) (x := (some 0)) hx hb dJ5_append_c97b9_48 rfl (lv_at hl 1 rfl) ?_
    refine lv_iload_n hx hb dJ5_append_c97b9_49 rfl (lv_at hl 0 rfl) ?_
    refine c_puti C hM (k := 11) (f := 3) (hM.cst 11 0 rfl) rfl fl_J5_79 (Or.inl rfl) dJ5_append_c97b9_50 (fun H locs hM => ?_)
    refine c_aload_n (t := 11) (x := (some 0)) hx hb dJ5_append_c97b9_53 rfl (lv_at hl 1 rfl) ?_
    exact c_rac (k := 11) (j := 0) C hM (fun h => by cases h) hr rfl hlk dJ5_append_c97b9_54 h
/-! java/lang/StringBuilder.setLength(I)V -/
abbrev rc_J4_setLength_d00dfZ : Room := { frames := 5, cells := 0, slots := 0, locals := 112 }
def fc_J4_setLength_d00dfZ (σ : cS) (x1 : Int32) : Option (cS) :=
  (fc_J5_setLength_d00dfZ σ x1).bind fun r_1 =>
  some r_1
set_option maxHeartbeats 4000000 in
set_option maxRecDepth 100000 in
theorem cc_J4_setLength_d00dfZ (l : Launch) (D : va_G) (ca : Nat → ClassId) (A : Nat → Prop) (α : cAl) (σ : cS) (x1 : Int32) (o : cS) (h : fc_J4_setLength_d00dfZ σ x1 = some o) : cMet true l yJ4_setLength_d00df cJ4_setLength_d00df 2 ((none : Option FieldType)) rc_J4_setLength_d00dfZ 0 0 D ca true A α σ [cr α 11 (some 0), .int x1] (fun _ => none) o := by
  refine Met.ofW (cc := cJ4_setLength_d00df) (maxL := 2) (ret := (none : Option FieldType)) (by decide) rfl ?_
  intro p e s m args below meth c s₁ B hml hv
  obtain ⟨rfl, hP, hK, hD0, hSh, hA, hG⟩ := hv
  have C : cC p s m _ c cJ4_setLength_d00df 2 RJ4 D ca A α := ⟨B.exec, B.bytes, hml, findClass_of_methodNamed B.named, fun w hw => atoms_spec (ws := mWs yJ4_setLength_d00df cJ4_setLength_d00df 2 ((none : Option FieldType))) B.pre w (List.mem_cons_of_mem _ hw), hK, hG⟩
  have hM : cM D ca true A s.heap σ α σ α s.heap [] := ⟨hP, hD0, hSh, va_S.rf, hA, cX.rf⟩
  have h17 : 0 < cn σ 17 := c_17 hM
  have hr := B.returns
  have hlk := B.notSynchronized
  have hx := C.1
  have hb := C.2.1
  have hl := lv_entry ([cr α 11 (some 0), .int x1]) (n := 2) (Nat.le_of_ble_eq_true rfl)
  rw [lg_entry_eq]
  generalize (lg_sl ([cr α 11 (some 0), .int x1]) ++ List.replicate (2 - (lg_sl ([cr α 11 (some 0), .int x1])).length) Slot.unset).toArray = ls at hl ⊢
  have hl : lv_has ls 2 [(0, cr α 11 (some 0)), (1, .int x1)] := hl
  unfold fc_J4_setLength_d00dfZ at h
  refine c_aload_n (t := 11) (x := (some 0)) hx hb dJ4_setLength_d00df_0 rfl (lv_at hl 0 rfl) ?_
  refine lv_iload_n hx hb dJ4_setLength_d00df_1 rfl (lv_at hl 1 rfl) ?_
  obtain ⟨r_1, hr_1, h⟩ := bd_of h
  refine c_go1 (c_rSU (As := [.int x1]) (rest := []) C hM h17 (hM.cst 11 0 rfl) (cc_J5_setLength_d00dfZ l D ca A α σ x1 _ hr_1) cw_J4_333 ⟨rfl, rfl⟩ ⟨Nat.le_of_ble_eq_true rfl, Nat.le_of_ble_eq_true rfl⟩ rfl rfl (cats_le _ (Nat.le_of_ble_eq_true rfl)) hl.1 dJ4_setLength_d00df_2 ⟨Nat.le_of_ble_eq_true rfl, Nat.le_of_ble_eq_true rfl⟩) hM (fun H locs α_1 hX_1 hM => ?_)
  have hl := lv_to (lv_sub hl [] rfl) (show ([] : List (Nat × Value)) = [] by rfl)
  refine W_st (st' := []) rfl ?_
  exact c_rv C hM (fun h => by cases h) hr hlk dJ4_setLength_d00df_5 h
/-! java/lang/StringBuilder.append(Ljava/lang/String;)Ljava/lang/StringBuilder; -/
abbrev rc_J4_append_15ec4Z : Room := { frames := 5, cells := 0, slots := 0, locals := 113 }
def fc_J4_append_15ec4Z (σ : cS) (x1 : Option Nat) : Option (cS) :=
  (fc_J5_append_cf1ceZ σ x1).bind fun r_1 =>
  some r_1
set_option maxHeartbeats 4000000 in
set_option maxRecDepth 100000 in
theorem cc_J4_append_15ec4Z (l : Launch) (D : va_G) (ca : Nat → ClassId) (A : Nat → Prop) (α : cAl) (σ : cS) (x1 : Option Nat) (o : cS) (h : fc_J4_append_15ec4Z σ x1 = some o) : cMet true l yJ4_append_15ec4 cJ4_append_15ec4 2 ((some (FieldType.object "java/lang/StringBuilder"))) rc_J4_append_15ec4Z 0 0 D ca true A α σ [cr α 11 (some 0), cr α 19 x1] (fun α1 => some (cr α1 11 (some 0))) o := by
  refine Met.ofW (cc := cJ4_append_15ec4) (maxL := 2) (ret := (some (FieldType.object "java/lang/StringBuilder"))) (by decide) rfl ?_
  intro p e s m args below meth c s₁ B hml hv
  obtain ⟨rfl, hP, hK, hD0, hSh, hA, hG⟩ := hv
  have C : cC p s m _ c cJ4_append_15ec4 2 RJ4 D ca A α := ⟨B.exec, B.bytes, hml, findClass_of_methodNamed B.named, fun w hw => atoms_spec (ws := mWs yJ4_append_15ec4 cJ4_append_15ec4 2 ((some (FieldType.object "java/lang/StringBuilder")))) B.pre w (List.mem_cons_of_mem _ hw), hK, hG⟩
  have hM : cM D ca true A s.heap σ α σ α s.heap [] := ⟨hP, hD0, hSh, va_S.rf, hA, cX.rf⟩
  have h17 : 0 < cn σ 17 := c_17 hM
  have hr := B.returns
  have hlk := B.notSynchronized
  have hx := C.1
  have hb := C.2.1
  have hl := lv_entry ([cr α 11 (some 0), cr α 19 x1]) (n := 2) (by simp [lg_r, lg_i, lg_l, lg_n])
  rw [lg_entry_eq]
  generalize (lg_sl ([cr α 11 (some 0), cr α 19 x1]) ++ List.replicate (2 - (lg_sl ([cr α 11 (some 0), cr α 19 x1])).length) Slot.unset).toArray = ls at hl ⊢
  have hl : lv_has ls 2 [(0, cr α 11 (some 0)), (1, cr α 19 x1)] := (lv_to hl (by simp only [la_r, la_i, la_l, la_n]))
  unfold fc_J4_append_15ec4Z at h
  refine c_aload_n (t := 11) (x := (some 0)) hx hb dJ4_append_15ec4_0 rfl (lv_at hl 0 rfl) ?_
  refine c_aload_n (t := 19) (x := x1) hx hb dJ4_append_15ec4_1 rfl (lv_at hl 1 rfl) ?_
  have hlv_2 := c_lvc hM 11 0 rfl
  obtain ⟨r_1, hr_1, h⟩ := bd_of h
  refine c_go1 (c_rSU (As := [cr α 19 x1]) (rest := []) C hM h17 (hM.cst 11 0 rfl) (cc_J5_append_cf1ceZ l D ca A α σ x1 _ hr_1) cw_J4_29 ⟨rfl, rfl⟩ ⟨Nat.le_of_ble_eq_true rfl, Nat.le_of_ble_eq_true rfl⟩ rfl rfl (cats_le _ (Nat.le_of_ble_eq_true rfl)) hl.1 dJ4_append_15ec4_2 ⟨Nat.le_of_ble_eq_true rfl, Nat.le_of_ble_eq_true rfl⟩) hM (fun H locs α_1 hX_1 hM => ?_)
  have e_2 : cr α 11 (some 0) = cr α_1 11 (some 0) := cr_to hX_1 hlv_2
  have hl := lv_to (lv_sub hl [0] rfl) (show ([(0, cr α 11 (some 0))] : List (Nat × Value)) = [(0, cr α_1 11 (some 0))] by rw [e_2])
  refine W_st (st' := [cr α_1 11 (some 0)]) rfl ?_
  refine lv_pop hx hb dJ4_append_15ec4_5 cr_cat ?_
  refine c_aload_n (t := 11) (x := (some 0)) hx hb dJ4_append_15ec4_6 rfl (lv_at hl 0 rfl) ?_
  exact c_rac (k := 11) (j := 0) C hM (fun h => by cases h) hr rfl hlk dJ4_append_15ec4_7 h
/-! java/lang/StringBuilder.append(C)Ljava/lang/StringBuilder; -/
abbrev rc_J4_append_cf468Z : Room := { frames := 5, cells := 0, slots := 0, locals := 112 }
def fc_J4_append_cf468Z (σ : cS) (x1 : Int32) : Option (cS) :=
  (fc_J5_append_3fe6fZ σ x1).bind fun r_1 =>
  some r_1
set_option maxHeartbeats 4000000 in
set_option maxRecDepth 100000 in
theorem cc_J4_append_cf468Z (l : Launch) (D : va_G) (ca : Nat → ClassId) (A : Nat → Prop) (α : cAl) (σ : cS) (x1 : Int32) (o : cS) (h : fc_J4_append_cf468Z σ x1 = some o) : cMet true l yJ4_append_cf468 cJ4_append_cf468 2 ((some (FieldType.object "java/lang/StringBuilder"))) rc_J4_append_cf468Z 0 0 D ca true A α σ [cr α 11 (some 0), .int x1] (fun α1 => some (cr α1 11 (some 0))) o := by
  refine Met.ofW (cc := cJ4_append_cf468) (maxL := 2) (ret := (some (FieldType.object "java/lang/StringBuilder"))) (by decide) rfl ?_
  intro p e s m args below meth c s₁ B hml hv
  obtain ⟨rfl, hP, hK, hD0, hSh, hA, hG⟩ := hv
  have C : cC p s m _ c cJ4_append_cf468 2 RJ4 D ca A α := ⟨B.exec, B.bytes, hml, findClass_of_methodNamed B.named, fun w hw => atoms_spec (ws := mWs yJ4_append_cf468 cJ4_append_cf468 2 ((some (FieldType.object "java/lang/StringBuilder")))) B.pre w (List.mem_cons_of_mem _ hw), hK, hG⟩
  have hM : cM D ca true A s.heap σ α σ α s.heap [] := ⟨hP, hD0, hSh, va_S.rf, hA, cX.rf⟩
  have h17 : 0 < cn σ 17 := c_17 hM
  have hr := B.returns
  have hlk := B.notSynchronized
  have hx := C.1
  have hb := C.2.1
  have hl := lv_entry ([cr α 11 (some 0), .int x1]) (n := 2) (Nat.le_of_ble_eq_true rfl)
  rw [lg_entry_eq]
  generalize (lg_sl ([cr α 11 (some 0), .int x1]) ++ List.replicate (2 - (lg_sl ([cr α 11 (some 0), .int x1])).length) Slot.unset).toArray = ls at hl ⊢
  have hl : lv_has ls 2 [(0, cr α 11 (some 0)), (1, .int x1)] := hl
  unfold fc_J4_append_cf468Z at h
  refine c_aload_n (t := 11) (x := (some 0)) hx hb dJ4_append_cf468_0 rfl (lv_at hl 0 rfl) ?_
  refine lv_iload_n hx hb dJ4_append_cf468_1 rfl (lv_at hl 1 rfl) ?_
  have hlv_2 := c_lvc hM 11 0 rfl
  obtain ⟨r_1, hr_1, h⟩ := bd_of h
  refine c_go1 (c_rSU (As := [.int x1]) (rest := []) C hM h17 (hM.cst 11 0 rfl) (cc_J5_append_3fe6fZ l D ca A α σ x1 _ hr_1) cw_J4_50 ⟨rfl, rfl⟩ ⟨Nat.le_of_ble_eq_true rfl, Nat.le_of_ble_eq_true rfl⟩ rfl rfl (cats_le _ (Nat.le_of_ble_eq_true rfl)) hl.1 dJ4_append_cf468_2 ⟨Nat.le_of_ble_eq_true rfl, Nat.le_of_ble_eq_true rfl⟩) hM (fun H locs α_1 hX_1 hM => ?_)
  have e_2 : cr α 11 (some 0) = cr α_1 11 (some 0) := cr_to hX_1 hlv_2
  have hl := lv_to (lv_sub hl [0] rfl) (show ([(0, cr α 11 (some 0))] : List (Nat × Value)) = [(0, cr α_1 11 (some 0))] by rw [e_2])
  refine W_st (st' := [cr α_1 11 (some 0)]) rfl ?_
  refine lv_pop hx hb dJ4_append_cf468_5 cr_cat ?_
  refine c_aload_n (t := 11) (x := (some 0)) hx hb dJ4_append_cf468_6 rfl (lv_at hl 0 rfl) ?_
  exact c_rac (k := 11) (j := 0) C hM (fun h => by cases h) hr rfl hlk dJ4_append_cf468_7 h
/-! java/lang/StringBuilder.append(I)Ljava/lang/StringBuilder; -/
abbrev rc_J4_append_bf812Z : Room := { frames := 5, cells := 0, slots := 0, locals := 114 }
def fc_J4_append_bf812Z (σ : cS) (x1 : Int32) : Option (cS) :=
  (fc_J5_append_c97b9Z σ x1).bind fun r_1 =>
  some r_1
set_option maxHeartbeats 4000000 in
set_option maxRecDepth 100000 in
theorem cc_J4_append_bf812Z (l : Launch) (D : va_G) (ca : Nat → ClassId) (A : Nat → Prop) (α : cAl) (σ : cS) (x1 : Int32) (o : cS) (h : fc_J4_append_bf812Z σ x1 = some o) : cMet true l yJ4_append_bf812 cJ4_append_bf812 2 ((some (FieldType.object "java/lang/StringBuilder"))) rc_J4_append_bf812Z 0 0 D ca true A α σ [cr α 11 (some 0), .int x1] (fun α1 => some (cr α1 11 (some 0))) o := by
  refine Met.ofW (cc := cJ4_append_bf812) (maxL := 2) (ret := (some (FieldType.object "java/lang/StringBuilder"))) (by decide) rfl ?_
  intro p e s m args below meth c s₁ B hml hv
  obtain ⟨rfl, hP, hK, hD0, hSh, hA, hG⟩ := hv
  have C : cC p s m _ c cJ4_append_bf812 2 RJ4 D ca A α := ⟨B.exec, B.bytes, hml, findClass_of_methodNamed B.named, fun w hw => atoms_spec (ws := mWs yJ4_append_bf812 cJ4_append_bf812 2 ((some (FieldType.object "java/lang/StringBuilder")))) B.pre w (List.mem_cons_of_mem _ hw), hK, hG⟩
  have hM : cM D ca true A s.heap σ α σ α s.heap [] := ⟨hP, hD0, hSh, va_S.rf, hA, cX.rf⟩
  have h17 : 0 < cn σ 17 := c_17 hM
  have hr := B.returns
  have hlk := B.notSynchronized
  have hx := C.1
  have hb := C.2.1
  have hl := lv_entry ([cr α 11 (some 0), .int x1]) (n := 2) (Nat.le_of_ble_eq_true rfl)
  rw [lg_entry_eq]
  generalize (lg_sl ([cr α 11 (some 0), .int x1]) ++ List.replicate (2 - (lg_sl ([cr α 11 (some 0), .int x1])).length) Slot.unset).toArray = ls at hl ⊢
  have hl : lv_has ls 2 [(0, cr α 11 (some 0)), (1, .int x1)] := hl
  unfold fc_J4_append_bf812Z at h
  refine c_aload_n (t := 11) (x := (some 0)) hx hb dJ4_append_bf812_0 rfl (lv_at hl 0 rfl) ?_
  refine lv_iload_n hx hb dJ4_append_bf812_1 rfl (lv_at hl 1 rfl) ?_
  have hlv_2 := c_lvc hM 11 0 rfl
  obtain ⟨r_1, hr_1, h⟩ := bd_of h
  refine c_go1 (c_rSU (As := [.int x1]) (rest := []) C hM h17 (hM.cst 11 0 rfl) (cc_J5_append_c97b9Z l D ca A α σ x1 _ hr_1) cw_J4_53 ⟨rfl, rfl⟩ ⟨Nat.le_of_ble_eq_true rfl, Nat.le_of_ble_eq_true rfl⟩ rfl rfl (cats_le _ (Nat.le_of_ble_eq_true rfl)) hl.1 dJ4_append_bf812_2 ⟨Nat.le_of_ble_eq_true rfl, Nat.le_of_ble_eq_true rfl⟩) hM (fun H locs α_1 hX_1 hM => ?_)
  have e_2 : cr α 11 (some 0) = cr α_1 11 (some 0) := cr_to hX_1 hlv_2
  have hl := lv_to (lv_sub hl [0] rfl) (show ([(0, cr α 11 (some 0))] : List (Nat × Value)) = [(0, cr α_1 11 (some 0))] by rw [e_2])
  refine W_st (st' := [cr α_1 11 (some 0)]) rfl ?_
  refine lv_pop hx hb dJ4_append_bf812_5 cr_cat ?_
  refine c_aload_n (t := 11) (x := (some 0)) hx hb dJ4_append_bf812_6 rfl (lv_at hl 0 rfl) ?_
  exact c_rac (k := 11) (j := 0) C hM (fun h => by cases h) hr rfl hlk dJ4_append_bf812_7 h
