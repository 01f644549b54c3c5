/-! The class's methods: what each makes of the state (fc_..), as the bytecode has it; and that it does (cc_..). -/
theorem cw_X5_54 : cCallV RX5 54 (cRn 7) yX2_wordsOfPath cX2_wordsOfPath 4 ((some FieldType.long)) 0 := ⟨⟨wl_in (i := 1419) (by decide +kernel), wl_in (i := 395) (by decide +kernel), wl_in (i := 396) (by decide +kernel), wl_in (i := 35) (by decide +kernel), wl_in (i := 397) (by decide +kernel)⟩, rfl, by decide, by decide, by decide +kernel⟩
theorem cw_X5_62 : mCallS RX5 62 yJ13_bitCount_95d88 cJ13_bitCount_95d88 2 ((some FieldType.int)) 1 := ⟨⟨wl_in (i := 1421) (by decide +kernel), wl_in (i := 738) (by decide +kernel), wl_in (i := 26) (by decide +kernel), wl_in (i := 739) (by decide +kernel)⟩, by decide, by decide, by decide +kernel⟩
theorem fl_X5_68 : Cond.fieldLink RX5 68 (cTt 4 0).1 (cTt 4 0).2.1 (cTt 4 0).2.2.1 ∈ wl := wl_in (i := 213) (by decide +kernel)
theorem cw_X5_73 : cCallV RX5 73 (cRn 4) yX8_nodesShowing cX8_nodesShowing 5 ((some FieldType.int)) 1 := ⟨⟨wl_in (i := 1422) (by decide +kernel), wl_in (i := 1423) (by decide +kernel), wl_in (i := 1424) (by decide +kernel), wl_in (i := 6) (by decide +kernel), wl_in (i := 1425) (by decide +kernel)⟩, rfl, by decide, by decide, by decide +kernel⟩
theorem fl_X5_76 : Cond.fieldLink RX5 76 (cTt 9 2).1 (cTt 9 2).2.1 (cTt 9 2).2.2.1 ∈ wl := wl_in (i := 1451) (by decide +kernel)
theorem fl_X7_22 : Cond.fieldLink RX7 22 (cTt 1 3).1 (cTt 1 3).2.1 (cTt 1 3).2.2.1 ∈ wl := wl_in (i := 61) (by decide +kernel)
theorem cw_X7_26 : cCallV RX7 26 "java/lang/String" yJ0_length_8abf5 cJ0_length_8abf5 1 ((some FieldType.int)) 0 := ⟨⟨wl_in (i := 1105) (by decide +kernel), wl_in (i := 769) (by decide +kernel), wl_in (i := 770) (by decide +kernel), wl_in (i := 14) (by decide +kernel), wl_in (i := 771) (by decide +kernel)⟩, rfl, by decide, by decide, by decide +kernel⟩
theorem cw_X7_31 : cCallV RX7 31 "java/lang/String" yJ0_charAt_5068e cJ0_charAt_5068e 2 ((some FieldType.char)) 1 := ⟨⟨wl_in (i := 1106) (by decide +kernel), wl_in (i := 1107) (by decide +kernel), wl_in (i := 1108) (by decide +kernel), wl_in (i := 14) (by decide +kernel), wl_in (i := 1109) (by decide +kernel)⟩, rfl, by decide, by decide, by decide +kernel⟩
theorem cw_X7_35 : cCallV RX7 35 (cRn 1) yX7_packed cX7_packed 6 ((some FieldType.long)) 2 := ⟨⟨wl_in (i := 629) (by decide +kernel), wl_in (i := 630) (by decide +kernel), wl_in (i := 631) (by decide +kernel), wl_in (i := 2) (by decide +kernel), wl_in (i := 632) (by decide +kernel)⟩, rfl, by decide, by decide, by decide +kernel⟩
theorem cw_X8_22 : cCallV RX8 22 (cRn 10) yJx4a65c_isEmpty_aae02 cJx4a65c_isEmpty_aae02 1 ((some FieldType.boolean)) 0 := ⟨⟨wl_in (i := 670) (by decide +kernel), wl_in (i := 671) (by decide +kernel), wl_in (i := 672) (by decide +kernel), wl_in (i := 9) (by decide +kernel), wl_in (i := 673) (by decide +kernel)⟩, rfl, by decide, by decide, by decide +kernel⟩
theorem fl_X8_30 : Cond.fieldLink RX8 30 (cTt 4 2).1 (cTt 4 2).2.1 (cTt 4 2).2.2.1 ∈ wl := wl_in (i := 217) (by decide +kernel)
/-! Lorewick$Shop.priceAt(ILLorewick$Node;LLorewick$Tree;)I -/
abbrev rc_X5_priceAt : Room := { frames := 5, cells := 0, slots := 0, locals := 126 }
def fc_X5_priceAt_43 (σ : cS) : Option (Int32 × cS) :=
    some ((0 : Int32), σ)
set_option maxHeartbeats 4000000 in
set_option maxRecDepth 100000 in
theorem gc_X5_priceAt_43 {p : Program} {l : Launch} {e : Env} {s : State} {m : MethodId} {args : Array Value} {below : List Frame} {meth : Method} {c : Code} {D : va_G} {ca : Nat → ClassId} {A : Nat → Prop} {σ0 : cS} {α : cAl} {o : Int32 × cS} (C : cC p s m args c cX5_priceAt 9 RX5 D ca A α) (hr : meth.sig.returnType = (some FieldType.int)) (hlk : meth.locks = false) (h17 : 0 < cn σ0 17) : ∀ (σ : cS) (H : Heap) (locs : List Loc) (ls : Array Slot), cM D ca true A s.heap σ0 α σ α H locs → lv_has ls 9 [] → fc_X5_priceAt_43 σ = some o → W p l e rc_X5_priceAt s m args below meth c H locs 0 0 (MQ below (cQ false D ca true A α σ0 (fun _ => some (.int o.1)) o.2) args s 0 0 A) (F0 m 43 ls []) := by
  have hx := C.1
  have hb := C.2.1
  intro σ H locs ls hM hl h
  unfold fc_X5_priceAt_43 at h
  refine lv_iconst (v := (0 : Int32)) hx hb dX5_priceAt_43 (by decide) ?_
  exact c_ri C hM (fun _ => rfl) hr hlk dX5_priceAt_44 h
def fc_X5_priceAt (σ : cS) (x1 : Int32) (x2 : Option Nat) : Option (Int32 × cS) :=
  if x1 < 0 ∨ 12 ≤ x1.toNatClampNeg then none else
  (dr σ 7 x2).bind fun i_1 =>
  (fc_X2_wordsOfPath σ x2).bind fun r_2 =>
  (fc_J13_bitCount_95d88 r_2.2 ((cJ σ 15 3 x1.toNatClampNeg) &&& (r_2.1 ^^^ (-1 : Int64)))).bind fun r_3 =>
  (fc_Jx4a65c_size_8abf5 r_3.2 (some 0)).bind fun r_4 =>
  if r_3.1 = 0 then
    fc_X5_priceAt_43 r_4.2
  else
    if r_4.1 = 0 then
      fc_X5_priceAt_43 r_4.2
    else
      (fc_X8_nodesShowing r_4.2 (cJ σ 15 3 x1.toNatClampNeg)).bind fun r_5 =>
      if ¬ ((FP.fdiv (FP.i2f r_5.1) (FP.i2f r_4.1)) &&& 0x7fffffff ≤ 0x7f800000) then none else
      if x1 < 0 ∨ 12 ≤ x1.toNatClampNeg then none else
      if ¬ ((FP.fsub FP.fconst2 (FP.fdiv (FP.i2f r_5.1) (FP.i2f r_4.1))) &&& 0x7fffffff ≤ 0x7f800000) then none else
      if ¬ ((FP.fmul (FP.i2f ((cI r_5.2 12 12 x1.toNatClampNeg) * r_3.1)) (FP.fsub FP.fconst2 (FP.fdiv (FP.i2f r_5.1) (FP.i2f r_4.1)))) &&& 0x7fffffff ≤ 0x7f800000) then none else
      some ((FP.f2i (FP.fmul (FP.i2f ((cI r_5.2 12 12 x1.toNatClampNeg) * r_3.1)) (FP.fsub FP.fconst2 (FP.fdiv (FP.i2f r_5.1) (FP.i2f r_4.1))))), r_5.2)
set_option maxHeartbeats 4000000 in
set_option maxRecDepth 100000 in
theorem cc_X5_priceAt (l : Launch) (D : va_G) (ca : Nat → ClassId) (A : Nat → Prop) (α : cAl) (σ : cS) (x1 : Int32) (x2 : Option Nat) (o : Int32 × cS) (h : fc_X5_priceAt σ x1 x2 = some o) : cMet false l yX5_priceAt cX5_priceAt 9 ((some FieldType.int)) rc_X5_priceAt 0 0 D ca true A α σ [cr α 5 (some 0), .int x1, cr α 7 x2, cr α 4 (some 0)] (fun _ => some (.int o.1)) o.2 := by
  refine Met.ofW (cc := cX5_priceAt) (maxL := 9) (ret := (some FieldType.int)) (by decide) rfl ?_
  intro p e s m args below meth c s₁ B hml hv
  obtain ⟨rfl, hP, hK, hD0, hSh, hA, hG⟩ := hv
  have C : cC p s m _ c cX5_priceAt 9 RX5 D ca A α := ⟨B.exec, B.bytes, hml, findClass_of_methodNamed B.named, fun w hw => atoms_spec (ws := mWs yX5_priceAt cX5_priceAt 9 ((some FieldType.int))) B.pre w (List.mem_cons_of_mem _ hw), hK, hG⟩
  have hM : cM D ca true A s.heap σ α σ α s.heap [] := ⟨hP, hD0, hSh, va_S.rf, hA, cX.rf⟩
  have h17 : 0 < cn σ 17 := c_17 hM
  have hr := B.returns
  have hlk := B.notSynchronized
  have hx := C.1
  have hb := C.2.1
  have hl := lv_entry ([cr α 5 (some 0), .int x1, cr α 7 x2, cr α 4 (some 0)]) (n := 9) (by simp [lg_r, lg_i, lg_l, lg_n])
  rw [lg_entry_eq]
  generalize (lg_sl ([cr α 5 (some 0), .int x1, cr α 7 x2, cr α 4 (some 0)]) ++ List.replicate (9 - (lg_sl ([cr α 5 (some 0), .int x1, cr α 7 x2, cr α 4 (some 0)])).length) Slot.unset).toArray = ls at hl ⊢
  have hl : lv_has ls 9 [(0, cr α 5 (some 0)), (1, .int x1), (2, cr α 7 x2), (3, cr α 4 (some 0))] := (lv_to hl (by simp only [la_r, la_i, la_l, la_n]))
  unfold fc_X5_priceAt at h
  refine c_aload_n (t := 5) (x := (some 0)) hx hb dX5_priceAt_0 rfl (lv_at hl 0 rfl) ?_
  refine c_getb C hM (k := 5) (f := 1) (j := 3) (t := 15) (hM.cst 5 0 rfl) (by decide) fl_X5_15 dX5_priceAt_1 ?_
  refine lv_iload_n hx hb dX5_priceAt_4 rfl (lv_at hl 1 rfl) ?_
  obtain ⟨c_1, h⟩ := ko_of h
  refine c_lald C hM (hM.cst 15 3 rfl) (by rw [hM.ln 15 3 12 (by decide)]; exact c_1) dX5_priceAt_5 ?_
  refine lv_lstore (lv' := [(4, .long (cJ σ 15 3 x1.toNatClampNeg)), (0, cr α 5 (some 0)), (1, .int x1), (2, cr α 7 x2), (3, cr α 4 (some 0))]) hx hb dX5_priceAt_6 hl (by decide) rfl (fun ls hl => ?_)
  refine lv_lload hx hb dX5_priceAt_8 (lv_at hl 0 rfl) ?_
  refine c_aload_n (t := 7) (x := x2) hx hb dX5_priceAt_10 rfl (lv_at hl 3 rfl) ?_
  obtain ⟨i_1, hd_1, h⟩ := bd_of h
  obtain ⟨r_2, hr_2, h⟩ := bd_of h
  refine c_go0 (c_rV (As := []) (rest := [.long (cJ σ 15 3 x1.toNatClampNeg)]) C hM h17 hd_1 (by decide) (cc_X2_wordsOfPath l D ca A α σ x2 _ hr_2) cw_X5_54 ⟨rfl, rfl⟩ ⟨Nat.le_of_ble_eq_true rfl, Nat.le_of_ble_eq_true rfl⟩ rfl rfl (cats_le _ (Nat.le_of_ble_eq_true rfl)) hl.1 dX5_priceAt_11 ⟨Nat.le_of_ble_eq_true rfl, Nat.le_of_ble_eq_true rfl⟩) hM (fun H locs hM => ?_)
  refine W_st (st' := [.long r_2.1, .long (cJ σ 15 3 x1.toNatClampNeg)]) rfl ?_
  refine lv_ldc2 (own := RX5) (v := (-1 : Int64)) hx hb C.2.2.2.1 (C.2.2.2.2.1 _ (wl_in (i := 1420) (by decide +kernel))) dX5_priceAt_14 ?_
  refine lv_lxor hx hb dX5_priceAt_17 ?_
  refine lv_land hx hb dX5_priceAt_18 ?_
  obtain ⟨r_3, hr_3, h⟩ := bd_of h
  refine c_go0 (c_rS (As := [.long ((cJ σ 15 3 x1.toNatClampNeg) &&& (r_2.1 ^^^ (-1 : Int64)))]) (rest := []) C hM h17 (cc_J13_bitCount_95d88 l D ca A α r_2.2 ((cJ σ 15 3 x1.toNatClampNeg) &&& (r_2.1 ^^^ (-1 : Int64))) _ hr_3) cw_X5_62 ⟨rfl, rfl⟩ ⟨Nat.le_of_ble_eq_true rfl, Nat.le_of_ble_eq_true rfl⟩ rfl rfl (cats_le _ (Nat.le_of_ble_eq_true rfl)) hl.1 dX5_priceAt_19 ⟨Nat.le_of_ble_eq_true rfl, Nat.le_of_ble_eq_true rfl⟩) hM (fun H locs hM => ?_)
  refine W_st (st' := [.int r_3.1]) rfl ?_
  refine lv_istore (lv' := [(6, .int r_3.1), (4, .long (cJ σ 15 3 x1.toNatClampNeg)), (0, cr α 5 (some 0)), (1, .int x1), (2, cr α 7 x2), (3, cr α 4 (some 0))]) hx hb dX5_priceAt_22 hl (by decide) rfl (fun ls hl => ?_)
  refine c_aload_n (t := 4) (x := (some 0)) hx hb dX5_priceAt_24 rfl (lv_at hl 5 rfl) ?_
  refine c_getb C hM (k := 4) (f := 0) (j := 0) (t := 10) (hM.cst 4 0 rfl) (by decide) fl_X5_68 dX5_priceAt_25 ?_
  obtain ⟨r_4, hr_4, h⟩ := bd_of h
  refine c_go0 (c_rV (As := []) (rest := []) C hM h17 (hM.cst 10 0 rfl) (by decide) (cc_Jx4a65c_size_8abf5 l D ca A α r_3.2 (some 0) _ hr_4) cw_X5_33 ⟨rfl, rfl⟩ ⟨Nat.le_of_ble_eq_true rfl, Nat.le_of_ble_eq_true rfl⟩ rfl rfl (cats_le _ (Nat.le_of_ble_eq_true rfl)) hl.1 dX5_priceAt_28 ⟨Nat.le_of_ble_eq_true rfl, Nat.le_of_ble_eq_true rfl⟩) hM (fun H locs hM => ?_)
  refine W_st (st' := [.int r_4.1]) rfl ?_
  refine lv_istore (lv' := [(7, .int r_4.1), (6, .int r_3.1), (4, .long (cJ σ 15 3 x1.toNatClampNeg)), (0, cr α 5 (some 0)), (1, .int x1), (2, cr α 7 x2), (3, cr α 4 (some 0))]) hx hb dX5_priceAt_31 hl (by decide) rfl (fun ls hl => ?_)
  refine lv_iload hx hb dX5_priceAt_33 (lv_at hl 1 rfl) ?_
  refine lv_if_eq (tgt := 43) hx hb dX5_priceAt_35 (by decide) (fun c_2 => ?_) (fun c_2 => ?_)
  · have h := br_T c_2 h
    exact gc_X5_priceAt_43 C hr hlk h17  _ _ _ _ hM (lv_sub hl [] rfl) h
  · have h := br_F c_2 h
    refine lv_iload hx hb dX5_priceAt_38 (lv_at hl 0 rfl) ?_
    refine lv_if_ne (tgt := 45) hx hb dX5_priceAt_40 (by decide) (fun c_3 => ?_) (fun c_3 => ?_)
    · have h := br_F c_3 h
      refine c_aload_n (t := 4) (x := (some 0)) hx hb dX5_priceAt_45 rfl (lv_at hl 6 rfl) ?_
      refine lv_lload hx hb dX5_priceAt_46 (lv_at hl 2 rfl) ?_
      obtain ⟨r_5, hr_5, h⟩ := bd_of h
      refine c_go0 (c_rV (As := [.long (cJ σ 15 3 x1.toNatClampNeg)]) (rest := []) C hM h17 (hM.cst 4 0 rfl) (by decide) (cc_X8_nodesShowing l D ca A α r_4.2 (cJ σ 15 3 x1.toNatClampNeg) _ hr_5) cw_X5_73 ⟨rfl, rfl⟩ ⟨Nat.le_of_ble_eq_true rfl, Nat.le_of_ble_eq_true rfl⟩ rfl rfl (cats_le _ (Nat.le_of_ble_eq_true rfl)) hl.1 dX5_priceAt_48 ⟨Nat.le_of_ble_eq_true rfl, Nat.le_of_ble_eq_true rfl⟩) hM (fun H locs hM => ?_)
      refine W_st (st' := [.int r_5.1]) rfl ?_
      refine lv_i2f hx hb dX5_priceAt_51 ?_
      refine lv_iload hx hb dX5_priceAt_52 (lv_at hl 0 rfl) ?_
      refine lv_i2f hx hb dX5_priceAt_54 ?_
      obtain ⟨c_4, h⟩ := ko_of h
      refine lv_fdiv hx hb dX5_priceAt_55 (Classical.not_not.mp c_4) ?_
      refine lv_fstore (lv' := [(8, .float (FP.fdiv (FP.i2f r_5.1) (FP.i2f r_4.1))), (7, .int r_4.1), (6, .int r_3.1), (4, .long (cJ σ 15 3 x1.toNatClampNeg)), (0, cr α 5 (some 0)), (1, .int x1), (2, cr α 7 x2), (3, cr α 4 (some 0))]) hx hb dX5_priceAt_56 hl (by decide) rfl (fun ls hl => ?_)
      refine c_aload_n (t := 5) (x := (some 0)) hx hb dX5_priceAt_58 rfl (lv_at hl 4 rfl) ?_
      refine c_getb C hM (k := 5) (f := 0) (j := 12) (t := 12) (hM.cst 5 0 rfl) (by decide) fl_X5_9 dX5_priceAt_59 ?_
      refine lv_iload_n hx hb dX5_priceAt_62 rfl (lv_at hl 5 rfl) ?_
      obtain ⟨c_5, h⟩ := ko_of h
      refine c_iald C hM (hM.cst 12 12 rfl) (by rw [hM.ln 12 12 12 (by decide)]; exact c_5) dX5_priceAt_63 ?_
      refine lv_iload hx hb dX5_priceAt_64 (lv_at hl 2 rfl) ?_
      refine lv_imul hx hb dX5_priceAt_66 ?_
      refine lv_i2f hx hb dX5_priceAt_67 ?_
      refine lv_fconst2 hx hb dX5_priceAt_68 ?_
      refine lv_fload hx hb dX5_priceAt_69 (lv_at hl 0 rfl) ?_
      obtain ⟨c_6, h⟩ := ko_of h
      refine lv_fsub hx hb dX5_priceAt_71 (Classical.not_not.mp c_6) ?_
      obtain ⟨c_7, h⟩ := ko_of h
      refine lv_fmul hx hb dX5_priceAt_72 (Classical.not_not.mp c_7) ?_
      refine lv_f2i hx hb dX5_priceAt_73 ?_
      exact c_ri C hM (fun _ => rfl) hr hlk dX5_priceAt_74 h
    · have h := br_T c_3 h
      exact gc_X5_priceAt_43 C hr hlk h17  _ _ _ _ hM (lv_sub hl [] rfl) h
/-! Lorewick$Shop.paid()I -/
abbrev rc_X5_paid : Room := { frames := 4, cells := 0, slots := 0, locals := 102 }
def fc_X5_paid_4 : Nat → cS → Int32 → Int32 → Option (Int32 × cS)
  | 0, _, _, _ => none
  | n + 1, σ, x1, x2 =>
    (fc_Jx4a65c_size_8abf5 σ (some 1)).bind fun r_1 =>
    if r_1.1 ≤ x2 then
      some (x1, r_1.2)
    else
      (fc_Jx4a65c_get_915e3 r_1.2 (some 1) x2 9).bind fun r_2 =>
      if ¬ (lvq r_2.2 9 r_2.1 = true) then none else
      (dr r_2.2 9 r_2.1).bind fun i_3 =>
      (fc_X5_paid_4 n) r_2.2 (x1 + (cI r_2.2 9 i_3 2)) (x2 + (1 : Int32))
set_option maxHeartbeats 4000000 in
set_option maxRecDepth 100000 in
theorem gc_X5_paid_4 {p : Program} {l : Launch} {e : Env} {s : State} {m : MethodId} {args : Array Value} {below : List Frame} {meth : Method} {c : Code} {D : va_G} {ca : Nat → ClassId} {A : Nat → Prop} {σ0 : cS} {α : cAl} {o : Int32 × cS} (C : cC p s m args c cX5_paid 3 RX5 D ca A α) (hr : meth.sig.returnType = (some FieldType.int)) (hlk : meth.locks = false) (h17 : 0 < cn σ0 17) : ∀ (n : Nat) (σ : cS) (x1 : Int32) (x2 : Int32) (H : Heap) (locs : List Loc) (ls : Array Slot), cM D ca true A s.heap σ0 α σ α H locs → lv_has ls 3 [(0, cr α 5 (some 0)), (1, .int x1), (2, .int x2)] → fc_X5_paid_4 n σ x1 x2 = some o → W p l e rc_X5_paid s m args below meth c H locs 0 0 (MQ below (cQ false D ca true A α σ0 (fun _ => some (.int o.1)) o.2) args s 0 0 A) (F0 m 4 ls []) := by
  have hx := C.1
  have hb := C.2.1
  intro n
  induction n with
  | zero =>
    intro σ x1 x2 H locs ls hM hl h
    cases h
  | succ n ih =>
    intro σ x1 x2 H locs ls hM hl h
    rw [fc_X5_paid_4] at h
    refine lv_iload_n hx hb dX5_paid_4 rfl (lv_at hl 2 rfl) ?_
    refine c_aload_n (t := 5) (x := (some 0)) hx hb dX5_paid_5 rfl (lv_at hl 0 rfl) ?_
    refine c_getb C hM (k := 5) (f := 3) (j := 1) (t := 10) (hM.cst 5 0 rfl) (by decide) fl_X5_22 dX5_paid_6 ?_
    obtain ⟨r_1, hr_1, h⟩ := bd_of h
    refine c_go0 (c_rV (As := []) (rest := [.int x2]) C hM h17 (hM.cst 10 1 rfl) (by decide) (cc_Jx4a65c_size_8abf5 l D ca A α σ (some 1) _ hr_1) cw_X5_33 ⟨rfl, rfl⟩ ⟨Nat.le_of_ble_eq_true rfl, Nat.le_of_ble_eq_true rfl⟩ rfl rfl (cats_le _ (Nat.le_of_ble_eq_true rfl)) hl.1 dX5_paid_9 ⟨Nat.le_of_ble_eq_true rfl, Nat.le_of_ble_eq_true rfl⟩) hM (fun H locs hM => ?_)
    refine W_st (st' := [.int r_1.1, .int x2]) rfl ?_
    refine lv_icmp_ge (tgt := 38) hx hb dX5_paid_12 (by decide) (fun c_1 => ?_) (fun c_1 => ?_)
    · have h := br_T c_1 h
      refine lv_iload_n hx hb dX5_paid_38 rfl (lv_at hl 1 rfl) ?_
      exact c_ri C hM (fun _ => rfl) hr hlk dX5_paid_39 h
    · have h := br_F c_1 h
      refine lv_iload_n hx hb dX5_paid_15 rfl (lv_at hl 1 rfl) ?_
      refine c_aload_n (t := 5) (x := (some 0)) hx hb dX5_paid_16 rfl (lv_at hl 0 rfl) ?_
      refine c_getb C hM (k := 5) (f := 3) (j := 1) (t := 10) (hM.cst 5 0 rfl) (by decide) fl_X5_22 dX5_paid_17 ?_
      refine lv_iload_n hx hb dX5_paid_20 rfl (lv_at hl 2 rfl) ?_
      obtain ⟨r_2, hr_2, h⟩ := bd_of h
      refine c_go0 (c_rV (As := [.int x2]) (rest := [.int x1]) C hM h17 (hM.cst 10 1 rfl) (by decide) (cc_Jx4a65c_get_915e3 l D ca A α r_1.2 (some 1) x2 9 _ hr_2) cw_X5_37 ⟨rfl, rfl⟩ ⟨Nat.le_of_ble_eq_true rfl, Nat.le_of_ble_eq_true rfl⟩ rfl rfl (cats_le _ (Nat.le_of_ble_eq_true rfl)) hl.1 dX5_paid_21 ⟨Nat.le_of_ble_eq_true rfl, Nat.le_of_ble_eq_true rfl⟩) hM (fun H locs hM => ?_)
      refine W_st (st' := [cr α 9 r_2.1, .int x1]) rfl ?_
      obtain ⟨c_2, h⟩ := ko_of h
      refine c_castk C hM (k := 9) (Classical.not_not.mp c_2) (by decide) kl_X5_41 dX5_paid_24 ?_
      obtain ⟨i_3, hd_3, h⟩ := bd_of h
      refine c_geti C hM (k := 9) (f := 2) hd_3 rfl fl_X5_76 dX5_paid_27 ?_
      refine lv_iadd hx hb dX5_paid_30 ?_
      refine lv_istore_n (lv' := [(1, .int (x1 + (cI r_2.2 9 i_3 2))), (0, cr α 5 (some 0)), (2, .int x2)]) hx hb dX5_paid_31 rfl hl (by decide) rfl (fun ls hl => ?_)
      refine lv_iinc (v := (x2 + (1 : Int32))) (lv' := [(2, .int (x2 + (1 : Int32))), (1, .int (x1 + (cI r_2.2 9 i_3 2))), (0, cr α 5 (some 0))]) hx hb dX5_paid_32 hl (k := 2) rfl rfl (by decide) rfl (fun ls hl => ?_)
      refine lv_goto (tgt := 4) hx hb dX5_paid_35 (by decide) ?_
      exact ih _ _ _ _ _ _ hM (lv_sub hl [2, 1, 0] rfl) h
def fc_X5_paid (σ : cS) : Option (Int32 × cS) :=
  fc_X5_paid_4 3000 σ (0 : Int32) (0 : Int32)
set_option maxHeartbeats 4000000 in
set_option maxRecDepth 100000 in
theorem cc_X5_paid (l : Launch) (D : va_G) (ca : Nat → ClassId) (A : Nat → Prop) (α : cAl) (σ : cS) (o : Int32 × cS) (h : fc_X5_paid σ  = some o) : cMet false l yX5_paid cX5_paid 3 ((some FieldType.int)) rc_X5_paid 0 0 D ca true A α σ [cr α 5 (some 0)] (fun _ => some (.int o.1)) o.2 := by
  refine Met.ofW (cc := cX5_paid) (maxL := 3) (ret := (some FieldType.int)) (by decide) rfl ?_
  intro p e s m args below meth c s₁ B hml hv
  obtain ⟨rfl, hP, hK, hD0, hSh, hA, hG⟩ := hv
  have C : cC p s m _ c cX5_paid 3 RX5 D ca A α := ⟨B.exec, B.bytes, hml, findClass_of_methodNamed B.named, fun w hw => atoms_spec (ws := mWs yX5_paid cX5_paid 3 ((some FieldType.int))) B.pre w (List.mem_cons_of_mem _ hw), hK, hG⟩
  have hM : cM D ca true A s.heap σ α σ α s.heap [] := ⟨hP, hD0, hSh, va_S.rf, hA, cX.rf⟩
  have h17 : 0 < cn σ 17 := c_17 hM
  have hr := B.returns
  have hlk := B.notSynchronized
  have hx := C.1
  have hb := C.2.1
  have hl := lv_entry ([cr α 5 (some 0)]) (n := 3) (Nat.le_of_ble_eq_true rfl)
  rw [lg_entry_eq]
  generalize (lg_sl ([cr α 5 (some 0)]) ++ List.replicate (3 - (lg_sl ([cr α 5 (some 0)])).length) Slot.unset).toArray = ls at hl ⊢
  have hl : lv_has ls 3 [(0, cr α 5 (some 0))] := hl
  unfold fc_X5_paid at h
  refine lv_iconst (v := (0 : Int32)) hx hb dX5_paid_0 (by decide) ?_
  refine lv_istore_n (lv' := [(1, .int (0 : Int32)), (0, cr α 5 (some 0))]) hx hb dX5_paid_1 rfl hl (by decide) rfl (fun ls hl => ?_)
  refine lv_iconst (v := (0 : Int32)) hx hb dX5_paid_2 (by decide) ?_
  refine lv_istore_n (lv' := [(2, .int (0 : Int32)), (1, .int (0 : Int32)), (0, cr α 5 (some 0))]) hx hb dX5_paid_3 rfl hl (by decide) rfl (fun ls hl => ?_)
  exact gc_X5_paid_4 C hr hlk h17  _ _ _ _ _ _ _ hM (lv_sub hl [2, 1, 0] rfl) h
/-! Lorewick$Shop.isAnySoldTwice()Z -/
abbrev rc_X5_isAnySoldTwice : Room := { frames := 4, cells := 0, slots := 0, locals := 102 }
def fc_X5_isAnySoldTwice_82 (k_2 : cS → Int32 → Option (Int32 × cS)) (k_17 : cS → Int32 → Int32 → Option (Int32 × cS)) (σ : cS) (x1 : Int32) (x2 : Int32) : Option (Int32 × cS) :=
    k_17 σ x1 (x2 + (1 : Int32))
set_option maxHeartbeats 4000000 in
set_option maxRecDepth 100000 in
theorem gc_X5_isAnySoldTwice_82 {p : Program} {l : Launch} {e : Env} {s : State} {m : MethodId} {args : Array Value} {below : List Frame} {meth : Method} {c : Code} {D : va_G} {ca : Nat → ClassId} {A : Nat → Prop} {σ0 : cS} {α : cAl} {o : Int32 × cS} {k_2 : cS → Int32 → Option (Int32 × cS)} {k_17 : cS → Int32 → Int32 → Option (Int32 × cS)} (C : cC p s m args c cX5_isAnySoldTwice 5 RX5 D ca A α) (hr : meth.sig.returnType = (some FieldType.boolean)) (hlk : meth.locks = false) (h17 : 0 < cn σ0 17) (hk_2 : ∀ (σ : cS) (x1 : Int32) (H : Heap) (locs : List Loc) (ls : Array Slot), cM D ca true A s.heap σ0 α σ α H locs → lv_has ls 5 [(0, cr α 5 (some 0)), (1, .int x1)] → k_2 σ x1 = some o → W p l e rc_X5_isAnySoldTwice s m args below meth c H locs 0 0 (MQ below (cQ false D ca true A α σ0 (fun _ => some (.int o.1)) o.2) args s 0 0 A) (F0 m 2 ls [])) (hk_17 : ∀ (σ : cS) (x1 : Int32) (x2 : Int32) (H : Heap) (locs : List Loc) (ls : Array Slot), cM D ca true A s.heap σ0 α σ α H locs → lv_has ls 5 [(0, cr α 5 (some 0)), (1, .int x1), (2, .int x2)] → k_17 σ x1 x2 = some o → W p l e rc_X5_isAnySoldTwice s m args below meth c H locs 0 0 (MQ below (cQ false D ca true A α σ0 (fun _ => some (.int o.1)) o.2) args s 0 0 A) (F0 m 17 ls [])) : ∀ (σ : cS) (x1 : Int32) (x2 : Int32) (H : Heap) (locs : List Loc) (ls : Array Slot), cM D ca true A s.heap σ0 α σ α H locs → lv_has ls 5 [(0, cr α 5 (some 0)), (1, .int x1), (2, .int x2)] → fc_X5_isAnySoldTwice_82 k_2 k_17 σ x1 x2 = some o → W p l e rc_X5_isAnySoldTwice s m args below meth c H locs 0 0 (MQ below (cQ false D ca true A α σ0 (fun _ => some (.int o.1)) o.2) args s 0 0 A) (F0 m 82 ls []) := by
  have hx := C.1
  have hb := C.2.1
  intro σ x1 x2 H locs ls hM hl h
  unfold fc_X5_isAnySoldTwice_82 at h
  refine lv_iinc (v := (x2 + (1 : Int32))) (lv' := [(2, .int (x2 + (1 : Int32))), (0, cr α 5 (some 0)), (1, .int x1)]) hx hb dX5_isAnySoldTwice_82 hl (k := 2) rfl rfl (by decide) rfl (fun ls hl => ?_)
  refine lv_goto (tgt := 17) hx hb dX5_isAnySoldTwice_85 (by decide) ?_
  exact hk_17 _ _ _ _ _ _ hM (lv_sub hl [1, 2, 0] rfl) h
def fc_X5_isAnySoldTwice_17 (k_2 : cS → Int32 → Option (Int32 × cS)) : Nat → cS → Int32 → Int32 → Option (Int32 × cS)
  | 0, _, _, _ => none
  | n + 1, σ, x1, x2 =>
    (fc_Jx4a65c_size_8abf5 σ (some 1)).bind fun r_1 =>
    if r_1.1 ≤ x2 then
      k_2 r_1.2 (x1 + (1 : Int32))
    else
      (fc_Jx4a65c_get_915e3 r_1.2 (some 1) x1 9).bind fun r_2 =>
      if ¬ (lvq r_2.2 9 r_2.1 = true) then none else
      (fc_Jx4a65c_get_915e3 r_2.2 (some 1) x2 9).bind fun r_3 =>
      if ¬ (lvq r_3.2 9 r_3.1 = true) then none else
      (dr r_3.2 9 r_2.1).bind fun i_4 =>
      (dr r_3.2 9 r_3.1).bind fun i_5 =>
      if (cI r_3.2 9 i_4 0) = (cI r_3.2 9 i_5 0) then
        (fc_X11_areOnOnePath r_3.2 (cR r_3.2 9 i_4 1) (cR r_3.2 9 i_5 1)).bind fun r_6 =>
        if r_6.1 = 0 then
          fc_X5_isAnySoldTwice_82 k_2 (fc_X5_isAnySoldTwice_17 k_2 n) r_6.2 x1 x2
        else
          if (1 : Int32) &&& 1 = (1 : Int32) then some ((1 : Int32), r_6.2) else none
      else
        fc_X5_isAnySoldTwice_82 k_2 (fc_X5_isAnySoldTwice_17 k_2 n) r_3.2 x1 x2
set_option maxHeartbeats 4000000 in
set_option maxRecDepth 100000 in
theorem gc_X5_isAnySoldTwice_17 {p : Program} {l : Launch} {e : Env} {s : State} {m : MethodId} {args : Array Value} {below : List Frame} {meth : Method} {c : Code} {D : va_G} {ca : Nat → ClassId} {A : Nat → Prop} {σ0 : cS} {α : cAl} {o : Int32 × cS} {k_2 : cS → Int32 → Option (Int32 × cS)} (C : cC p s m args c cX5_isAnySoldTwice 5 RX5 D ca A α) (hr : meth.sig.returnType = (some FieldType.boolean)) (hlk : meth.locks = false) (h17 : 0 < cn σ0 17) (hk_2 : ∀ (σ : cS) (x1 : Int32) (H : Heap) (locs : List Loc) (ls : Array Slot), cM D ca true A s.heap σ0 α σ α H locs → lv_has ls 5 [(0, cr α 5 (some 0)), (1, .int x1)] → k_2 σ x1 = some o → W p l e rc_X5_isAnySoldTwice s m args below meth c H locs 0 0 (MQ below (cQ false D ca true A α σ0 (fun _ => some (.int o.1)) o.2) args s 0 0 A) (F0 m 2 ls [])) : ∀ (n : Nat) (σ : cS) (x1 : Int32) (x2 : Int32) (H : Heap) (locs : List Loc) (ls : Array Slot), cM D ca true A s.heap σ0 α σ α H locs → lv_has ls 5 [(0, cr α 5 (some 0)), (1, .int x1), (2, .int x2)] → fc_X5_isAnySoldTwice_17 k_2 n σ x1 x2 = some o → W p l e rc_X5_isAnySoldTwice s m args below meth c H locs 0 0 (MQ below (cQ false D ca true A α σ0 (fun _ => some (.int o.1)) o.2) args s 0 0 A) (F0 m 17 ls []) := by
  have hx := C.1
  have hb := C.2.1
  intro n
  induction n with
  | zero =>
    intro σ x1 x2 H locs ls hM hl h
    cases h
  | succ n ih =>
    intro σ x1 x2 H locs ls hM hl h
    rw [fc_X5_isAnySoldTwice_17] at h
    refine lv_iload_n hx hb dX5_isAnySoldTwice_17 rfl (lv_at hl 2 rfl) ?_
    refine c_aload_n (t := 5) (x := (some 0)) hx hb dX5_isAnySoldTwice_18 rfl (lv_at hl 0 rfl) ?_
    refine c_getb C hM (k := 5) (f := 3) (j := 1) (t := 10) (hM.cst 5 0 rfl) (by decide) fl_X5_22 dX5_isAnySoldTwice_19 ?_
    obtain ⟨r_1, hr_1, h⟩ := bd_of h
    refine c_go0 (c_rV (As := []) (rest := [.int x2]) C hM h17 (hM.cst 10 1 rfl) (by decide) (cc_Jx4a65c_size_8abf5 l D ca A α σ (some 1) _ hr_1) cw_X5_33 ⟨rfl, rfl⟩ ⟨Nat.le_of_ble_eq_true rfl, Nat.le_of_ble_eq_true rfl⟩ rfl rfl (cats_le _ (Nat.le_of_ble_eq_true rfl)) hl.1 dX5_isAnySoldTwice_22 ⟨Nat.le_of_ble_eq_true rfl, Nat.le_of_ble_eq_true rfl⟩) hM (fun H locs hM => ?_)
    refine W_st (st' := [.int r_1.1, .int x2]) rfl ?_
    refine lv_icmp_ge (tgt := 88) hx hb dX5_isAnySoldTwice_25 (by decide) (fun c_1 => ?_) (fun c_1 => ?_)
    · have h := br_T c_1 h
      refine lv_iinc (v := (x1 + (1 : Int32))) (lv' := [(1, .int (x1 + (1 : Int32))), (0, cr α 5 (some 0)), (2, .int x2)]) hx hb dX5_isAnySoldTwice_88 hl (k := 1) rfl rfl (by decide) rfl (fun ls hl => ?_)
      refine lv_goto (tgt := 2) hx hb dX5_isAnySoldTwice_91 (by decide) ?_
      exact hk_2 _ _ _ _ _ hM (lv_sub hl [1, 0] rfl) h
    · have h := br_F c_1 h
      refine c_aload_n (t := 5) (x := (some 0)) hx hb dX5_isAnySoldTwice_28 rfl (lv_at hl 0 rfl) ?_
      refine c_getb C hM (k := 5) (f := 3) (j := 1) (t := 10) (hM.cst 5 0 rfl) (by decide) fl_X5_22 dX5_isAnySoldTwice_29 ?_
      refine lv_iload_n hx hb dX5_isAnySoldTwice_32 rfl (lv_at hl 1 rfl) ?_
      obtain ⟨r_2, hr_2, h⟩ := bd_of h
      refine c_go0 (c_rV (As := [.int x1]) (rest := []) C hM h17 (hM.cst 10 1 rfl) (by decide) (cc_Jx4a65c_get_915e3 l D ca A α r_1.2 (some 1) x1 9 _ hr_2) cw_X5_37 ⟨rfl, rfl⟩ ⟨Nat.le_of_ble_eq_true rfl, Nat.le_of_ble_eq_true rfl⟩ rfl rfl (cats_le _ (Nat.le_of_ble_eq_true rfl)) hl.1 dX5_isAnySoldTwice_33 ⟨Nat.le_of_ble_eq_true rfl, Nat.le_of_ble_eq_true rfl⟩) hM (fun H locs hM => ?_)
      refine W_st (st' := [cr α 9 r_2.1]) rfl ?_
      obtain ⟨c_2, h⟩ := ko_of h
      refine c_castk C hM (k := 9) (Classical.not_not.mp c_2) (by decide) kl_X5_41 dX5_isAnySoldTwice_36 ?_
      refine c_astore_n (t := 9) (x := r_2.1) (lv' := [(3, cr α 9 r_2.1), (0, cr α 5 (some 0)), (1, .int x1), (2, .int x2)]) hx hb dX5_isAnySoldTwice_39 rfl hl (by decide) rfl (fun ls hl => ?_)
      refine c_aload_n (t := 5) (x := (some 0)) hx hb dX5_isAnySoldTwice_40 rfl (lv_at hl 1 rfl) ?_
      refine c_getb C hM (k := 5) (f := 3) (j := 1) (t := 10) (hM.cst 5 0 rfl) (by decide) fl_X5_22 dX5_isAnySoldTwice_41 ?_
      refine lv_iload_n hx hb dX5_isAnySoldTwice_44 rfl (lv_at hl 3 rfl) ?_
      obtain ⟨r_3, hr_3, h⟩ := bd_of h
      refine c_go0 (c_rV (As := [.int x2]) (rest := []) C hM h17 (hM.cst 10 1 rfl) (by decide) (cc_Jx4a65c_get_915e3 l D ca A α r_2.2 (some 1) x2 9 _ hr_3) cw_X5_37 ⟨rfl, rfl⟩ ⟨Nat.le_of_ble_eq_true rfl, Nat.le_of_ble_eq_true rfl⟩ rfl rfl (cats_le _ (Nat.le_of_ble_eq_true rfl)) hl.1 dX5_isAnySoldTwice_45 ⟨Nat.le_of_ble_eq_true rfl, Nat.le_of_ble_eq_true rfl⟩) hM (fun H locs hM => ?_)
      refine W_st (st' := [cr α 9 r_3.1]) rfl ?_
      obtain ⟨c_3, h⟩ := ko_of h
      refine c_castk C hM (k := 9) (Classical.not_not.mp c_3) (by decide) kl_X5_41 dX5_isAnySoldTwice_48 ?_
      refine c_astore (t := 9) (x := r_3.1) (lv' := [(4, cr α 9 r_3.1), (3, cr α 9 r_2.1), (0, cr α 5 (some 0)), (1, .int x1), (2, .int x2)]) hx hb dX5_isAnySoldTwice_51 hl (by decide) (by first | rfl | (simp only [List.filter, cr_cat]; rfl)) (fun ls hl => ?_)
      refine c_aload_n (t := 9) (x := r_2.1) hx hb dX5_isAnySoldTwice_53 rfl (lv_at hl 1 rfl) ?_
      obtain ⟨i_4, hd_4, h⟩ := bd_of h
      refine c_geti C hM (k := 9) (f := 0) hd_4 rfl fl_X5_43 dX5_isAnySoldTwice_54 ?_
      refine c_aload (t := 9) (x := r_3.1) hx hb dX5_isAnySoldTwice_57 (lv_at hl 0 rfl) ?_
      obtain ⟨i_5, hd_5, h⟩ := bd_of h
      refine c_geti C hM (k := 9) (f := 0) hd_5 rfl fl_X5_43 dX5_isAnySoldTwice_59 ?_
      refine lv_icmp_ne (tgt := 82) hx hb dX5_isAnySoldTwice_62 (by decide) (fun c_4 => ?_) (fun c_4 => ?_)
      · have h := br_F c_4 h
        exact gc_X5_isAnySoldTwice_82 C hr hlk h17 hk_2 ih _ _ _ _ _ _ hM (lv_sub hl [2, 3, 4] rfl) h
      · have h := br_T c_4 h
        refine c_aload_n (t := 9) (x := r_2.1) hx hb dX5_isAnySoldTwice_65 rfl (lv_at hl 1 rfl) ?_
        refine c_getrt C hM (k := 9) (f := 1) (t := 7) hd_4 (by decide) fl_X5_46 dX5_isAnySoldTwice_66 ?_
        refine c_aload (t := 9) (x := r_3.1) hx hb dX5_isAnySoldTwice_69 (lv_at hl 0 rfl) ?_
        refine c_getrt C hM (k := 9) (f := 1) (t := 7) hd_5 (by decide) fl_X5_46 dX5_isAnySoldTwice_71 ?_
        obtain ⟨r_6, hr_6, h⟩ := bd_of h
        refine c_go0 (c_rSN (As := [cr α 7 (cR r_3.2 9 i_4 1), cr α 7 (cR r_3.2 9 i_5 1)]) (rest := []) C hM h17 (cc_X11_areOnOnePath l D ca A α r_3.2 (cR r_3.2 9 i_4 1) (cR r_3.2 9 i_5 1) _ hr_6) cw_X5_50 (wl_in (i := 506) (by decide +kernel)) ⟨rfl, rfl⟩ ⟨Nat.le_of_ble_eq_true rfl, Nat.le_of_ble_eq_true rfl⟩ rfl rfl (cats_le _ (Nat.le_of_ble_eq_true rfl)) hl.1 dX5_isAnySoldTwice_74 ⟨Nat.le_of_ble_eq_true rfl, Nat.le_of_ble_eq_true rfl⟩) hM (fun H locs hM => ?_)
        refine W_st (st' := [.int r_6.1]) rfl ?_
        refine lv_if_eq (tgt := 82) hx hb dX5_isAnySoldTwice_77 (by decide) (fun c_5 => ?_) (fun c_5 => ?_)
        · have h := br_T c_5 h
          exact gc_X5_isAnySoldTwice_82 C hr hlk h17 hk_2 ih _ _ _ _ _ _ hM (lv_sub hl [2, 3, 4] rfl) h
        · have h := br_F c_5 h
          refine lv_iconst (v := (1 : Int32)) hx hb dX5_isAnySoldTwice_80 (by decide) ?_
          exact c_rz C hM (fun _ => rfl) hr hlk dX5_isAnySoldTwice_81 h
def fc_X5_isAnySoldTwice_2 : Nat → cS → Int32 → Option (Int32 × cS)
  | 0, _, _ => none
  | n + 1, σ, x1 =>
    (fc_Jx4a65c_size_8abf5 σ (some 1)).bind fun r_1 =>
    if r_1.1 ≤ x1 then
      if (0 : Int32) &&& 1 = (0 : Int32) then some ((0 : Int32), r_1.2) else none
    else
      fc_X5_isAnySoldTwice_17 (fc_X5_isAnySoldTwice_2 n) 3000 r_1.2 x1 (x1 + (1 : Int32))
set_option maxHeartbeats 4000000 in
set_option maxRecDepth 100000 in
theorem gc_X5_isAnySoldTwice_2 {p : Program} {l : Launch} {e : Env} {s : State} {m : MethodId} {args : Array Value} {below : List Frame} {meth : Method} {c : Code} {D : va_G} {ca : Nat → ClassId} {A : Nat → Prop} {σ0 : cS} {α : cAl} {o : Int32 × cS} (C : cC p s m args c cX5_isAnySoldTwice 5 RX5 D ca A α) (hr : meth.sig.returnType = (some FieldType.boolean)) (hlk : meth.locks = false) (h17 : 0 < cn σ0 17) : ∀ (n : Nat) (σ : cS) (x1 : Int32) (H : Heap) (locs : List Loc) (ls : Array Slot), cM D ca true A s.heap σ0 α σ α H locs → lv_has ls 5 [(0, cr α 5 (some 0)), (1, .int x1)] → fc_X5_isAnySoldTwice_2 n σ x1 = some o → W p l e rc_X5_isAnySoldTwice s m args below meth c H locs 0 0 (MQ below (cQ false D ca true A α σ0 (fun _ => some (.int o.1)) o.2) args s 0 0 A) (F0 m 2 ls []) := by
  have hx := C.1
  have hb := C.2.1
  intro n
  induction n with
  | zero =>
    intro σ x1 H locs ls hM hl h
    cases h
  | succ n ih =>
    intro σ x1 H locs ls hM hl h
    rw [fc_X5_isAnySoldTwice_2] at h
    refine lv_iload_n hx hb dX5_isAnySoldTwice_2 rfl (lv_at hl 1 rfl) ?_
    refine c_aload_n (t := 5) (x := (some 0)) hx hb dX5_isAnySoldTwice_3 rfl (lv_at hl 0 rfl) ?_
    refine c_getb C hM (k := 5) (f := 3) (j := 1) (t := 10) (hM.cst 5 0 rfl) (by decide) fl_X5_22 dX5_isAnySoldTwice_4 ?_
    obtain ⟨r_1, hr_1, h⟩ := bd_of h
    refine c_go0 (c_rV (As := []) (rest := [.int x1]) C hM h17 (hM.cst 10 1 rfl) (by decide) (cc_Jx4a65c_size_8abf5 l D ca A α σ (some 1) _ hr_1) cw_X5_33 ⟨rfl, rfl⟩ ⟨Nat.le_of_ble_eq_true rfl, Nat.le_of_ble_eq_true rfl⟩ rfl rfl (cats_le _ (Nat.le_of_ble_eq_true rfl)) hl.1 dX5_isAnySoldTwice_7 ⟨Nat.le_of_ble_eq_true rfl, Nat.le_of_ble_eq_true rfl⟩) hM (fun H locs hM => ?_)
    refine W_st (st' := [.int r_1.1, .int x1]) rfl ?_
    refine lv_icmp_ge (tgt := 94) hx hb dX5_isAnySoldTwice_10 (by decide) (fun c_1 => ?_) (fun c_1 => ?_)
    · have h := br_T c_1 h
      refine lv_iconst (v := (0 : Int32)) hx hb dX5_isAnySoldTwice_94 (by decide) ?_
      exact c_rz C hM (fun _ => rfl) hr hlk dX5_isAnySoldTwice_95 h
    · have h := br_F c_1 h
      refine lv_iload_n hx hb dX5_isAnySoldTwice_13 rfl (lv_at hl 1 rfl) ?_
      refine lv_iconst (v := (1 : Int32)) hx hb dX5_isAnySoldTwice_14 (by decide) ?_
      refine lv_iadd hx hb dX5_isAnySoldTwice_15 ?_
      refine lv_istore_n (lv' := [(2, .int (x1 + (1 : Int32))), (0, cr α 5 (some 0)), (1, .int x1)]) hx hb dX5_isAnySoldTwice_16 rfl hl (by decide) rfl (fun ls hl => ?_)
      exact gc_X5_isAnySoldTwice_17 C hr hlk h17 ih _ _ _ _ _ _ _ hM (lv_sub hl [1, 2, 0] rfl) h
def fc_X5_isAnySoldTwice (σ : cS) : Option (Int32 × cS) :=
  fc_X5_isAnySoldTwice_2 3000 σ (0 : Int32)
set_option maxHeartbeats 4000000 in
set_option maxRecDepth 100000 in
theorem cc_X5_isAnySoldTwice (l : Launch) (D : va_G) (ca : Nat → ClassId) (A : Nat → Prop) (α : cAl) (σ : cS) (o : Int32 × cS) (h : fc_X5_isAnySoldTwice σ  = some o) : cMet false l yX5_isAnySoldTwice cX5_isAnySoldTwice 5 ((some FieldType.boolean)) rc_X5_isAnySoldTwice 0 0 D ca true A α σ [cr α 5 (some 0)] (fun _ => some (.int o.1)) o.2 := by
  refine Met.ofW (cc := cX5_isAnySoldTwice) (maxL := 5) (ret := (some FieldType.boolean)) (by decide) rfl ?_
  intro p e s m args below meth c s₁ B hml hv
  obtain ⟨rfl, hP, hK, hD0, hSh, hA, hG⟩ := hv
  have C : cC p s m _ c cX5_isAnySoldTwice 5 RX5 D ca A α := ⟨B.exec, B.bytes, hml, findClass_of_methodNamed B.named, fun w hw => atoms_spec (ws := mWs yX5_isAnySoldTwice cX5_isAnySoldTwice 5 ((some FieldType.boolean))) B.pre w (List.mem_cons_of_mem _ hw), hK, hG⟩
  have hM : cM D ca true A s.heap σ α σ α s.heap [] := ⟨hP, hD0, hSh, va_S.rf, hA, cX.rf⟩
  have h17 : 0 < cn σ 17 := c_17 hM
  have hr := B.returns
  have hlk := B.notSynchronized
  have hx := C.1
  have hb := C.2.1
  have hl := lv_entry ([cr α 5 (some 0)]) (n := 5) (Nat.le_of_ble_eq_true rfl)
  rw [lg_entry_eq]
  generalize (lg_sl ([cr α 5 (some 0)]) ++ List.replicate (5 - (lg_sl ([cr α 5 (some 0)])).length) Slot.unset).toArray = ls at hl ⊢
  have hl : lv_has ls 5 [(0, cr α 5 (some 0))] := hl
  unfold fc_X5_isAnySoldTwice at h
  refine lv_iconst (v := (0 : Int32)) hx hb dX5_isAnySoldTwice_0 (by decide) ?_
  refine lv_istore_n (lv' := [(1, .int (0 : Int32)), (0, cr α 5 (some 0))]) hx hb dX5_isAnySoldTwice_1 rfl hl (by decide) rfl (fun ls hl => ?_)
  exact gc_X5_isAnySoldTwice_2 C hr hlk h17  _ _ _ _ _ _ hM (lv_sub hl [1, 0] rfl) h
/-! Lorewick$State.isLike(LLorewick$State;)Z -/
abbrev rc_X6_isLike : Room := { frames := 0, cells := 0, slots := 0, locals := 0 }
def fc_X6_isLike_53 (σ : cS) : Option (Int32 × cS) :=
    if (0 : Int32) &&& 1 = (0 : Int32) then some ((0 : Int32), σ) else none
set_option maxHeartbeats 4000000 in
set_option maxRecDepth 100000 in
theorem gc_X6_isLike_53 {p : Program} {l : Launch} {e : Env} {s : State} {m : MethodId} {args : Array Value} {below : List Frame} {meth : Method} {c : Code} {D : va_G} {ca : Nat → ClassId} {A : Nat → Prop} {σ0 : cS} {α : cAl} {o : Int32 × cS} (C : cC p s m args c cX6_isLike 3 RX6 D ca A α) (hr : meth.sig.returnType = (some FieldType.boolean)) (hlk : meth.locks = false) (h17 : 0 < cn σ0 17) : ∀ (σ : cS) (H : Heap) (locs : List Loc) (ls : Array Slot), cM D ca true A s.heap σ0 α σ α H locs → lv_has ls 3 [] → fc_X6_isLike_53 σ = some o → W p l e rc_X6_isLike s m args below meth c H locs 0 0 (MQ below (cQ false D ca true A α σ0 (fun _ => some (.int o.1)) o.2) args s 0 0 A) (F0 m 53 ls []) := by
  have hx := C.1
  have hb := C.2.1
  intro σ H locs ls hM hl h
  unfold fc_X6_isLike_53 at h
  refine lv_iconst (v := (0 : Int32)) hx hb dX6_isLike_53 (by decide) ?_
  exact c_rz C hM (fun _ => rfl) hr hlk dX6_isLike_54 h
def fc_X6_isLike_77 (σ : cS) (s0 : Int32) : Option (Int32 × cS) :=
    if s0 &&& 1 = s0 then some (s0, σ) else none
set_option maxHeartbeats 4000000 in
set_option maxRecDepth 100000 in
theorem gc_X6_isLike_77 {p : Program} {l : Launch} {e : Env} {s : State} {m : MethodId} {args : Array Value} {below : List Frame} {meth : Method} {c : Code} {D : va_G} {ca : Nat → ClassId} {A : Nat → Prop} {σ0 : cS} {α : cAl} {o : Int32 × cS} (C : cC p s m args c cX6_isLike 3 RX6 D ca A α) (hr : meth.sig.returnType = (some FieldType.boolean)) (hlk : meth.locks = false) (h17 : 0 < cn σ0 17) : ∀ (σ : cS) (s0 : Int32) (H : Heap) (locs : List Loc) (ls : Array Slot), cM D ca true A s.heap σ0 α σ α H locs → lv_has ls 3 [] → fc_X6_isLike_77 σ s0 = some o → W p l e rc_X6_isLike s m args below meth c H locs 0 0 (MQ below (cQ false D ca true A α σ0 (fun _ => some (.int o.1)) o.2) args s 0 0 A) (F0 m 77 ls [.int s0]) := by
  have hx := C.1
  have hb := C.2.1
  intro σ s0 H locs ls hM hl h
  unfold fc_X6_isLike_77 at h
  exact c_rz C hM (fun _ => rfl) hr hlk dX6_isLike_77 h
def fc_X6_isLike_2 : Nat → cS → Option Nat → Option Nat → Int32 → Option (Int32 × cS)
  | 0, _, _, _, _ => none
  | n + 1, σ, x0, x1, x2 =>
    if (12 : Int32) ≤ x2 then
      (dr σ 6 x0).bind fun i_1 =>
      (dr σ 6 x1).bind fun i_2 =>
      if (cI σ 6 i_1 0) = (cI σ 6 i_2 0) then
        fc_X6_isLike_77 σ (1 : Int32)
      else
        fc_X6_isLike_77 σ (0 : Int32)
    else
      (dr σ 6 x0).bind fun i_3 =>
      (dr σ 12 (cR σ 6 i_3 1)).bind fun i_4 =>
      if x2 < 0 ∨ cln σ 12 i_4 ≤ x2.toNatClampNeg then none else
      (dr σ 6 x1).bind fun i_5 =>
      (dr σ 12 (cR σ 6 i_5 1)).bind fun i_6 =>
      if x2 < 0 ∨ cln σ 12 i_6 ≤ x2.toNatClampNeg then none else
      if (cI σ 12 i_4 x2.toNatClampNeg) = (cI σ 12 i_6 x2.toNatClampNeg) then
        (dr σ 12 (cR σ 6 i_3 2)).bind fun i_7 =>
        if x2 < 0 ∨ cln σ 12 i_7 ≤ x2.toNatClampNeg then none else
        (dr σ 12 (cR σ 6 i_5 2)).bind fun i_8 =>
        if x2 < 0 ∨ cln σ 12 i_8 ≤ x2.toNatClampNeg then none else
        if (cI σ 12 i_7 x2.toNatClampNeg) = (cI σ 12 i_8 x2.toNatClampNeg) then
          (dr σ 13 (cR σ 6 i_3 3)).bind fun i_9 =>
          if x2 < 0 ∨ cln σ 13 i_9 ≤ x2.toNatClampNeg then none else
          (dr σ 13 (cR σ 6 i_5 3)).bind fun i_10 =>
          if x2 < 0 ∨ cln σ 13 i_10 ≤ x2.toNatClampNeg then none else
          if (cI σ 13 i_9 x2.toNatClampNeg) = (cI σ 13 i_10 x2.toNatClampNeg) then
            (fc_X6_isLike_2 n) σ x0 x1 (x2 + (1 : Int32))
          else
            fc_X6_isLike_53 σ
        else
          fc_X6_isLike_53 σ
      else
        fc_X6_isLike_53 σ
set_option maxHeartbeats 4000000 in
set_option maxRecDepth 100000 in
theorem gc_X6_isLike_2 {p : Program} {l : Launch} {e : Env} {s : State} {m : MethodId} {args : Array Value} {below : List Frame} {meth : Method} {c : Code} {D : va_G} {ca : Nat → ClassId} {A : Nat → Prop} {σ0 : cS} {α : cAl} {o : Int32 × cS} (C : cC p s m args c cX6_isLike 3 RX6 D ca A α) (hr : meth.sig.returnType = (some FieldType.boolean)) (hlk : meth.locks = false) (h17 : 0 < cn σ0 17) : ∀ (n : Nat) (σ : cS) (x0 : Option Nat) (x1 : Option Nat) (x2 : Int32) (H : Heap) (locs : List Loc) (ls : Array Slot), cM D ca true A s.heap σ0 α σ α H locs → lv_has ls 3 [(0, cr α 6 x0), (1, cr α 6 x1), (2, .int x2)] → fc_X6_isLike_2 n σ x0 x1 x2 = some o → W p l e rc_X6_isLike s m args below meth c H locs 0 0 (MQ below (cQ false D ca true A α σ0 (fun _ => some (.int o.1)) o.2) args s 0 0 A) (F0 m 2 ls []) := by
  have hx := C.1
  have hb := C.2.1
  intro n
  induction n with
  | zero =>
    intro σ x0 x1 x2 H locs ls hM hl h
    cases h
  | succ n ih =>
    intro σ x0 x1 x2 H locs ls hM hl h
    rw [fc_X6_isLike_2] at h
    refine lv_iload_n hx hb dX6_isLike_2 rfl (lv_at hl 2 rfl) ?_
    refine lv_bipush (v := (12 : Int32)) hx hb dX6_isLike_3 (by decide) ?_
    refine lv_icmp_ge (tgt := 61) hx hb dX6_isLike_5 (by decide) (fun c_1 => ?_) (fun c_1 => ?_)
    · have h := br_T c_1 h
      refine c_aload_n (t := 6) (x := x0) hx hb dX6_isLike_61 rfl (lv_at hl 0 rfl) ?_
      obtain ⟨i_1, hd_1, h⟩ := bd_of h
      refine c_geti C hM (k := 6) (f := 0) hd_1 rfl fl_X6_22 dX6_isLike_62 ?_
      refine c_aload_n (t := 6) (x := x1) hx hb dX6_isLike_65 rfl (lv_at hl 1 rfl) ?_
      obtain ⟨i_2, hd_2, h⟩ := bd_of h
      refine c_geti C hM (k := 6) (f := 0) hd_2 rfl fl_X6_22 dX6_isLike_66 ?_
      refine lv_icmp_ne (tgt := 76) hx hb dX6_isLike_69 (by decide) (fun c_2 => ?_) (fun c_2 => ?_)
      · have h := br_F c_2 h
        refine lv_iconst (v := (0 : Int32)) hx hb dX6_isLike_76 (by decide) ?_
        exact gc_X6_isLike_77 C hr hlk h17  _ _ _ _ _ hM (lv_sub hl [] rfl) h
      · have h := br_T c_2 h
        refine lv_iconst (v := (1 : Int32)) hx hb dX6_isLike_72 (by decide) ?_
        refine lv_goto (tgt := 77) hx hb dX6_isLike_73 (by decide) ?_
        exact gc_X6_isLike_77 C hr hlk h17  _ _ _ _ _ hM (lv_sub hl [] rfl) h
    · have h := br_F c_1 h
      refine c_aload_n (t := 6) (x := x0) hx hb dX6_isLike_8 rfl (lv_at hl 0 rfl) ?_
      obtain ⟨i_3, hd_3, h⟩ := bd_of h
      refine c_getrt C hM (k := 6) (f := 1) (t := 12) hd_3 (by decide) fl_X6_9 dX6_isLike_9 ?_
      refine lv_iload_n hx hb dX6_isLike_12 rfl (lv_at hl 2 rfl) ?_
      obtain ⟨i_4, hd_4, h⟩ := bd_of h
      obtain ⟨c_3, h⟩ := ko_of h
      refine c_iald C hM hd_4 c_3 dX6_isLike_13 ?_
      refine c_aload_n (t := 6) (x := x1) hx hb dX6_isLike_14 rfl (lv_at hl 1 rfl) ?_
      obtain ⟨i_5, hd_5, h⟩ := bd_of h
      refine c_getrt C hM (k := 6) (f := 1) (t := 12) hd_5 (by decide) fl_X6_9 dX6_isLike_15 ?_
      refine lv_iload_n hx hb dX6_isLike_18 rfl (lv_at hl 2 rfl) ?_
      obtain ⟨i_6, hd_6, h⟩ := bd_of h
      obtain ⟨c_4, h⟩ := ko_of h
      refine c_iald C hM hd_6 c_4 dX6_isLike_19 ?_
      refine lv_icmp_ne (tgt := 53) hx hb dX6_isLike_20 (by decide) (fun c_5 => ?_) (fun c_5 => ?_)
      · have h := br_F c_5 h
        exact gc_X6_isLike_53 C hr hlk h17  _ _ _ _ hM (lv_sub hl [] rfl) h
      · have h := br_T c_5 h
        refine c_aload_n (t := 6) (x := x0) hx hb dX6_isLike_23 rfl (lv_at hl 0 rfl) ?_
        refine c_getrt C hM (k := 6) (f := 2) (t := 12) hd_3 (by decide) fl_X6_15 dX6_isLike_24 ?_
        refine lv_iload_n hx hb dX6_isLike_27 rfl (lv_at hl 2 rfl) ?_
        obtain ⟨i_7, hd_7, h⟩ := bd_of h
        obtain ⟨c_6, h⟩ := ko_of h
        refine c_iald C hM hd_7 c_6 dX6_isLike_28 ?_
        refine c_aload_n (t := 6) (x := x1) hx hb dX6_isLike_29 rfl (lv_at hl 1 rfl) ?_
        refine c_getrt C hM (k := 6) (f := 2) (t := 12) hd_5 (by decide) fl_X6_15 dX6_isLike_30 ?_
        refine lv_iload_n hx hb dX6_isLike_33 rfl (lv_at hl 2 rfl) ?_
        obtain ⟨i_8, hd_8, h⟩ := bd_of h
        obtain ⟨c_7, h⟩ := ko_of h
        refine c_iald C hM hd_8 c_7 dX6_isLike_34 ?_
        refine lv_icmp_ne (tgt := 53) hx hb dX6_isLike_35 (by decide) (fun c_8 => ?_) (fun c_8 => ?_)
        · have h := br_F c_8 h
          exact gc_X6_isLike_53 C hr hlk h17  _ _ _ _ hM (lv_sub hl [] rfl) h
        · have h := br_T c_8 h
          refine c_aload_n (t := 6) (x := x0) hx hb dX6_isLike_38 rfl (lv_at hl 0 rfl) ?_
          refine c_getrt C hM (k := 6) (f := 3) (t := 13) hd_3 (by decide) fl_X6_18 dX6_isLike_39 ?_
          refine lv_iload_n hx hb dX6_isLike_42 rfl (lv_at hl 2 rfl) ?_
          obtain ⟨i_9, hd_9, h⟩ := bd_of h
          obtain ⟨c_9, h⟩ := ko_of h
          refine c_zald C hM hd_9 c_9 dX6_isLike_43 ?_
          refine c_aload_n (t := 6) (x := x1) hx hb dX6_isLike_44 rfl (lv_at hl 1 rfl) ?_
          refine c_getrt C hM (k := 6) (f := 3) (t := 13) hd_5 (by decide) fl_X6_18 dX6_isLike_45 ?_
          refine lv_iload_n hx hb dX6_isLike_48 rfl (lv_at hl 2 rfl) ?_
          obtain ⟨i_10, hd_10, h⟩ := bd_of h
          obtain ⟨c_10, h⟩ := ko_of h
          refine c_zald C hM hd_10 c_10 dX6_isLike_49 ?_
          refine lv_icmp_eq (tgt := 55) hx hb dX6_isLike_50 (by decide) (fun c_11 => ?_) (fun c_11 => ?_)
          · have h := br_T c_11 h
            refine lv_iinc (v := (x2 + (1 : Int32))) (lv' := [(2, .int (x2 + (1 : Int32))), (0, cr α 6 x0), (1, cr α 6 x1)]) hx hb dX6_isLike_55 hl (k := 2) rfl rfl (by decide) (by first | rfl | (simp only [List.filter, cr_cat]; rfl)) (fun ls hl => ?_)
            refine lv_goto (tgt := 2) hx hb dX6_isLike_58 (by decide) ?_
            exact ih _ _ _ _ _ _ _ hM (lv_sub hl [1, 2, 0] rfl) h
          · have h := br_F c_11 h
            exact gc_X6_isLike_53 C hr hlk h17  _ _ _ _ hM (lv_sub hl [] rfl) h
def fc_X6_isLike (σ : cS) (x0 : Option Nat) (x1 : Option Nat) : Option (Int32 × cS) :=
  fc_X6_isLike_2 3000 σ x0 x1 (0 : Int32)
set_option maxHeartbeats 4000000 in
set_option maxRecDepth 100000 in
theorem cc_X6_isLike (l : Launch) (D : va_G) (ca : Nat → ClassId) (A : Nat → Prop) (α : cAl) (σ : cS) (x0 : Option Nat) (x1 : Option Nat) (o : Int32 × cS) (h : fc_X6_isLike σ x0 x1 = some o) : cMet false l yX6_isLike cX6_isLike 3 ((some FieldType.boolean)) rc_X6_isLike 0 0 D ca true A α σ [cr α 6 x0, cr α 6 x1] (fun _ => some (.int o.1)) o.2 := by
  refine Met.ofW (cc := cX6_isLike) (maxL := 3) (ret := (some FieldType.boolean)) (by decide) rfl ?_
  intro p e s m args below meth c s₁ B hml hv
  obtain ⟨rfl, hP, hK, hD0, hSh, hA, hG⟩ := hv
  have C : cC p s m _ c cX6_isLike 3 RX6 D ca A α := ⟨B.exec, B.bytes, hml, findClass_of_methodNamed B.named, fun w hw => atoms_spec (ws := mWs yX6_isLike cX6_isLike 3 ((some FieldType.boolean))) B.pre w (List.mem_cons_of_mem _ hw), hK, hG⟩
  have hM : cM D ca true A s.heap σ α σ α s.heap [] := ⟨hP, hD0, hSh, va_S.rf, hA, cX.rf⟩
  have h17 : 0 < cn σ 17 := c_17 hM
  have hr := B.returns
  have hlk := B.notSynchronized
  have hx := C.1
  have hb := C.2.1
  have hl := lv_entry ([cr α 6 x0, cr α 6 x1]) (n := 3) (by simp [lg_r, lg_i, lg_l, lg_n])
  rw [lg_entry_eq]
  generalize (lg_sl ([cr α 6 x0, cr α 6 x1]) ++ List.replicate (3 - (lg_sl ([cr α 6 x0, cr α 6 x1])).length) Slot.unset).toArray = ls at hl ⊢
  have hl : lv_has ls 3 [(0, cr α 6 x0), (1, cr α 6 x1)] := (lv_to hl (by simp only [la_r, la_i, la_l, la_n]))
  unfold fc_X6_isLike at h
  refine lv_iconst (v := (0 : Int32)) hx hb dX6_isLike_0 (by decide) ?_
  refine lv_istore_n (lv' := [(2, .int (0 : Int32)), (0, cr α 6 x0), (1, cr α 6 x1)]) hx hb dX6_isLike_1 rfl hl (by decide) (by first | rfl | (simp only [List.filter, cr_cat]; rfl)) (fun ls hl => ?_)
  exact gc_X6_isLike_2 C hr hlk h17  _ _ _ _ _ _ _ _ hM (lv_sub hl [1, 2, 0] rfl) h
/-! Lorewick$Text.add(C)V -/
abbrev rc_X7_add : Room := { frames := 0, cells := 0, slots := 0, locals := 0 }
def fc_X7_add_29 (σ : cS) : Option (cS) :=
    some σ
set_option maxHeartbeats 4000000 in
set_option maxRecDepth 100000 in
theorem gc_X7_add_29 {p : Program} {l : Launch} {e : Env} {s : State} {m : MethodId} {args : Array Value} {below : List Frame} {meth : Method} {c : Code} {D : va_G} {ca : Nat → ClassId} {A : Nat → Prop} {σ0 : cS} {α : cAl} {o : cS} (C : cC p s m args c cX7_add 2 RX7 D ca A α) (hr : meth.sig.returnType = (none : Option FieldType)) (hlk : meth.locks = false) (h17 : 0 < cn σ0 17) : ∀ (σ : cS) (H : Heap) (locs : List Loc) (ls : Array Slot), cM D ca true A s.heap σ0 α σ α H locs → lv_has ls 2 [] → fc_X7_add_29 σ = some o → W p l e rc_X7_add s m args below meth c H locs 0 0 (MQ below (cQ false D ca true A α σ0 (fun _ => none) o) args s 0 0 A) (F0 m 29 ls []) := by
  have hx := C.1
  have hb := C.2.1
  intro σ H locs ls hM hl h
  unfold fc_X7_add_29 at h
  exact c_rv C hM (fun _ => rfl) hr hlk dX7_add_29 h
def fc_X7_add (σ : cS) (x1 : Int32) : Option (cS) :=
  if (30 : Int32) ≤ (cI σ 1 0 3) then
    fc_X7_add_29 σ
  else
    if (cI σ 1 0 3) < 0 ∨ 30 ≤ (cI σ 1 0 3).toNatClampNeg then none else
    fc_X7_add_29 (uI (uI σ 14 0 (cI σ 1 0 3).toNatClampNeg x1.toUInt32.toUInt16.toUInt32.toInt32) 1 0 3 ((cI (uI σ 14 0 (cI σ 1 0 3).toNatClampNeg x1.toUInt32.toUInt16.toUInt32.toInt32) 1 0 3) + (1 : Int32)))
set_option maxHeartbeats 4000000 in
set_option maxRecDepth 100000 in
theorem cc_X7_add (l : Launch) (D : va_G) (ca : Nat → ClassId) (A : Nat → Prop) (α : cAl) (σ : cS) (x1 : Int32) (o : cS) (h : fc_X7_add σ x1 = some o) : cMet false l yX7_add cX7_add 2 ((none : Option FieldType)) rc_X7_add 0 0 D ca true A α σ [cr α 1 (some 0), .int x1] (fun _ => none) o := by
  refine Met.ofW (cc := cX7_add) (maxL := 2) (ret := (none : Option FieldType)) (by decide) rfl ?_
  intro p e s m args below meth c s₁ B hml hv
  obtain ⟨rfl, hP, hK, hD0, hSh, hA, hG⟩ := hv
  have C : cC p s m _ c cX7_add 2 RX7 D ca A α := ⟨B.exec, B.bytes, hml, findClass_of_methodNamed B.named, fun w hw => atoms_spec (ws := mWs yX7_add cX7_add 2 ((none : Option FieldType))) B.pre w (List.mem_cons_of_mem _ hw), hK, hG⟩
  have hM : cM D ca true A s.heap σ α σ α s.heap [] := ⟨hP, hD0, hSh, va_S.rf, hA, cX.rf⟩
  have h17 : 0 < cn σ 17 := c_17 hM
  have hr := B.returns
  have hlk := B.notSynchronized
  have hx := C.1
  have hb := C.2.1
  have hl := lv_entry ([cr α 1 (some 0), .int x1]) (n := 2) (Nat.le_of_ble_eq_true rfl)
  rw [lg_entry_eq]
  generalize (lg_sl ([cr α 1 (some 0), .int x1]) ++ List.replicate (2 - (lg_sl ([cr α 1 (some 0), .int x1])).length) Slot.unset).toArray = ls at hl ⊢
  have hl : lv_has ls 2 [(0, cr α 1 (some 0)), (1, .int x1)] := hl
  unfold fc_X7_add at h
  refine c_aload_n (t := 1) (x := (some 0)) hx hb dX7_add_0 rfl (lv_at hl 0 rfl) ?_
  refine c_geti C hM (k := 1) (f := 3) (hM.cst 1 0 rfl) rfl fl_X7_22 dX7_add_1 ?_
  refine lv_bipush (v := (30 : Int32)) hx hb dX7_add_4 (by decide) ?_
  refine lv_icmp_ge (tgt := 29) hx hb dX7_add_6 (by decide) (fun c_1 => ?_) (fun c_1 => ?_)
  · have h := br_T c_1 h
    exact gc_X7_add_29 C hr hlk h17  _ _ _ _ hM (lv_sub hl [] rfl) h
  · have h := br_F c_1 h
    refine c_aload_n (t := 1) (x := (some 0)) hx hb dX7_add_9 rfl (lv_at hl 0 rfl) ?_
    refine c_getb C hM (k := 1) (f := 0) (j := 0) (t := 14) (hM.cst 1 0 rfl) (by decide) fl_X7_9 dX7_add_10 ?_
    refine c_aload_n (t := 1) (x := (some 0)) hx hb dX7_add_13 rfl (lv_at hl 0 rfl) ?_
    refine c_geti C hM (k := 1) (f := 3) (hM.cst 1 0 rfl) rfl fl_X7_22 dX7_add_14 ?_
    refine lv_iload_n hx hb dX7_add_17 rfl (lv_at hl 1 rfl) ?_
    obtain ⟨c_2, h⟩ := ko_of h
    refine c_cast C hM (hM.cst 14 0 rfl) (by rw [hM.ln 14 0 30 (by decide)]; exact c_2) dX7_add_18 (fun H locs hM => ?_)
    refine c_aload_n (t := 1) (x := (some 0)) hx hb dX7_add_19 rfl (lv_at hl 0 rfl) ?_
    refine lv_dup hx hb dX7_add_20 cr_cat ?_
    refine c_geti C hM (k := 1) (f := 3) (hM.cst 1 0 rfl) rfl fl_X7_22 dX7_add_21 ?_
    refine lv_iconst (v := (1 : Int32)) hx hb dX7_add_24 (by decide) ?_
    refine lv_iadd hx hb dX7_add_25 ?_
    refine c_puti C hM (k := 1) (f := 3) (hM.cst 1 0 rfl) rfl fl_X7_22 (Or.inl rfl) dX7_add_26 (fun H locs hM => ?_)
    exact gc_X7_add_29 C hr hlk h17  _ _ _ _ hM (lv_sub hl [] rfl) h
/-! Lorewick$Text.divide()I -/
abbrev rc_X7_divide : Room := { frames := 0, cells := 0, slots := 0, locals := 0 }
def fc_X7_divide_69 (k_6 : cS → Int32 → Int32 → Int32 → Option (Int32 × cS)) (σ : cS) (x1 : Int32) (x2 : Int32) (x3 : Int32) : Option (Int32 × cS) :=
    k_6 σ x1 x2 (x3 + (1 : Int32))
set_option maxHeartbeats 4000000 in
set_option maxRecDepth 100000 in
theorem gc_X7_divide_69 {p : Program} {l : Launch} {e : Env} {s : State} {m : MethodId} {args : Array Value} {below : List Frame} {meth : Method} {c : Code} {D : va_G} {ca : Nat → ClassId} {A : Nat → Prop} {σ0 : cS} {α : cAl} {o : Int32 × cS} {k_6 : cS → Int32 → Int32 → Int32 → Option (Int32 × cS)} (C : cC p s m args c cX7_divide 4 RX7 D ca A α) (hr : meth.sig.returnType = (some FieldType.int)) (hlk : meth.locks = false) (h17 : 0 < cn σ0 17) (hk_6 : ∀ (σ : cS) (x1 : Int32) (x2 : Int32) (x3 : Int32) (H : Heap) (locs : List Loc) (ls : Array Slot), cM D ca true A s.heap σ0 α σ α H locs → lv_has ls 4 [(0, cr α 1 (some 0)), (1, .int x1), (2, .int x2), (3, .int x3)] → k_6 σ x1 x2 x3 = some o → W p l e rc_X7_divide s m args below meth c H locs 0 0 (MQ below (cQ false D ca true A α σ0 (fun _ => some (.int o.1)) o.2) args s 0 0 A) (F0 m 6 ls [])) : ∀ (σ : cS) (x1 : Int32) (x2 : Int32) (x3 : Int32) (H : Heap) (locs : List Loc) (ls : Array Slot), cM D ca true A s.heap σ0 α σ α H locs → lv_has ls 4 [(0, cr α 1 (some 0)), (1, .int x1), (2, .int x2), (3, .int x3)] → fc_X7_divide_69 k_6 σ x1 x2 x3 = some o → W p l e rc_X7_divide s m args below meth c H locs 0 0 (MQ below (cQ false D ca true A α σ0 (fun _ => some (.int o.1)) o.2) args s 0 0 A) (F0 m 69 ls []) := by
  have hx := C.1
  have hb := C.2.1
  intro σ x1 x2 x3 H locs ls hM hl h
  unfold fc_X7_divide_69 at h
  refine lv_iinc (v := (x3 + (1 : Int32))) (lv' := [(3, .int (x3 + (1 : Int32))), (0, cr α 1 (some 0)), (1, .int x1), (2, .int x2)]) hx hb dX7_divide_69 hl (k := 3) rfl rfl (by decide) rfl (fun ls hl => ?_)
  refine lv_goto (tgt := 6) hx hb dX7_divide_72 (by decide) ?_
  exact hk_6 _ _ _ _ _ _ _ hM (lv_sub hl [1, 2, 3, 0] rfl) h
def fc_X7_divide_46 (σ : cS) : Option (Int32 × cS) :=
    some ((0 : Int32), σ)
set_option maxHeartbeats 4000000 in
set_option maxRecDepth 100000 in
theorem gc_X7_divide_46 {p : Program} {l : Launch} {e : Env} {s : State} {m : MethodId} {args : Array Value} {below : List Frame} {meth : Method} {c : Code} {D : va_G} {ca : Nat → ClassId} {A : Nat → Prop} {σ0 : cS} {α : cAl} {o : Int32 × cS} (C : cC p s m args c cX7_divide 4 RX7 D ca A α) (hr : meth.sig.returnType = (some FieldType.int)) (hlk : meth.locks = false) (h17 : 0 < cn σ0 17) : ∀ (σ : cS) (H : Heap) (locs : List Loc) (ls : Array Slot), cM D ca true A s.heap σ0 α σ α H locs → lv_has ls 4 [] → fc_X7_divide_46 σ = some o → W p l e rc_X7_divide s m args below meth c H locs 0 0 (MQ below (cQ false D ca true A α σ0 (fun _ => some (.int o.1)) o.2) args s 0 0 A) (F0 m 46 ls []) := by
  have hx := C.1
  have hb := C.2.1
  intro σ H locs ls hM hl h
  unfold fc_X7_divide_46 at h
  refine lv_iconst (v := (0 : Int32)) hx hb dX7_divide_46 (by decide) ?_
  exact c_ri C hM (fun _ => rfl) hr hlk dX7_divide_47 h
def fc_X7_divide_36 (k_6 : cS → Int32 → Int32 → Int32 → Option (Int32 × cS)) (σ : cS) (x1 : Int32) (x2 : Int32) (x3 : Int32) : Option (Int32 × cS) :=
    if x3 = x2 then
      fc_X7_divide_46 σ
    else
      if x1 = (4 : Int32) then
        fc_X7_divide_46 σ
      else
        if x1 < 0 ∨ 4 ≤ x1.toNatClampNeg then none else
        if x1 < 0 ∨ 4 ≤ x1.toNatClampNeg then none else
        fc_X7_divide_69 k_6 (uI (uI σ 12 0 x1.toNatClampNeg x2) 12 1 x1.toNatClampNeg x3) (x1 + (1 : Int32)) (x3 + (1 : Int32)) x3
set_option maxHeartbeats 4000000 in
set_option maxRecDepth 100000 in
theorem gc_X7_divide_36 {p : Program} {l : Launch} {e : Env} {s : State} {m : MethodId} {args : Array Value} {below : List Frame} {meth : Method} {c : Code} {D : va_G} {ca : Nat → ClassId} {A : Nat → Prop} {σ0 : cS} {α : cAl} {o : Int32 × cS} {k_6 : cS → Int32 → Int32 → Int32 → Option (Int32 × cS)} (C : cC p s m args c cX7_divide 4 RX7 D ca A α) (hr : meth.sig.returnType = (some FieldType.int)) (hlk : meth.locks = false) (h17 : 0 < cn σ0 17) (hk_6 : ∀ (σ : cS) (x1 : Int32) (x2 : Int32) (x3 : Int32) (H : Heap) (locs : List Loc) (ls : Array Slot), cM D ca true A s.heap σ0 α σ α H locs → lv_has ls 4 [(0, cr α 1 (some 0)), (1, .int x1), (2, .int x2), (3, .int x3)] → k_6 σ x1 x2 x3 = some o → W p l e rc_X7_divide s m args below meth c H locs 0 0 (MQ below (cQ false D ca true A α σ0 (fun _ => some (.int o.1)) o.2) args s 0 0 A) (F0 m 6 ls [])) : ∀ (σ : cS) (x1 : Int32) (x2 : Int32) (x3 : Int32) (H : Heap) (locs : List Loc) (ls : Array Slot), cM D ca true A s.heap σ0 α σ α H locs → lv_has ls 4 [(0, cr α 1 (some 0)), (1, .int x1), (2, .int x2), (3, .int x3)] → fc_X7_divide_36 k_6 σ x1 x2 x3 = some o → W p l e rc_X7_divide s m args below meth c H locs 0 0 (MQ below (cQ false D ca true A α σ0 (fun _ => some (.int o.1)) o.2) args s 0 0 A) (F0 m 36 ls []) := by
  have hx := C.1
  have hb := C.2.1
  intro σ x1 x2 x3 H locs ls hM hl h
  unfold fc_X7_divide_36 at h
  refine lv_iload_n hx hb dX7_divide_36 rfl (lv_at hl 3 rfl) ?_
  refine lv_iload_n hx hb dX7_divide_37 rfl (lv_at hl 2 rfl) ?_
  refine lv_icmp_eq (tgt := 46) hx hb dX7_divide_38 (by decide) (fun c_1 => ?_) (fun c_1 => ?_)
  · have h := br_T c_1 h
    exact gc_X7_divide_46 C hr hlk h17  _ _ _ _ hM (lv_sub hl [] rfl) h
  · have h := br_F c_1 h
    refine lv_iload_n hx hb dX7_divide_41 rfl (lv_at hl 1 rfl) ?_
    refine lv_iconst (v := (4 : Int32)) hx hb dX7_divide_42 (by decide) ?_
    refine lv_icmp_ne (tgt := 48) hx hb dX7_divide_43 (by decide) (fun c_2 => ?_) (fun c_2 => ?_)
    · have h := br_F c_2 h
      refine c_aload_n (t := 1) (x := (some 0)) hx hb dX7_divide_48 rfl (lv_at hl 0 rfl) ?_
      refine c_getb C hM (k := 1) (f := 1) (j := 0) (t := 12) (hM.cst 1 0 rfl) (by decide) fl_X7_15 dX7_divide_49 ?_
      refine lv_iload_n hx hb dX7_divide_52 rfl (lv_at hl 1 rfl) ?_
      refine lv_iload_n hx hb dX7_divide_53 rfl (lv_at hl 2 rfl) ?_
      obtain ⟨c_3, h⟩ := ko_of h
      refine c_iast C hM (hM.cst 12 0 rfl) (by rw [hM.ln 12 0 4 (by decide)]; exact c_3) dX7_divide_54 (fun H locs hM => ?_)
      refine c_aload_n (t := 1) (x := (some 0)) hx hb dX7_divide_55 rfl (lv_at hl 0 rfl) ?_
      refine c_getb C hM (k := 1) (f := 2) (j := 1) (t := 12) (hM.cst 1 0 rfl) (by decide) fl_X7_19 dX7_divide_56 ?_
      refine lv_iload_n hx hb dX7_divide_59 rfl (lv_at hl 1 rfl) ?_
      refine lv_iload_n hx hb dX7_divide_60 rfl (lv_at hl 3 rfl) ?_
      obtain ⟨c_4, h⟩ := ko_of h
      refine c_iast C hM (hM.cst 12 1 rfl) (by rw [hM.ln 12 1 4 (by decide)]; exact c_4) dX7_divide_61 (fun H locs hM => ?_)
      refine lv_iinc (v := (x1 + (1 : Int32))) (lv' := [(1, .int (x1 + (1 : Int32))), (0, cr α 1 (some 0)), (2, .int x2), (3, .int x3)]) hx hb dX7_divide_62 hl (k := 1) rfl rfl (by decide) rfl (fun ls hl => ?_)
      refine lv_iload_n hx hb dX7_divide_65 rfl (lv_at hl 3 rfl) ?_
      refine lv_iconst (v := (1 : Int32)) hx hb dX7_divide_66 (by decide) ?_
      refine lv_iadd hx hb dX7_divide_67 ?_
      refine lv_istore_n (lv' := [(2, .int (x3 + (1 : Int32))), (1, .int (x1 + (1 : Int32))), (0, cr α 1 (some 0)), (3, .int x3)]) hx hb dX7_divide_68 rfl hl (by decide) rfl (fun ls hl => ?_)
      exact gc_X7_divide_69 C hr hlk h17 hk_6 _ _ _ _ _ _ _ hM (lv_sub hl [2, 1, 0, 3] rfl) h
    · have h := br_T c_2 h
      exact gc_X7_divide_46 C hr hlk h17  _ _ _ _ hM (lv_sub hl [] rfl) h
def fc_X7_divide_6 : Nat → cS → Int32 → Int32 → Int32 → Option (Int32 × cS)
  | 0, _, _, _, _ => none
  | n + 1, σ, x1, x2, x3 =>
    if (cI σ 1 0 3) < x3 then
      some (x1, σ)
    else
      if (cI σ 1 0 3) ≤ x3 then
        fc_X7_divide_36 (fc_X7_divide_6 n) σ x1 x2 x3
      else
        if x3 < 0 ∨ 30 ≤ x3.toNatClampNeg then none else
        if (cI σ 14 0 x3.toNatClampNeg) = (32 : Int32) then
          fc_X7_divide_36 (fc_X7_divide_6 n) σ x1 x2 x3
        else
          fc_X7_divide_69 (fc_X7_divide_6 n) σ x1 x2 x3
set_option maxHeartbeats 4000000 in
set_option maxRecDepth 100000 in
theorem gc_X7_divide_6 {p : Program} {l : Launch} {e : Env} {s : State} {m : MethodId} {args : Array Value} {below : List Frame} {meth : Method} {c : Code} {D : va_G} {ca : Nat → ClassId} {A : Nat → Prop} {σ0 : cS} {α : cAl} {o : Int32 × cS} (C : cC p s m args c cX7_divide 4 RX7 D ca A α) (hr : meth.sig.returnType = (some FieldType.int)) (hlk : meth.locks = false) (h17 : 0 < cn σ0 17) : ∀ (n : Nat) (σ : cS) (x1 : Int32) (x2 : Int32) (x3 : Int32) (H : Heap) (locs : List Loc) (ls : Array Slot), cM D ca true A s.heap σ0 α σ α H locs → lv_has ls 4 [(0, cr α 1 (some 0)), (1, .int x1), (2, .int x2), (3, .int x3)] → fc_X7_divide_6 n σ x1 x2 x3 = some o → W p l e rc_X7_divide s m args below meth c H locs 0 0 (MQ below (cQ false D ca true A α σ0 (fun _ => some (.int o.1)) o.2) args s 0 0 A) (F0 m 6 ls []) := by
  have hx := C.1
  have hb := C.2.1
  intro n
  induction n with
  | zero =>
    intro σ x1 x2 x3 H locs ls hM hl h
    cases h
  | succ n ih =>
    intro σ x1 x2 x3 H locs ls hM hl h
    rw [fc_X7_divide_6] at h
    refine lv_iload_n hx hb dX7_divide_6 rfl (lv_at hl 3 rfl) ?_
    refine c_aload_n (t := 1) (x := (some 0)) hx hb dX7_divide_7 rfl (lv_at hl 0 rfl) ?_
    refine c_geti C hM (k := 1) (f := 3) (hM.cst 1 0 rfl) rfl fl_X7_22 dX7_divide_8 ?_
    refine lv_icmp_gt (tgt := 75) hx hb dX7_divide_11 (by decide) (fun c_1 => ?_) (fun c_1 => ?_)
    · have h := br_T c_1 h
      refine lv_iload_n hx hb dX7_divide_75 rfl (lv_at hl 1 rfl) ?_
      exact c_ri C hM (fun _ => rfl) hr hlk dX7_divide_76 h
    · have h := br_F c_1 h
      refine lv_iload_n hx hb dX7_divide_14 rfl (lv_at hl 3 rfl) ?_
      refine c_aload_n (t := 1) (x := (some 0)) hx hb dX7_divide_15 rfl (lv_at hl 0 rfl) ?_
      refine c_geti C hM (k := 1) (f := 3) (hM.cst 1 0 rfl) rfl fl_X7_22 dX7_divide_16 ?_
      refine lv_icmp_ge (tgt := 36) hx hb dX7_divide_19 (by decide) (fun c_2 => ?_) (fun c_2 => ?_)
      · have h := br_T c_2 h
        exact gc_X7_divide_36 C hr hlk h17 ih _ _ _ _ _ _ _ hM (lv_sub hl [0, 1, 2, 3] rfl) h
      · have h := br_F c_2 h
        refine c_aload_n (t := 1) (x := (some 0)) hx hb dX7_divide_22 rfl (lv_at hl 0 rfl) ?_
        refine c_getb C hM (k := 1) (f := 0) (j := 0) (t := 14) (hM.cst 1 0 rfl) (by decide) fl_X7_9 dX7_divide_23 ?_
        refine lv_iload_n hx hb dX7_divide_26 rfl (lv_at hl 3 rfl) ?_
        obtain ⟨c_3, h⟩ := ko_of h
        refine c_cald C hM (hM.cst 14 0 rfl) (by rw [hM.ln 14 0 30 (by decide)]; exact c_3) dX7_divide_27 ?_
        refine lv_bipush (v := (32 : Int32)) hx hb dX7_divide_28 (by decide) ?_
        refine lv_icmp_eq (tgt := 36) hx hb dX7_divide_30 (by decide) (fun c_4 => ?_) (fun c_4 => ?_)
        · have h := br_T c_4 h
          exact gc_X7_divide_36 C hr hlk h17 ih _ _ _ _ _ _ _ hM (lv_sub hl [0, 1, 2, 3] rfl) h
        · have h := br_F c_4 h
          refine lv_goto (tgt := 69) hx hb dX7_divide_33 (by decide) ?_
          exact gc_X7_divide_69 C hr hlk h17 ih _ _ _ _ _ _ _ hM (lv_sub hl [0, 1, 2, 3] rfl) h
def fc_X7_divide (σ : cS) : Option (Int32 × cS) :=
  fc_X7_divide_6 3000 σ (0 : Int32) (0 : Int32) (0 : Int32)
set_option maxHeartbeats 4000000 in
set_option maxRecDepth 100000 in
theorem cc_X7_divide (l : Launch) (D : va_G) (ca : Nat → ClassId) (A : Nat → Prop) (α : cAl) (σ : cS) (o : Int32 × cS) (h : fc_X7_divide σ  = some o) : cMet false l yX7_divide cX7_divide 4 ((some FieldType.int)) rc_X7_divide 0 0 D ca true A α σ [cr α 1 (some 0)] (fun _ => some (.int o.1)) o.2 := by
  refine Met.ofW (cc := cX7_divide) (maxL := 4) (ret := (some FieldType.int)) (by decide) rfl ?_
  intro p e s m args below meth c s₁ B hml hv
  obtain ⟨rfl, hP, hK, hD0, hSh, hA, hG⟩ := hv
  have C : cC p s m _ c cX7_divide 4 RX7 D ca A α := ⟨B.exec, B.bytes, hml, findClass_of_methodNamed B.named, fun w hw => atoms_spec (ws := mWs yX7_divide cX7_divide 4 ((some FieldType.int))) B.pre w (List.mem_cons_of_mem _ hw), hK, hG⟩
  have hM : cM D ca true A s.heap σ α σ α s.heap [] := ⟨hP, hD0, hSh, va_S.rf, hA, cX.rf⟩
  have h17 : 0 < cn σ 17 := c_17 hM
  have hr := B.returns
  have hlk := B.notSynchronized
  have hx := C.1
  have hb := C.2.1
  have hl := lv_entry ([cr α 1 (some 0)]) (n := 4) (Nat.le_of_ble_eq_true rfl)
  rw [lg_entry_eq]
  generalize (lg_sl ([cr α 1 (some 0)]) ++ List.replicate (4 - (lg_sl ([cr α 1 (some 0)])).length) Slot.unset).toArray = ls at hl ⊢
  have hl : lv_has ls 4 [(0, cr α 1 (some 0))] := hl
  unfold fc_X7_divide at h
  refine lv_iconst (v := (0 : Int32)) hx hb dX7_divide_0 (by decide) ?_
  refine lv_istore_n (lv' := [(1, .int (0 : Int32)), (0, cr α 1 (some 0))]) hx hb dX7_divide_1 rfl hl (by decide) rfl (fun ls hl => ?_)
  refine lv_iconst (v := (0 : Int32)) hx hb dX7_divide_2 (by decide) ?_
  refine lv_istore_n (lv' := [(2, .int (0 : Int32)), (1, .int (0 : Int32)), (0, cr α 1 (some 0))]) hx hb dX7_divide_3 rfl hl (by decide) rfl (fun ls hl => ?_)
  refine lv_iconst (v := (0 : Int32)) hx hb dX7_divide_4 (by decide) ?_
  refine lv_istore_n (lv' := [(3, .int (0 : Int32)), (2, .int (0 : Int32)), (1, .int (0 : Int32)), (0, cr α 1 (some 0))]) hx hb dX7_divide_5 rfl hl (by decide) rfl (fun ls hl => ?_)
  exact gc_X7_divide_6 C hr hlk h17  _ _ _ _ _ _ _ _ hM (lv_sub hl [3, 2, 1, 0] rfl) h
/-! Lorewick$Text.isPart(ILjava/lang/String;)Z -/
abbrev rc_X7_isPart : Room := { frames := 5, cells := 0, slots := 0, locals := 123 }
def fc_X7_isPart_24 : Nat → cS → Int32 → Option Nat → Int32 → Option (Int32 × cS)
  | 0, _, _, _, _ => none
  | n + 1, σ, x1, x2, x3 =>
    (dt x2).bind fun i_1 =>
    (fc_J0_length_8abf5 σ x2).bind fun r_2 =>
    if r_2.1 ≤ x3 then
      if (1 : Int32) &&& 1 = (1 : Int32) then some ((1 : Int32), r_2.2) else none
    else
      if x1 < 0 ∨ 4 ≤ x1.toNatClampNeg then none else
      if ((cI r_2.2 12 0 x1.toNatClampNeg) + x3) < 0 ∨ 30 ≤ ((cI r_2.2 12 0 x1.toNatClampNeg) + x3).toNatClampNeg then none else
      (dt x2).bind fun i_3 =>
      (fc_J0_charAt_5068e r_2.2 x2 x3).bind fun r_4 =>
      if (cI r_2.2 14 0 ((cI r_2.2 12 0 x1.toNatClampNeg) + x3).toNatClampNeg) = r_4.1 then
        (fc_X7_isPart_24 n) r_4.2 x1 x2 (x3 + (1 : Int32))
      else
        if (0 : Int32) &&& 1 = (0 : Int32) then some ((0 : Int32), r_4.2) else none
set_option maxHeartbeats 4000000 in
set_option maxRecDepth 100000 in
theorem gc_X7_isPart_24 {p : Program} {l : Launch} {e : Env} {s : State} {m : MethodId} {args : Array Value} {below : List Frame} {meth : Method} {c : Code} {D : va_G} {ca : Nat → ClassId} {A : Nat → Prop} {σ0 : cS} {α : cAl} {o : Int32 × cS} (C : cC p s m args c cX7_isPart 4 RX7 D ca A α) (hr : meth.sig.returnType = (some FieldType.boolean)) (hlk : meth.locks = false) (h17 : 0 < cn σ0 17) : ∀ (n : Nat) (σ : cS) (x1 : Int32) (x2 : Option Nat) (x3 : Int32) (H : Heap) (locs : List Loc) (ls : Array Slot), cM D ca true A s.heap σ0 α σ α H locs → lv_has ls 4 [(0, cr α 1 (some 0)), (1, .int x1), (2, cr α 19 x2), (3, .int x3)] → fc_X7_isPart_24 n σ x1 x2 x3 = some o → W p l e rc_X7_isPart s m args below meth c H locs 0 0 (MQ below (cQ false D ca true A α σ0 (fun _ => some (.int o.1)) o.2) args s 0 0 A) (F0 m 24 ls []) := by
  have hx := C.1
  have hb := C.2.1
  intro n
  induction n with
  | zero =>
    intro σ x1 x2 x3 H locs ls hM hl h
    cases h
  | succ n ih =>
    intro σ x1 x2 x3 H locs ls hM hl h
    rw [fc_X7_isPart_24] at h
    refine lv_iload_n hx hb dX7_isPart_24 rfl (lv_at hl 3 rfl) ?_
    refine c_aload_n (t := 19) (x := x2) hx hb dX7_isPart_25 rfl (lv_at hl 2 rfl) ?_
    obtain ⟨i_1, ht_1, h⟩ := bd_of h
    obtain ⟨r_2, hr_2, h⟩ := bd_of h
    refine c_go0 (c_rT (As := []) (rest := [.int x3]) C hM h17 ht_1 (cc_J0_length_8abf5 l D ca A α σ x2 _ hr_2) cw_X7_26 ⟨rfl, rfl⟩ ⟨Nat.le_of_ble_eq_true rfl, Nat.le_of_ble_eq_true rfl⟩ rfl rfl (cats_le _ (Nat.le_of_ble_eq_true rfl)) hl.1 dX7_isPart_26 ⟨Nat.le_of_ble_eq_true rfl, Nat.le_of_ble_eq_true rfl⟩) hM (fun H locs hM => ?_)
    refine W_st (st' := [.int r_2.1, .int x3]) rfl ?_
    refine lv_icmp_ge (tgt := 61) hx hb dX7_isPart_29 (by decide) (fun c_1 => ?_) (fun c_1 => ?_)
    · have h := br_T c_1 h
      refine lv_iconst (v := (1 : Int32)) hx hb dX7_isPart_61 (by decide) ?_
      exact c_rz C hM (fun _ => rfl) hr hlk dX7_isPart_62 h
    · have h := br_F c_1 h
      refine c_aload_n (t := 1) (x := (some 0)) hx hb dX7_isPart_32 rfl (lv_at hl 0 rfl) ?_
      refine c_getb C hM (k := 1) (f := 0) (j := 0) (t := 14) (hM.cst 1 0 rfl) (by decide) fl_X7_9 dX7_isPart_33 ?_
      refine c_aload_n (t := 1) (x := (some 0)) hx hb dX7_isPart_36 rfl (lv_at hl 0 rfl) ?_
      refine c_getb C hM (k := 1) (f := 1) (j := 0) (t := 12) (hM.cst 1 0 rfl) (by decide) fl_X7_15 dX7_isPart_37 ?_
      refine lv_iload_n hx hb dX7_isPart_40 rfl (lv_at hl 1 rfl) ?_
      obtain ⟨c_2, h⟩ := ko_of h
      refine c_iald C hM (hM.cst 12 0 rfl) (by rw [hM.ln 12 0 4 (by decide)]; exact c_2) dX7_isPart_41 ?_
      refine lv_iload_n hx hb dX7_isPart_42 rfl (lv_at hl 3 rfl) ?_
      refine lv_iadd hx hb dX7_isPart_43 ?_
      obtain ⟨c_3, h⟩ := ko_of h
      refine c_cald C hM (hM.cst 14 0 rfl) (by rw [hM.ln 14 0 30 (by decide)]; exact c_3) dX7_isPart_44 ?_
      refine c_aload_n (t := 19) (x := x2) hx hb dX7_isPart_45 rfl (lv_at hl 2 rfl) ?_
      refine lv_iload_n hx hb dX7_isPart_46 rfl (lv_at hl 3 rfl) ?_
      obtain ⟨i_3, ht_3, h⟩ := bd_of h
      obtain ⟨r_4, hr_4, h⟩ := bd_of h
      refine c_go0 (c_rT (As := [.int x3]) (rest := [.int (cI r_2.2 14 0 ((cI r_2.2 12 0 x1.toNatClampNeg) + x3).toNatClampNeg)]) C hM h17 ht_3 (cc_J0_charAt_5068e l D ca A α r_2.2 x2 x3 _ hr_4) cw_X7_31 ⟨rfl, rfl⟩ ⟨Nat.le_of_ble_eq_true rfl, Nat.le_of_ble_eq_true rfl⟩ rfl rfl (cats_le _ (Nat.le_of_ble_eq_true rfl)) hl.1 dX7_isPart_47 ⟨Nat.le_of_ble_eq_true rfl, Nat.le_of_ble_eq_true rfl⟩) hM (fun H locs hM => ?_)
      refine W_st (st' := [.int r_4.1, .int (cI r_2.2 14 0 ((cI r_2.2 12 0 x1.toNatClampNeg) + x3).toNatClampNeg)]) rfl ?_
      refine lv_icmp_eq (tgt := 55) hx hb dX7_isPart_50 (by decide) (fun c_4 => ?_) (fun c_4 => ?_)
      · have h := br_T c_4 h
        refine lv_iinc (v := (x3 + (1 : Int32))) (lv' := [(3, .int (x3 + (1 : Int32))), (0, cr α 1 (some 0)), (1, .int x1), (2, cr α 19 x2)]) hx hb dX7_isPart_55 hl (k := 3) rfl rfl (by decide) (by first | rfl | (simp only [List.filter, cr_cat]; rfl)) (fun ls hl => ?_)
        refine lv_goto (tgt := 24) hx hb dX7_isPart_58 (by decide) ?_
        exact ih _ _ _ _ _ _ _ hM (lv_sub hl [1, 2, 3, 0] rfl) h
      · have h := br_F c_4 h
        refine lv_iconst (v := (0 : Int32)) hx hb dX7_isPart_53 (by decide) ?_
        exact c_rz C hM (fun _ => rfl) hr hlk dX7_isPart_54 h
def fc_X7_isPart (σ : cS) (x1 : Int32) (x2 : Option Nat) : Option (Int32 × cS) :=
  if x1 < 0 ∨ 4 ≤ x1.toNatClampNeg then none else
  if x1 < 0 ∨ 4 ≤ x1.toNatClampNeg then none else
  (dt x2).bind fun i_1 =>
  (fc_J0_length_8abf5 σ x2).bind fun r_2 =>
  if ((cI σ 12 1 x1.toNatClampNeg) - (cI σ 12 0 x1.toNatClampNeg)) = r_2.1 then
    fc_X7_isPart_24 3000 r_2.2 x1 x2 (0 : Int32)
  else
    if (0 : Int32) &&& 1 = (0 : Int32) then some ((0 : Int32), r_2.2) else none
set_option maxHeartbeats 4000000 in
set_option maxRecDepth 100000 in
theorem cc_X7_isPart (l : Launch) (D : va_G) (ca : Nat → ClassId) (A : Nat → Prop) (α : cAl) (σ : cS) (x1 : Int32) (x2 : Option Nat) (o : Int32 × cS) (h : fc_X7_isPart σ x1 x2 = some o) : cMet false l yX7_isPart cX7_isPart 4 ((some FieldType.boolean)) rc_X7_isPart 0 0 D ca true A α σ [cr α 1 (some 0), .int x1, cr α 19 x2] (fun _ => some (.int o.1)) o.2 := by
  refine Met.ofW (cc := cX7_isPart) (maxL := 4) (ret := (some FieldType.boolean)) (by decide) rfl ?_
  intro p e s m args below meth c s₁ B hml hv
  obtain ⟨rfl, hP, hK, hD0, hSh, hA, hG⟩ := hv
  have C : cC p s m _ c cX7_isPart 4 RX7 D ca A α := ⟨B.exec, B.bytes, hml, findClass_of_methodNamed B.named, fun w hw => atoms_spec (ws := mWs yX7_isPart cX7_isPart 4 ((some FieldType.boolean))) B.pre w (List.mem_cons_of_mem _ hw), hK, hG⟩
  have hM : cM D ca true A s.heap σ α σ α s.heap [] := ⟨hP, hD0, hSh, va_S.rf, hA, cX.rf⟩
  have h17 : 0 < cn σ 17 := c_17 hM
  have hr := B.returns
  have hlk := B.notSynchronized
  have hx := C.1
  have hb := C.2.1
  have hl := lv_entry ([cr α 1 (some 0), .int x1, cr α 19 x2]) (n := 4) (by simp [lg_r, lg_i, lg_l, lg_n])
  rw [lg_entry_eq]
  generalize (lg_sl ([cr α 1 (some 0), .int x1, cr α 19 x2]) ++ List.replicate (4 - (lg_sl ([cr α 1 (some 0), .int x1, cr α 19 x2])).length) Slot.unset).toArray = ls at hl ⊢
  have hl : lv_has ls 4 [(0, cr α 1 (some 0)), (1, .int x1), (2, cr α 19 x2)] := (lv_to hl (by simp only [la_r, la_i, la_l, la_n]))
  unfold fc_X7_isPart at h
  refine c_aload_n (t := 1) (x := (some 0)) hx hb dX7_isPart_0 rfl (lv_at hl 0 rfl) ?_
  refine c_getb C hM (k := 1) (f := 2) (j := 1) (t := 12) (hM.cst 1 0 rfl) (by decide) fl_X7_19 dX7_isPart_1 ?_
  refine lv_iload_n hx hb dX7_isPart_4 rfl (lv_at hl 1 rfl) ?_
  obtain ⟨c_1, h⟩ := ko_of h
  refine c_iald C hM (hM.cst 12 1 rfl) (by rw [hM.ln 12 1 4 (by decide)]; exact c_1) dX7_isPart_5 ?_
  refine c_aload_n (t := 1) (x := (some 0)) hx hb dX7_isPart_6 rfl (lv_at hl 0 rfl) ?_
  refine c_getb C hM (k := 1) (f := 1) (j := 0) (t := 12) (hM.cst 1 0 rfl) (by decide) fl_X7_15 dX7_isPart_7 ?_
  refine lv_iload_n hx hb dX7_isPart_10 rfl (lv_at hl 1 rfl) ?_
  obtain ⟨c_2, h⟩ := ko_of h
  refine c_iald C hM (hM.cst 12 0 rfl) (by rw [hM.ln 12 0 4 (by decide)]; exact c_2) dX7_isPart_11 ?_
  refine lv_isub hx hb dX7_isPart_12 ?_
  refine c_aload_n (t := 19) (x := x2) hx hb dX7_isPart_13 rfl (lv_at hl 2 rfl) ?_
  obtain ⟨i_1, ht_1, h⟩ := bd_of h
  obtain ⟨r_2, hr_2, h⟩ := bd_of h
  refine c_go0 (c_rT (As := []) (rest := [.int ((cI σ 12 1 x1.toNatClampNeg) - (cI σ 12 0 x1.toNatClampNeg))]) C hM h17 ht_1 (cc_J0_length_8abf5 l D ca A α σ x2 _ hr_2) cw_X7_26 ⟨rfl, rfl⟩ ⟨Nat.le_of_ble_eq_true rfl, Nat.le_of_ble_eq_true rfl⟩ rfl rfl (cats_le _ (Nat.le_of_ble_eq_true rfl)) hl.1 dX7_isPart_14 ⟨Nat.le_of_ble_eq_true rfl, Nat.le_of_ble_eq_true rfl⟩) hM (fun H locs hM => ?_)
  refine W_st (st' := [.int r_2.1, .int ((cI σ 12 1 x1.toNatClampNeg) - (cI σ 12 0 x1.toNatClampNeg))]) rfl ?_
  refine lv_icmp_eq (tgt := 22) hx hb dX7_isPart_17 (by decide) (fun c_3 => ?_) (fun c_3 => ?_)
  · have h := br_T c_3 h
    refine lv_iconst (v := (0 : Int32)) hx hb dX7_isPart_22 (by decide) ?_
    refine lv_istore_n (lv' := [(3, .int (0 : Int32)), (0, cr α 1 (some 0)), (1, .int x1), (2, cr α 19 x2)]) hx hb dX7_isPart_23 rfl hl (by decide) (by first | rfl | (simp only [List.filter, cr_cat]; rfl)) (fun ls hl => ?_)
    exact gc_X7_isPart_24 C hr hlk h17  _ _ _ _ _ _ _ _ hM (lv_sub hl [1, 2, 3, 0] rfl) h
  · have h := br_F c_3 h
    refine lv_iconst (v := (0 : Int32)) hx hb dX7_isPart_20 (by decide) ?_
    exact c_rz C hM (fun _ => rfl) hr hlk dX7_isPart_21 h
/-! Lorewick$Text.onlySign(I)C -/
abbrev rc_X7_onlySign : Room := { frames := 0, cells := 0, slots := 0, locals := 0 }
def fc_X7_onlySign_33 (σ : cS) (s0 : Int32) : Option (Int32 × cS) :=
    if s0.toUInt32.toUInt16.toUInt32.toInt32 = s0 then some (s0, σ) else none
set_option maxHeartbeats 4000000 in
set_option maxRecDepth 100000 in
theorem gc_X7_onlySign_33 {p : Program} {l : Launch} {e : Env} {s : State} {m : MethodId} {args : Array Value} {below : List Frame} {meth : Method} {c : Code} {D : va_G} {ca : Nat → ClassId} {A : Nat → Prop} {σ0 : cS} {α : cAl} {o : Int32 × cS} (C : cC p s m args c cX7_onlySign 2 RX7 D ca A α) (hr : meth.sig.returnType = (some FieldType.char)) (hlk : meth.locks = false) (h17 : 0 < cn σ0 17) : ∀ (σ : cS) (s0 : Int32) (H : Heap) (locs : List Loc) (ls : Array Slot), cM D ca true A s.heap σ0 α σ α H locs → lv_has ls 2 [] → fc_X7_onlySign_33 σ s0 = some o → W p l e rc_X7_onlySign s m args below meth c H locs 0 0 (MQ below (cQ false D ca true A α σ0 (fun _ => some (.int o.1)) o.2) args s 0 0 A) (F0 m 33 ls [.int s0]) := by
  have hx := C.1
  have hb := C.2.1
  intro σ s0 H locs ls hM hl h
  unfold fc_X7_onlySign_33 at h
  exact c_rc C hM (fun _ => rfl) hr hlk dX7_onlySign_33 h
def fc_X7_onlySign (σ : cS) (x1 : Int32) : Option (Int32 × cS) :=
  if x1 < 0 ∨ 4 ≤ x1.toNatClampNeg then none else
  if x1 < 0 ∨ 4 ≤ x1.toNatClampNeg then none else
  if ((cI σ 12 1 x1.toNatClampNeg) - (cI σ 12 0 x1.toNatClampNeg)) = (1 : Int32) then
    if x1 < 0 ∨ 4 ≤ x1.toNatClampNeg then none else
    if (cI σ 12 0 x1.toNatClampNeg) < 0 ∨ 30 ≤ (cI σ 12 0 x1.toNatClampNeg).toNatClampNeg then none else
    fc_X7_onlySign_33 σ (cI σ 14 0 (cI σ 12 0 x1.toNatClampNeg).toNatClampNeg)
  else
    fc_X7_onlySign_33 σ (32 : Int32)
set_option maxHeartbeats 4000000 in
set_option maxRecDepth 100000 in
theorem cc_X7_onlySign (l : Launch) (D : va_G) (ca : Nat → ClassId) (A : Nat → Prop) (α : cAl) (σ : cS) (x1 : Int32) (o : Int32 × cS) (h : fc_X7_onlySign σ x1 = some o) : cMet false l yX7_onlySign cX7_onlySign 2 ((some FieldType.char)) rc_X7_onlySign 0 0 D ca true A α σ [cr α 1 (some 0), .int x1] (fun _ => some (.int o.1)) o.2 := by
  refine Met.ofW (cc := cX7_onlySign) (maxL := 2) (ret := (some FieldType.char)) (by decide) rfl ?_
  intro p e s m args below meth c s₁ B hml hv
  obtain ⟨rfl, hP, hK, hD0, hSh, hA, hG⟩ := hv
  have C : cC p s m _ c cX7_onlySign 2 RX7 D ca A α := ⟨B.exec, B.bytes, hml, findClass_of_methodNamed B.named, fun w hw => atoms_spec (ws := mWs yX7_onlySign cX7_onlySign 2 ((some FieldType.char))) B.pre w (List.mem_cons_of_mem _ hw), hK, hG⟩
  have hM : cM D ca true A s.heap σ α σ α s.heap [] := ⟨hP, hD0, hSh, va_S.rf, hA, cX.rf⟩
  have h17 : 0 < cn σ 17 := c_17 hM
  have hr := B.returns
  have hlk := B.notSynchronized
  have hx := C.1
  have hb := C.2.1
  have hl := lv_entry ([cr α 1 (some 0), .int x1]) (n := 2) (Nat.le_of_ble_eq_true rfl)
  rw [lg_entry_eq]
  generalize (lg_sl ([cr α 1 (some 0), .int x1]) ++ List.replicate (2 - (lg_sl ([cr α 1 (some 0), .int x1])).length) Slot.unset).toArray = ls at hl ⊢
  have hl : lv_has ls 2 [(0, cr α 1 (some 0)), (1, .int x1)] := hl
  unfold fc_X7_onlySign at h
  refine c_aload_n (t := 1) (x := (some 0)) hx hb dX7_onlySign_0 rfl (lv_at hl 0 rfl) ?_
  refine c_getb C hM (k := 1) (f := 2) (j := 1) (t := 12) (hM.cst 1 0 rfl) (by decide) fl_X7_19 dX7_onlySign_1 ?_
  refine lv_iload_n hx hb dX7_onlySign_4 rfl (lv_at hl 1 rfl) ?_
  obtain ⟨c_1, h⟩ := ko_of h
  refine c_iald C hM (hM.cst 12 1 rfl) (by rw [hM.ln 12 1 4 (by decide)]; exact c_1) dX7_onlySign_5 ?_
  refine c_aload_n (t := 1) (x := (some 0)) hx hb dX7_onlySign_6 rfl (lv_at hl 0 rfl) ?_
  refine c_getb C hM (k := 1) (f := 1) (j := 0) (t := 12) (hM.cst 1 0 rfl) (by decide) fl_X7_15 dX7_onlySign_7 ?_
  refine lv_iload_n hx hb dX7_onlySign_10 rfl (lv_at hl 1 rfl) ?_
  obtain ⟨c_2, h⟩ := ko_of h
  refine c_iald C hM (hM.cst 12 0 rfl) (by rw [hM.ln 12 0 4 (by decide)]; exact c_2) dX7_onlySign_11 ?_
  refine lv_isub hx hb dX7_onlySign_12 ?_
  refine lv_iconst (v := (1 : Int32)) hx hb dX7_onlySign_13 (by decide) ?_
  refine lv_icmp_ne (tgt := 31) hx hb dX7_onlySign_14 (by decide) (fun c_3 => ?_) (fun c_3 => ?_)
  · have h := br_F c_3 h
    refine lv_bipush (v := (32 : Int32)) hx hb dX7_onlySign_31 (by decide) ?_
    exact gc_X7_onlySign_33 C hr hlk h17  _ _ _ _ _ hM (lv_sub hl [] rfl) h
  · have h := br_T c_3 h
    refine c_aload_n (t := 1) (x := (some 0)) hx hb dX7_onlySign_17 rfl (lv_at hl 0 rfl) ?_
    refine c_getb C hM (k := 1) (f := 0) (j := 0) (t := 14) (hM.cst 1 0 rfl) (by decide) fl_X7_9 dX7_onlySign_18 ?_
    refine c_aload_n (t := 1) (x := (some 0)) hx hb dX7_onlySign_21 rfl (lv_at hl 0 rfl) ?_
    refine c_getb C hM (k := 1) (f := 1) (j := 0) (t := 12) (hM.cst 1 0 rfl) (by decide) fl_X7_15 dX7_onlySign_22 ?_
    refine lv_iload_n hx hb dX7_onlySign_25 rfl (lv_at hl 1 rfl) ?_
    obtain ⟨c_4, h⟩ := ko_of h
    refine c_iald C hM (hM.cst 12 0 rfl) (by rw [hM.ln 12 0 4 (by decide)]; exact c_4) dX7_onlySign_26 ?_
    obtain ⟨c_5, h⟩ := ko_of h
    refine c_cald C hM (hM.cst 14 0 rfl) (by rw [hM.ln 14 0 30 (by decide)]; exact c_5) dX7_onlySign_27 ?_
    refine lv_goto (tgt := 33) hx hb dX7_onlySign_28 (by decide) ?_
    exact gc_X7_onlySign_33 C hr hlk h17  _ _ _ _ _ hM (lv_sub hl [] rfl) h
/-! Lorewick$Text.packed(II)J -/
abbrev rc_X7_packed : Room := { frames := 0, cells := 0, slots := 0, locals := 0 }
def fc_X7_packed_15 : Nat → cS → Int32 → Int64 → Int32 → Option (Int64 × cS)
  | 0, _, _, _, _ => none
  | n + 1, σ, x2, x3, x5 =>
    if x2 ≤ x5 then
      some (x3, σ)
    else
      if x5 < 0 ∨ 30 ≤ x5.toNatClampNeg then none else
      if (cI σ 14 0 x5.toNatClampNeg) = (32 : Int32) then
        some ((0 : Int64), σ)
      else
        if x5 < 0 ∨ 30 ≤ x5.toNatClampNeg then none else
        (fc_X7_packed_15 n) σ x2 ((x3 <<< ((5 : Int32).toInt64 &&& 63)) + ((((cI σ 14 0 x5.toNatClampNeg) - (97 : Int32)) + (1 : Int32)).toInt64)) (x5 + (1 : Int32))
set_option maxHeartbeats 4000000 in
set_option maxRecDepth 100000 in
theorem gc_X7_packed_15 {p : Program} {l : Launch} {e : Env} {s : State} {m : MethodId} {args : Array Value} {below : List Frame} {meth : Method} {c : Code} {D : va_G} {ca : Nat → ClassId} {A : Nat → Prop} {σ0 : cS} {α : cAl} {o : Int64 × cS} (C : cC p s m args c cX7_packed 6 RX7 D ca A α) (hr : meth.sig.returnType = (some FieldType.long)) (hlk : meth.locks = false) (h17 : 0 < cn σ0 17) : ∀ (n : Nat) (σ : cS) (x2 : Int32) (x3 : Int64) (x5 : Int32) (H : Heap) (locs : List Loc) (ls : Array Slot), cM D ca true A s.heap σ0 α σ α H locs → lv_has ls 6 [(0, cr α 1 (some 0)), (2, .int x2), (3, .long x3), (5, .int x5)] → fc_X7_packed_15 n σ x2 x3 x5 = some o → W p l e rc_X7_packed s m args below meth c H locs 0 0 (MQ below (cQ false D ca true A α σ0 (fun _ => some (.long o.1)) o.2) args s 0 0 A) (F0 m 15 ls []) := by
  have hx := C.1
  have hb := C.2.1
  intro n
  induction n with
  | zero =>
    intro σ x2 x3 x5 H locs ls hM hl h
    cases h
  | succ n ih =>
    intro σ x2 x3 x5 H locs ls hM hl h
    rw [fc_X7_packed_15] at h
    refine lv_iload hx hb dX7_packed_15 (lv_at hl 3 rfl) ?_
    refine lv_iload_n hx hb dX7_packed_17 rfl (lv_at hl 1 rfl) ?_
    refine lv_icmp_ge (tgt := 59) hx hb dX7_packed_18 (by decide) (fun c_1 => ?_) (fun c_1 => ?_)
    · have h := br_T c_1 h
      refine lv_lload_n hx hb dX7_packed_59 rfl (lv_at hl 2 rfl) ?_
      exact c_rl C hM (fun _ => rfl) hr hlk dX7_packed_60 h
    · have h := br_F c_1 h
      refine c_aload_n (t := 1) (x := (some 0)) hx hb dX7_packed_21 rfl (lv_at hl 0 rfl) ?_
      refine c_getb C hM (k := 1) (f := 0) (j := 0) (t := 14) (hM.cst 1 0 rfl) (by decide) fl_X7_9 dX7_packed_22 ?_
      refine lv_iload hx hb dX7_packed_25 (lv_at hl 3 rfl) ?_
      obtain ⟨c_2, h⟩ := ko_of h
      refine c_cald C hM (hM.cst 14 0 rfl) (by rw [hM.ln 14 0 30 (by decide)]; exact c_2) dX7_packed_27 ?_
      refine lv_bipush (v := (32 : Int32)) hx hb dX7_packed_28 (by decide) ?_
      refine lv_icmp_ne (tgt := 35) hx hb dX7_packed_30 (by decide) (fun c_3 => ?_) (fun c_3 => ?_)
      · have h := br_F c_3 h
        refine lv_lload_n hx hb dX7_packed_35 rfl (lv_at hl 2 rfl) ?_
        refine lv_iconst (v := (5 : Int32)) hx hb dX7_packed_36 (by decide) ?_
        refine lv_lshl (v := (x3 <<< ((5 : Int32).toInt64 &&& 63))) hx hb dX7_packed_37 rfl ?_
        refine c_aload_n (t := 1) (x := (some 0)) hx hb dX7_packed_38 rfl (lv_at hl 0 rfl) ?_
        refine c_getb C hM (k := 1) (f := 0) (j := 0) (t := 14) (hM.cst 1 0 rfl) (by decide) fl_X7_9 dX7_packed_39 ?_
        refine lv_iload hx hb dX7_packed_42 (lv_at hl 3 rfl) ?_
        obtain ⟨c_4, h⟩ := ko_of h
        refine c_cald C hM (hM.cst 14 0 rfl) (by rw [hM.ln 14 0 30 (by decide)]; exact c_4) dX7_packed_44 ?_
        refine lv_bipush (v := (97 : Int32)) hx hb dX7_packed_45 (by decide) ?_
        refine lv_isub hx hb dX7_packed_47 ?_
        refine lv_iconst (v := (1 : Int32)) hx hb dX7_packed_48 (by decide) ?_
        refine lv_iadd hx hb dX7_packed_49 ?_
        refine lv_i2l (v := (((cI σ 14 0 x5.toNatClampNeg) - (97 : Int32)) + (1 : Int32)).toInt64) hx hb dX7_packed_50 rfl ?_
        refine lv_ladd hx hb dX7_packed_51 ?_
        refine lv_lstore_n (lv' := [(3, .long ((x3 <<< ((5 : Int32).toInt64 &&& 63)) + ((((cI σ 14 0 x5.toNatClampNeg) - (97 : Int32)) + (1 : Int32)).toInt64))), (0, cr α 1 (some 0)), (2, .int x2), (5, .int x5)]) hx hb dX7_packed_52 rfl hl (by decide) rfl (fun ls hl => ?_)
        refine lv_iinc (v := (x5 + (1 : Int32))) (lv' := [(5, .int (x5 + (1 : Int32))), (3, .long ((x3 <<< ((5 : Int32).toInt64 &&& 63)) + ((((cI σ 14 0 x5.toNatClampNeg) - (97 : Int32)) + (1 : Int32)).toInt64))), (0, cr α 1 (some 0)), (2, .int x2)]) hx hb dX7_packed_53 hl (k := 3) rfl rfl (by decide) rfl (fun ls hl => ?_)
        refine lv_goto (tgt := 15) hx hb dX7_packed_56 (by decide) ?_
        exact ih _ _ _ _ _ _ _ hM (lv_sub hl [2, 3, 1, 0] rfl) h
      · have h := br_T c_3 h
        refine lv_lconst (v := (0 : Int64)) hx hb dX7_packed_33 (by decide) ?_
        exact c_rl C hM (fun _ => rfl) hr hlk dX7_packed_34 h
def fc_X7_packed (σ : cS) (x1 : Int32) (x2 : Int32) : Option (Int64 × cS) :=
  if (x2 - x1) ≤ (8 : Int32) then
    fc_X7_packed_15 3000 σ x2 (0 : Int64) x1
  else
    some ((0 : Int64), σ)
set_option maxHeartbeats 4000000 in
set_option maxRecDepth 100000 in
theorem cc_X7_packed (l : Launch) (D : va_G) (ca : Nat → ClassId) (A : Nat → Prop) (α : cAl) (σ : cS) (x1 : Int32) (x2 : Int32) (o : Int64 × cS) (h : fc_X7_packed σ x1 x2 = some o) : cMet false l yX7_packed cX7_packed 6 ((some FieldType.long)) rc_X7_packed 0 0 D ca true A α σ [cr α 1 (some 0), .int x1, .int x2] (fun _ => some (.long o.1)) o.2 := by
  refine Met.ofW (cc := cX7_packed) (maxL := 6) (ret := (some FieldType.long)) (by decide) rfl ?_
  intro p e s m args below meth c s₁ B hml hv
  obtain ⟨rfl, hP, hK, hD0, hSh, hA, hG⟩ := hv
  have C : cC p s m _ c cX7_packed 6 RX7 D ca A α := ⟨B.exec, B.bytes, hml, findClass_of_methodNamed B.named, fun w hw => atoms_spec (ws := mWs yX7_packed cX7_packed 6 ((some FieldType.long))) B.pre w (List.mem_cons_of_mem _ hw), hK, hG⟩
  have hM : cM D ca true A s.heap σ α σ α s.heap [] := ⟨hP, hD0, hSh, va_S.rf, hA, cX.rf⟩
  have h17 : 0 < cn σ 17 := c_17 hM
  have hr := B.returns
  have hlk := B.notSynchronized
  have hx := C.1
  have hb := C.2.1
  have hl := lv_entry ([cr α 1 (some 0), .int x1, .int x2]) (n := 6) (Nat.le_of_ble_eq_true rfl)
  rw [lg_entry_eq]
  generalize (lg_sl ([cr α 1 (some 0), .int x1, .int x2]) ++ List.replicate (6 - (lg_sl ([cr α 1 (some 0), .int x1, .int x2])).length) Slot.unset).toArray = ls at hl ⊢
  have hl : lv_has ls 6 [(0, cr α 1 (some 0)), (1, .int x1), (2, .int x2)] := hl
  unfold fc_X7_packed at h
  refine lv_iload_n hx hb dX7_packed_0 rfl (lv_at hl 2 rfl) ?_
  refine lv_iload_n hx hb dX7_packed_1 rfl (lv_at hl 1 rfl) ?_
  refine lv_isub hx hb dX7_packed_2 ?_
  refine lv_bipush (v := (8 : Int32)) hx hb dX7_packed_3 (by decide) ?_
  refine lv_icmp_le (tgt := 10) hx hb dX7_packed_5 (by decide) (fun c_1 => ?_) (fun c_1 => ?_)
  · have h := br_T c_1 h
    refine lv_lconst (v := (0 : Int64)) hx hb dX7_packed_10 (by decide) ?_
    refine lv_lstore_n (lv' := [(3, .long (0 : Int64)), (0, cr α 1 (some 0)), (1, .int x1), (2, .int x2)]) hx hb dX7_packed_11 rfl hl (by decide) rfl (fun ls hl => ?_)
    refine lv_iload_n hx hb dX7_packed_12 rfl (lv_at hl 2 rfl) ?_
    refine lv_istore (lv' := [(5, .int x1), (3, .long (0 : Int64)), (0, cr α 1 (some 0)), (1, .int x1), (2, .int x2)]) hx hb dX7_packed_13 hl (by decide) rfl (fun ls hl => ?_)
    exact gc_X7_packed_15 C hr hlk h17  _ _ _ _ _ _ _ _ hM (lv_sub hl [2, 4, 1, 0] rfl) h
  · have h := br_F c_1 h
    refine lv_lconst (v := (0 : Int64)) hx hb dX7_packed_8 (by decide) ?_
    exact c_rl C hM (fun _ => rfl) hr hlk dX7_packed_9 h
/-! Lorewick$Text.lettersOfPart(I)J -/
abbrev rc_X7_lettersOfPart : Room := { frames := 1, cells := 0, slots := 0, locals := 25 }
def fc_X7_lettersOfPart (σ : cS) (x1 : Int32) : Option (Int64 × cS) :=
  if x1 < 0 ∨ 4 ≤ x1.toNatClampNeg then none else
  if x1 < 0 ∨ 4 ≤ x1.toNatClampNeg then none else
  (fc_X7_packed σ (cI σ 12 0 x1.toNatClampNeg) (cI σ 12 1 x1.toNatClampNeg)).bind fun r_1 =>
  some (r_1.1, r_1.2)
set_option maxHeartbeats 4000000 in
set_option maxRecDepth 100000 in
theorem cc_X7_lettersOfPart (l : Launch) (D : va_G) (ca : Nat → ClassId) (A : Nat → Prop) (α : cAl) (σ : cS) (x1 : Int32) (o : Int64 × cS) (h : fc_X7_lettersOfPart σ x1 = some o) : cMet false l yX7_lettersOfPart cX7_lettersOfPart 2 ((some FieldType.long)) rc_X7_lettersOfPart 0 0 D ca true A α σ [cr α 1 (some 0), .int x1] (fun _ => some (.long o.1)) o.2 := by
  refine Met.ofW (cc := cX7_lettersOfPart) (maxL := 2) (ret := (some FieldType.long)) (by decide) rfl ?_
  intro p e s m args below meth c s₁ B hml hv
  obtain ⟨rfl, hP, hK, hD0, hSh, hA, hG⟩ := hv
  have C : cC p s m _ c cX7_lettersOfPart 2 RX7 D ca A α := ⟨B.exec, B.bytes, hml, findClass_of_methodNamed B.named, fun w hw => atoms_spec (ws := mWs yX7_lettersOfPart cX7_lettersOfPart 2 ((some FieldType.long))) B.pre w (List.mem_cons_of_mem _ hw), hK, hG⟩
  have hM : cM D ca true A s.heap σ α σ α s.heap [] := ⟨hP, hD0, hSh, va_S.rf, hA, cX.rf⟩
  have h17 : 0 < cn σ 17 := c_17 hM
  have hr := B.returns
  have hlk := B.notSynchronized
  have hx := C.1
  have hb := C.2.1
  have hl := lv_entry ([cr α 1 (some 0), .int x1]) (n := 2) (Nat.le_of_ble_eq_true rfl)
  rw [lg_entry_eq]
  generalize (lg_sl ([cr α 1 (some 0), .int x1]) ++ List.replicate (2 - (lg_sl ([cr α 1 (some 0), .int x1])).length) Slot.unset).toArray = ls at hl ⊢
  have hl : lv_has ls 2 [(0, cr α 1 (some 0)), (1, .int x1)] := hl
  unfold fc_X7_lettersOfPart at h
  refine c_aload_n (t := 1) (x := (some 0)) hx hb dX7_lettersOfPart_0 rfl (lv_at hl 0 rfl) ?_
  refine c_aload_n (t := 1) (x := (some 0)) hx hb dX7_lettersOfPart_1 rfl (lv_at hl 0 rfl) ?_
  refine c_getb C hM (k := 1) (f := 1) (j := 0) (t := 12) (hM.cst 1 0 rfl) (by decide) fl_X7_15 dX7_lettersOfPart_2 ?_
  refine lv_iload_n hx hb dX7_lettersOfPart_5 rfl (lv_at hl 1 rfl) ?_
  obtain ⟨c_1, h⟩ := ko_of h
  refine c_iald C hM (hM.cst 12 0 rfl) (by rw [hM.ln 12 0 4 (by decide)]; exact c_1) dX7_lettersOfPart_6 ?_
  refine c_aload_n (t := 1) (x := (some 0)) hx hb dX7_lettersOfPart_7 rfl (lv_at hl 0 rfl) ?_
  refine c_getb C hM (k := 1) (f := 2) (j := 1) (t := 12) (hM.cst 1 0 rfl) (by decide) fl_X7_19 dX7_lettersOfPart_8 ?_
  refine lv_iload_n hx hb dX7_lettersOfPart_11 rfl (lv_at hl 1 rfl) ?_
  obtain ⟨c_2, h⟩ := ko_of h
  refine c_iald C hM (hM.cst 12 1 rfl) (by rw [hM.ln 12 1 4 (by decide)]; exact c_2) dX7_lettersOfPart_12 ?_
  obtain ⟨r_1, hr_1, h⟩ := bd_of h
  refine c_go0 (c_rV (As := [.int (cI σ 12 0 x1.toNatClampNeg), .int (cI σ 12 1 x1.toNatClampNeg)]) (rest := []) C hM h17 (hM.cst 1 0 rfl) (by decide) (cc_X7_packed l D ca A α σ (cI σ 12 0 x1.toNatClampNeg) (cI σ 12 1 x1.toNatClampNeg) _ hr_1) cw_X7_35 ⟨rfl, rfl⟩ ⟨Nat.le_of_ble_eq_true rfl, Nat.le_of_ble_eq_true rfl⟩ rfl rfl (cats_le _ (Nat.le_of_ble_eq_true rfl)) hl.1 dX7_lettersOfPart_13 ⟨Nat.le_of_ble_eq_true rfl, Nat.le_of_ble_eq_true rfl⟩) hM (fun H locs hM => ?_)
  refine W_st (st' := [.long r_1.1]) rfl ?_
  exact c_rl C hM (fun _ => rfl) hr hlk dX7_lettersOfPart_16 h
/-! Lorewick$Text.lettersOfAll()J -/
abbrev rc_X7_lettersOfAll : Room := { frames := 1, cells := 0, slots := 0, locals := 25 }
def fc_X7_lettersOfAll (σ : cS) : Option (Int64 × cS) :=
  (fc_X7_packed σ (0 : Int32) (cI σ 1 0 3)).bind fun r_1 =>
  some (r_1.1, r_1.2)
set_option maxHeartbeats 4000000 in
set_option maxRecDepth 100000 in
theorem cc_X7_lettersOfAll (l : Launch) (D : va_G) (ca : Nat → ClassId) (A : Nat → Prop) (α : cAl) (σ : cS) (o : Int64 × cS) (h : fc_X7_lettersOfAll σ  = some o) : cMet false l yX7_lettersOfAll cX7_lettersOfAll 1 ((some FieldType.long)) rc_X7_lettersOfAll 0 0 D ca true A α σ [cr α 1 (some 0)] (fun _ => some (.long o.1)) o.2 := by
  refine Met.ofW (cc := cX7_lettersOfAll) (maxL := 1) (ret := (some FieldType.long)) (by decide) rfl ?_
  intro p e s m args below meth c s₁ B hml hv
  obtain ⟨rfl, hP, hK, hD0, hSh, hA, hG⟩ := hv
  have C : cC p s m _ c cX7_lettersOfAll 1 RX7 D ca A α := ⟨B.exec, B.bytes, hml, findClass_of_methodNamed B.named, fun w hw => atoms_spec (ws := mWs yX7_lettersOfAll cX7_lettersOfAll 1 ((some FieldType.long))) B.pre w (List.mem_cons_of_mem _ hw), hK, hG⟩
  have hM : cM D ca true A s.heap σ α σ α s.heap [] := ⟨hP, hD0, hSh, va_S.rf, hA, cX.rf⟩
  have h17 : 0 < cn σ 17 := c_17 hM
  have hr := B.returns
  have hlk := B.notSynchronized
  have hx := C.1
  have hb := C.2.1
  have hl := lv_entry ([cr α 1 (some 0)]) (n := 1) (Nat.le_of_ble_eq_true rfl)
  rw [lg_entry_eq]
  generalize (lg_sl ([cr α 1 (some 0)]) ++ List.replicate (1 - (lg_sl ([cr α 1 (some 0)])).length) Slot.unset).toArray = ls at hl ⊢
  have hl : lv_has ls 1 [(0, cr α 1 (some 0))] := hl
  unfold fc_X7_lettersOfAll at h
  refine c_aload_n (t := 1) (x := (some 0)) hx hb dX7_lettersOfAll_0 rfl (lv_at hl 0 rfl) ?_
  refine lv_iconst (v := (0 : Int32)) hx hb dX7_lettersOfAll_1 (by decide) ?_
  refine c_aload_n (t := 1) (x := (some 0)) hx hb dX7_lettersOfAll_2 rfl (lv_at hl 0 rfl) ?_
  refine c_geti C hM (k := 1) (f := 3) (hM.cst 1 0 rfl) rfl fl_X7_22 dX7_lettersOfAll_3 ?_
  obtain ⟨r_1, hr_1, h⟩ := bd_of h
  refine c_go0 (c_rV (As := [.int (0 : Int32), .int (cI σ 1 0 3)]) (rest := []) C hM h17 (hM.cst 1 0 rfl) (by decide) (cc_X7_packed l D ca A α σ (0 : Int32) (cI σ 1 0 3) _ hr_1) cw_X7_35 ⟨rfl, rfl⟩ ⟨Nat.le_of_ble_eq_true rfl, Nat.le_of_ble_eq_true rfl⟩ rfl rfl (cats_le _ (Nat.le_of_ble_eq_true rfl)) hl.1 dX7_lettersOfAll_6 ⟨Nat.le_of_ble_eq_true rfl, Nat.le_of_ble_eq_true rfl⟩) hM (fun H locs hM => ?_)
  refine W_st (st' := [.long r_1.1]) rfl ?_
  exact c_rl C hM (fun _ => rfl) hr hlk dX7_lettersOfAll_9 h
/-! Lorewick$Tree.isEmpty()Z -/
abbrev rc_X8_isEmpty : Room := { frames := 1, cells := 0, slots := 0, locals := 20 }
def fc_X8_isEmpty (σ : cS) : Option (Int32 × cS) :=
  (fc_Jx4a65c_isEmpty_aae02 σ (some 0)).bind fun r_1 =>
  if r_1.1 &&& 1 = r_1.1 then some (r_1.1, r_1.2) else none
set_option maxHeartbeats 4000000 in
set_option maxRecDepth 100000 in
theorem cc_X8_isEmpty (l : Launch) (D : va_G) (ca : Nat → ClassId) (A : Nat → Prop) (α : cAl) (σ : cS) (o : Int32 × cS) (h : fc_X8_isEmpty σ  = some o) : cMet false l yX8_isEmpty cX8_isEmpty 1 ((some FieldType.boolean)) rc_X8_isEmpty 0 0 D ca true A α σ [cr α 4 (some 0)] (fun _ => some (.int o.1)) o.2 := by
  refine Met.ofW (cc := cX8_isEmpty) (maxL := 1) (ret := (some FieldType.boolean)) (by decide) rfl ?_
  intro p e s m args below meth c s₁ B hml hv
  obtain ⟨rfl, hP, hK, hD0, hSh, hA, hG⟩ := hv
  have C : cC p s m _ c cX8_isEmpty 1 RX8 D ca A α := ⟨B.exec, B.bytes, hml, findClass_of_methodNamed B.named, fun w hw => atoms_spec (ws := mWs yX8_isEmpty cX8_isEmpty 1 ((some FieldType.boolean))) B.pre w (List.mem_cons_of_mem _ hw), hK, hG⟩
  have hM : cM D ca true A s.heap σ α σ α s.heap [] := ⟨hP, hD0, hSh, va_S.rf, hA, cX.rf⟩
  have h17 : 0 < cn σ 17 := c_17 hM
  have hr := B.returns
  have hlk := B.notSynchronized
  have hx := C.1
  have hb := C.2.1
  have hl := lv_entry ([cr α 4 (some 0)]) (n := 1) (Nat.le_of_ble_eq_true rfl)
  rw [lg_entry_eq]
  generalize (lg_sl ([cr α 4 (some 0)]) ++ List.replicate (1 - (lg_sl ([cr α 4 (some 0)])).length) Slot.unset).toArray = ls at hl ⊢
  have hl : lv_has ls 1 [(0, cr α 4 (some 0))] := hl
  unfold fc_X8_isEmpty at h
  refine c_aload_n (t := 4) (x := (some 0)) hx hb dX8_isEmpty_0 rfl (lv_at hl 0 rfl) ?_
  refine c_getb C hM (k := 4) (f := 0) (j := 0) (t := 10) (hM.cst 4 0 rfl) (by decide) fl_X8_12 dX8_isEmpty_1 ?_
  obtain ⟨r_1, hr_1, h⟩ := bd_of h
  refine c_go0 (c_rV (As := []) (rest := []) C hM h17 (hM.cst 10 0 rfl) (by decide) (cc_Jx4a65c_isEmpty_aae02 l D ca A α σ (some 0) _ hr_1) cw_X8_22 ⟨rfl, rfl⟩ ⟨Nat.le_of_ble_eq_true rfl, Nat.le_of_ble_eq_true rfl⟩ rfl rfl (cats_le _ (Nat.le_of_ble_eq_true rfl)) hl.1 dX8_isEmpty_4 ⟨Nat.le_of_ble_eq_true rfl, Nat.le_of_ble_eq_true rfl⟩) hM (fun H locs hM => ?_)
  refine W_st (st' := [.int r_1.1]) rfl ?_
  exact c_rz C hM (fun _ => rfl) hr hlk dX8_isEmpty_7 h
/-! Lorewick$Tree.isFull()Z -/
abbrev rc_X8_isFull : Room := { frames := 1, cells := 0, slots := 0, locals := 20 }
def fc_X8_isFull_17 (σ : cS) (s0 : Int32) : Option (Int32 × cS) :=
    if s0 &&& 1 = s0 then some (s0, σ) else none
set_option maxHeartbeats 4000000 in
set_option maxRecDepth 100000 in
theorem gc_X8_isFull_17 {p : Program} {l : Launch} {e : Env} {s : State} {m : MethodId} {args : Array Value} {below : List Frame} {meth : Method} {c : Code} {D : va_G} {ca : Nat → ClassId} {A : Nat → Prop} {σ0 : cS} {α : cAl} {o : Int32 × cS} (C : cC p s m args c cX8_isFull 1 RX8 D ca A α) (hr : meth.sig.returnType = (some FieldType.boolean)) (hlk : meth.locks = false) (h17 : 0 < cn σ0 17) : ∀ (σ : cS) (s0 : Int32) (H : Heap) (locs : List Loc) (ls : Array Slot), cM D ca true A s.heap σ0 α σ α H locs → lv_has ls 1 [] → fc_X8_isFull_17 σ s0 = some o → W p l e rc_X8_isFull s m args below meth c H locs 0 0 (MQ below (cQ false D ca true A α σ0 (fun _ => some (.int o.1)) o.2) args s 0 0 A) (F0 m 17 ls [.int s0]) := by
  have hx := C.1
  have hb := C.2.1
  intro σ s0 H locs ls hM hl h
  unfold fc_X8_isFull_17 at h
  exact c_rz C hM (fun _ => rfl) hr hlk dX8_isFull_17 h
def fc_X8_isFull (σ : cS) : Option (Int32 × cS) :=
  (fc_Jx4a65c_size_8abf5 σ (some 0)).bind fun r_1 =>
  if r_1.1 < (80 : Int32) then
    fc_X8_isFull_17 r_1.2 (0 : Int32)
  else
    fc_X8_isFull_17 r_1.2 (1 : Int32)
set_option maxHeartbeats 4000000 in
set_option maxRecDepth 100000 in
theorem cc_X8_isFull (l : Launch) (D : va_G) (ca : Nat → ClassId) (A : Nat → Prop) (α : cAl) (σ : cS) (o : Int32 × cS) (h : fc_X8_isFull σ  = some o) : cMet false l yX8_isFull cX8_isFull 1 ((some FieldType.boolean)) rc_X8_isFull 0 0 D ca true A α σ [cr α 4 (some 0)] (fun _ => some (.int o.1)) o.2 := by
  refine Met.ofW (cc := cX8_isFull) (maxL := 1) (ret := (some FieldType.boolean)) (by decide) rfl ?_
  intro p e s m args below meth c s₁ B hml hv
  obtain ⟨rfl, hP, hK, hD0, hSh, hA, hG⟩ := hv
  have C : cC p s m _ c cX8_isFull 1 RX8 D ca A α := ⟨B.exec, B.bytes, hml, findClass_of_methodNamed B.named, fun w hw => atoms_spec (ws := mWs yX8_isFull cX8_isFull 1 ((some FieldType.boolean))) B.pre w (List.mem_cons_of_mem _ hw), hK, hG⟩
  have hM : cM D ca true A s.heap σ α σ α s.heap [] := ⟨hP, hD0, hSh, va_S.rf, hA, cX.rf⟩
  have h17 : 0 < cn σ 17 := c_17 hM
  have hr := B.returns
  have hlk := B.notSynchronized
  have hx := C.1
  have hb := C.2.1
  have hl := lv_entry ([cr α 4 (some 0)]) (n := 1) (Nat.le_of_ble_eq_true rfl)
  rw [lg_entry_eq]
  generalize (lg_sl ([cr α 4 (some 0)]) ++ List.replicate (1 - (lg_sl ([cr α 4 (some 0)])).length) Slot.unset).toArray = ls at hl ⊢
  have hl : lv_has ls 1 [(0, cr α 4 (some 0))] := hl
  unfold fc_X8_isFull at h
  refine c_aload_n (t := 4) (x := (some 0)) hx hb dX8_isFull_0 rfl (lv_at hl 0 rfl) ?_
  refine c_getb C hM (k := 4) (f := 0) (j := 0) (t := 10) (hM.cst 4 0 rfl) (by decide) fl_X8_12 dX8_isFull_1 ?_
  obtain ⟨r_1, hr_1, h⟩ := bd_of h
  refine c_go0 (c_rV (As := []) (rest := []) C hM h17 (hM.cst 10 0 rfl) (by decide) (cc_Jx4a65c_size_8abf5 l D ca A α σ (some 0) _ hr_1) cw_X8_26 ⟨rfl, rfl⟩ ⟨Nat.le_of_ble_eq_true rfl, Nat.le_of_ble_eq_true rfl⟩ rfl rfl (cats_le _ (Nat.le_of_ble_eq_true rfl)) hl.1 dX8_isFull_4 ⟨Nat.le_of_ble_eq_true rfl, Nat.le_of_ble_eq_true rfl⟩) hM (fun H locs hM => ?_)
  refine W_st (st' := [.int r_1.1]) rfl ?_
  refine lv_bipush (v := (80 : Int32)) hx hb dX8_isFull_7 (by decide) ?_
  refine lv_icmp_lt (tgt := 16) hx hb dX8_isFull_9 (by decide) (fun c_1 => ?_) (fun c_1 => ?_)
  · have h := br_T c_1 h
    refine lv_iconst (v := (0 : Int32)) hx hb dX8_isFull_16 (by decide) ?_
    exact gc_X8_isFull_17 C hr hlk h17  _ _ _ _ _ hM (lv_sub hl [] rfl) h
  · have h := br_F c_1 h
    refine lv_iconst (v := (1 : Int32)) hx hb dX8_isFull_12 (by decide) ?_
    refine lv_goto (tgt := 17) hx hb dX8_isFull_13 (by decide) ?_
    exact gc_X8_isFull_17 C hr hlk h17  _ _ _ _ _ hM (lv_sub hl [] rfl) h
/-! Lorewick$Tree.has(I)Z -/
abbrev rc_X8_has : Room := { frames := 1, cells := 0, slots := 0, locals := 20 }
def fc_X8_has_20 (σ : cS) (s0 : Int32) : Option (Int32 × cS) :=
    if s0 &&& 1 = s0 then some (s0, σ) else none
set_option maxHeartbeats 4000000 in
set_option maxRecDepth 100000 in
theorem gc_X8_has_20 {p : Program} {l : Launch} {e : Env} {s : State} {m : MethodId} {args : Array Value} {below : List Frame} {meth : Method} {c : Code} {D : va_G} {ca : Nat → ClassId} {A : Nat → Prop} {σ0 : cS} {α : cAl} {o : Int32 × cS} (C : cC p s m args c cX8_has 2 RX8 D ca A α) (hr : meth.sig.returnType = (some FieldType.boolean)) (hlk : meth.locks = false) (h17 : 0 < cn σ0 17) : ∀ (σ : cS) (s0 : Int32) (H : Heap) (locs : List Loc) (ls : Array Slot), cM D ca true A s.heap σ0 α σ α H locs → lv_has ls 2 [] → fc_X8_has_20 σ s0 = some o → W p l e rc_X8_has s m args below meth c H locs 0 0 (MQ below (cQ false D ca true A α σ0 (fun _ => some (.int o.1)) o.2) args s 0 0 A) (F0 m 20 ls [.int s0]) := by
  have hx := C.1
  have hb := C.2.1
  intro σ s0 H locs ls hM hl h
  unfold fc_X8_has_20 at h
  exact c_rz C hM (fun _ => rfl) hr hlk dX8_has_20 h
def fc_X8_has_19 (σ : cS) : Option (Int32 × cS) :=
    fc_X8_has_20 σ (0 : Int32)
set_option maxHeartbeats 4000000 in
set_option maxRecDepth 100000 in
theorem gc_X8_has_19 {p : Program} {l : Launch} {e : Env} {s : State} {m : MethodId} {args : Array Value} {below : List Frame} {meth : Method} {c : Code} {D : va_G} {ca : Nat → ClassId} {A : Nat → Prop} {σ0 : cS} {α : cAl} {o : Int32 × cS} (C : cC p s m args c cX8_has 2 RX8 D ca A α) (hr : meth.sig.returnType = (some FieldType.boolean)) (hlk : meth.locks = false) (h17 : 0 < cn σ0 17) : ∀ (σ : cS) (H : Heap) (locs : List Loc) (ls : Array Slot), cM D ca true A s.heap σ0 α σ α H locs → lv_has ls 2 [] → fc_X8_has_19 σ = some o → W p l e rc_X8_has s m args below meth c H locs 0 0 (MQ below (cQ false D ca true A α σ0 (fun _ => some (.int o.1)) o.2) args s 0 0 A) (F0 m 19 ls []) := by
  have hx := C.1
  have hb := C.2.1
  intro σ H locs ls hM hl h
  unfold fc_X8_has_19 at h
  refine lv_iconst (v := (0 : Int32)) hx hb dX8_has_19 (by decide) ?_
  exact gc_X8_has_20 C hr hlk h17  _ _ _ _ _ hM (lv_sub hl [] rfl) h
def fc_X8_has (σ : cS) (x1 : Int32) : Option (Int32 × cS) :=
  if x1 < 0 then
    fc_X8_has_19 σ
  else
    (fc_Jx4a65c_size_8abf5 σ (some 0)).bind fun r_1 =>
    if r_1.1 ≤ x1 then
      fc_X8_has_19 r_1.2
    else
      fc_X8_has_20 r_1.2 (1 : Int32)
set_option maxHeartbeats 4000000 in
set_option maxRecDepth 100000 in
theorem cc_X8_has (l : Launch) (D : va_G) (ca : Nat → ClassId) (A : Nat → Prop) (α : cAl) (σ : cS) (x1 : Int32) (o : Int32 × cS) (h : fc_X8_has σ x1 = some o) : cMet false l yX8_has cX8_has 2 ((some FieldType.boolean)) rc_X8_has 0 0 D ca true A α σ [cr α 4 (some 0), .int x1] (fun _ => some (.int o.1)) o.2 := by
  refine Met.ofW (cc := cX8_has) (maxL := 2) (ret := (some FieldType.boolean)) (by decide) rfl ?_
  intro p e s m args below meth c s₁ B hml hv
  obtain ⟨rfl, hP, hK, hD0, hSh, hA, hG⟩ := hv
  have C : cC p s m _ c cX8_has 2 RX8 D ca A α := ⟨B.exec, B.bytes, hml, findClass_of_methodNamed B.named, fun w hw => atoms_spec (ws := mWs yX8_has cX8_has 2 ((some FieldType.boolean))) B.pre w (List.mem_cons_of_mem _ hw), hK, hG⟩
  have hM : cM D ca true A s.heap σ α σ α s.heap [] := ⟨hP, hD0, hSh, va_S.rf, hA, cX.rf⟩
  have h17 : 0 < cn σ 17 := c_17 hM
  have hr := B.returns
  have hlk := B.notSynchronized
  have hx := C.1
  have hb := C.2.1
  have hl := lv_entry ([cr α 4 (some 0), .int x1]) (n := 2) (Nat.le_of_ble_eq_true rfl)
  rw [lg_entry_eq]
  generalize (lg_sl ([cr α 4 (some 0), .int x1]) ++ List.replicate (2 - (lg_sl ([cr α 4 (some 0), .int x1])).length) Slot.unset).toArray = ls at hl ⊢
  have hl : lv_has ls 2 [(0, cr α 4 (some 0)), (1, .int x1)] := hl
  unfold fc_X8_has at h
  refine lv_iload_n hx hb dX8_has_0 rfl (lv_at hl 1 rfl) ?_
  refine lv_if_lt (tgt := 19) hx hb dX8_has_1 (by decide) (fun c_1 => ?_) (fun c_1 => ?_)
  · have h := br_T c_1 h
    exact gc_X8_has_19 C hr hlk h17  _ _ _ _ hM (lv_sub hl [] rfl) h
  · have h := br_F c_1 h
    refine lv_iload_n hx hb dX8_has_4 rfl (lv_at hl 1 rfl) ?_
    refine c_aload_n (t := 4) (x := (some 0)) hx hb dX8_has_5 rfl (lv_at hl 0 rfl) ?_
    refine c_getb C hM (k := 4) (f := 0) (j := 0) (t := 10) (hM.cst 4 0 rfl) (by decide) fl_X8_12 dX8_has_6 ?_
    obtain ⟨r_1, hr_1, h⟩ := bd_of h
    refine c_go0 (c_rV (As := []) (rest := [.int x1]) C hM h17 (hM.cst 10 0 rfl) (by decide) (cc_Jx4a65c_size_8abf5 l D ca A α σ (some 0) _ hr_1) cw_X8_26 ⟨rfl, rfl⟩ ⟨Nat.le_of_ble_eq_true rfl, Nat.le_of_ble_eq_true rfl⟩ rfl rfl (cats_le _ (Nat.le_of_ble_eq_true rfl)) hl.1 dX8_has_9 ⟨Nat.le_of_ble_eq_true rfl, Nat.le_of_ble_eq_true rfl⟩) hM (fun H locs hM => ?_)
    refine W_st (st' := [.int r_1.1, .int x1]) rfl ?_
    refine lv_icmp_ge (tgt := 19) hx hb dX8_has_12 (by decide) (fun c_2 => ?_) (fun c_2 => ?_)
    · have h := br_T c_2 h
      exact gc_X8_has_19 C hr hlk h17  _ _ _ _ hM (lv_sub hl [] rfl) h
    · have h := br_F c_2 h
      refine lv_iconst (v := (1 : Int32)) hx hb dX8_has_15 (by decide) ?_
      refine lv_goto (tgt := 20) hx hb dX8_has_16 (by decide) ?_
      exact gc_X8_has_20 C hr hlk h17  _ _ _ _ _ hM (lv_sub hl [] rfl) h
/-! Lorewick$Tree.current()LLorewick$Node; -/
abbrev rc_X8_current : Room := { frames := 4, cells := 0, slots := 0, locals := 102 }
def fc_X8_current (σ : cS) : Option (Option Nat × cS) :=
  (fc_Jx4a65c_get_915e3 σ (some 0) (cI σ 4 0 2) 7).bind fun r_1 =>
  if ¬ (lvq r_1.2 7 r_1.1 = true) then none else
  some (r_1.1, r_1.2)
set_option maxHeartbeats 4000000 in
set_option maxRecDepth 100000 in
theorem cc_X8_current (l : Launch) (D : va_G) (ca : Nat → ClassId) (A : Nat → Prop) (α : cAl) (σ : cS) (o : Option Nat × cS) (h : fc_X8_current σ  = some o) : cMet false l yX8_current cX8_current 1 ((some (FieldType.object "Lorewick$Node"))) rc_X8_current 0 0 D ca true A α σ [cr α 4 (some 0)] (fun α1 => some (cr α1 7 o.1)) o.2 := by
  refine Met.ofW (cc := cX8_current) (maxL := 1) (ret := (some (FieldType.object "Lorewick$Node"))) (by decide) rfl ?_
  intro p e s m args below meth c s₁ B hml hv
  obtain ⟨rfl, hP, hK, hD0, hSh, hA, hG⟩ := hv
  have C : cC p s m _ c cX8_current 1 RX8 D ca A α := ⟨B.exec, B.bytes, hml, findClass_of_methodNamed B.named, fun w hw => atoms_spec (ws := mWs yX8_current cX8_current 1 ((some (FieldType.object "Lorewick$Node")))) B.pre w (List.mem_cons_of_mem _ hw), hK, hG⟩
  have hM : cM D ca true A s.heap σ α σ α s.heap [] := ⟨hP, hD0, hSh, va_S.rf, hA, cX.rf⟩
  have h17 : 0 < cn σ 17 := c_17 hM
  have hr := B.returns
  have hlk := B.notSynchronized
  have hx := C.1
  have hb := C.2.1
  have hl := lv_entry ([cr α 4 (some 0)]) (n := 1) (Nat.le_of_ble_eq_true rfl)
  rw [lg_entry_eq]
  generalize (lg_sl ([cr α 4 (some 0)]) ++ List.replicate (1 - (lg_sl ([cr α 4 (some 0)])).length) Slot.unset).toArray = ls at hl ⊢
  have hl : lv_has ls 1 [(0, cr α 4 (some 0))] := hl
  unfold fc_X8_current at h
  refine c_aload_n (t := 4) (x := (some 0)) hx hb dX8_current_0 rfl (lv_at hl 0 rfl) ?_
  refine c_getb C hM (k := 4) (f := 0) (j := 0) (t := 10) (hM.cst 4 0 rfl) (by decide) fl_X8_12 dX8_current_1 ?_
  refine c_aload_n (t := 4) (x := (some 0)) hx hb dX8_current_4 rfl (lv_at hl 0 rfl) ?_
  refine c_geti C hM (k := 4) (f := 2) (hM.cst 4 0 rfl) rfl fl_X8_30 dX8_current_5 ?_
  obtain ⟨r_1, hr_1, h⟩ := bd_of h
  refine c_go0 (c_rV (As := [.int (cI σ 4 0 2)]) (rest := []) C hM h17 (hM.cst 10 0 rfl) (by decide) (cc_Jx4a65c_get_915e3 l D ca A α σ (some 0) (cI σ 4 0 2) 7 _ hr_1) cw_X8_34 ⟨rfl, rfl⟩ ⟨Nat.le_of_ble_eq_true rfl, Nat.le_of_ble_eq_true rfl⟩ rfl rfl (cats_le _ (Nat.le_of_ble_eq_true rfl)) hl.1 dX8_current_8 ⟨Nat.le_of_ble_eq_true rfl, Nat.le_of_ble_eq_true rfl⟩) hM (fun H locs hM => ?_)
  refine W_st (st' := [cr α 7 r_1.1]) rfl ?_
  obtain ⟨c_1, h⟩ := ko_of h
  refine c_castk C hM (k := 7) (Classical.not_not.mp c_1) (by decide) kl_X8_38 dX8_current_11 ?_
  exact c_ra (k := 7) (v := r_1.1) C hM (fun _ => rfl) hr rfl hlk dX8_current_14 h
