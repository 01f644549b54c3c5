/-! The class's methods: what each makes of the state (fc_..), as the bytecode has it; and that it does (cc_..). -/
theorem cw_X3_70 : cCallV RX3 70 (cRn 3) yX3_isInReach cX3_isInReach 4 ((some FieldType.boolean)) 3 := ⟨⟨wl_in (i := 464) (by decide +kernel), wl_in (i := 465) (by decide +kernel), wl_in (i := 466) (by decide +kernel), wl_in (i := 5) (by decide +kernel), wl_in (i := 467) (by decide +kernel)⟩, rfl, by decide, by decide, by decide +kernel⟩
theorem fl_X3_74 : Cond.fieldLink RX3 74 (cTt 2 7).1 (cTt 2 7).2.1 (cTt 2 7).2.2.1 ∈ wl := wl_in (i := 103) (by decide +kernel)
theorem cw_X3_62 : cCallV RX3 62 (cRn 3) yX3_hasLight cX3_hasLight 3 ((some FieldType.boolean)) 1 := ⟨⟨wl_in (i := 422) (by decide +kernel), wl_in (i := 423) (by decide +kernel), wl_in (i := 424) (by decide +kernel), wl_in (i := 5) (by decide +kernel), wl_in (i := 425) (by decide +kernel)⟩, rfl, by decide, by decide, by decide +kernel⟩
theorem fl_X3_66 : Cond.fieldLink RX3 66 (cTt 2 3).1 (cTt 2 3).2.1 (cTt 2 3).2.2.1 ∈ wl := wl_in (i := 91) (by decide +kernel)
theorem fl_X10_67 : Cond.fieldLink RX10 67 (cTt 2 13).1 (cTt 2 13).2.1 (cTt 2 13).2.2.1 ∈ wl := wl_in (i := 120) (by decide +kernel)
theorem fl_X3_81 : Cond.fieldLink RX3 81 (cTt 2 9).1 (cTt 2 9).2.1 (cTt 2 9).2.2.1 ∈ wl := wl_in (i := 109) (by decide +kernel)
theorem cw_X3_77 : cCallV RX3 77 (cRn 2) yX10_hasThing cX10_hasThing 2 ((some FieldType.boolean)) 1 := ⟨⟨wl_in (i := 442) (by decide +kernel), wl_in (i := 443) (by decide +kernel), wl_in (i := 444) (by decide +kernel), wl_in (i := 3) (by decide +kernel), wl_in (i := 445) (by decide +kernel)⟩, rfl, by decide, by decide, by decide +kernel⟩
theorem fl_X3_84 : Cond.fieldLink RX3 84 (cTt 2 16).1 (cTt 2 16).2.1 (cTt 2 16).2.2.1 ∈ wl := wl_in (i := 128) (by decide +kernel)
theorem fl_X3_87 : Cond.fieldLink RX3 87 (cTt 2 14).1 (cTt 2 14).2.1 (cTt 2 14).2.2.1 ∈ wl := wl_in (i := 123) (by decide +kernel)
theorem fl_X3_90 : Cond.fieldLink RX3 90 (cTt 2 15).1 (cTt 2 15).2.1 (cTt 2 15).2.2.1 ∈ wl := wl_in (i := 126) (by decide +kernel)
theorem fl_X3_96 : Cond.fieldLink RX3 96 (cTt 2 4).1 (cTt 2 4).2.1 (cTt 2 4).2.2.1 ∈ wl := wl_in (i := 95) (by decide +kernel)
theorem fl_X3_93 : Cond.fieldLink RX3 93 (cTt 2 5).1 (cTt 2 5).2.1 (cTt 2 5).2.2.1 ∈ wl := wl_in (i := 98) (by decide +kernel)
theorem cw_X3_112 : cCallV RX3 112 (cRn 3) yX3_roomBehind cX3_roomBehind 6 ((some FieldType.int)) 3 := ⟨⟨wl_in (i := 456) (by decide +kernel), wl_in (i := 457) (by decide +kernel), wl_in (i := 458) (by decide +kernel), wl_in (i := 5) (by decide +kernel), wl_in (i := 459) (by decide +kernel)⟩, rfl, by decide, by decide, by decide +kernel⟩
theorem fl_X3_105 : Cond.fieldLink RX3 105 (cTt 2 6).1 (cTt 2 6).2.1 (cTt 2 6).2.2.1 ∈ wl := wl_in (i := 101) (by decide +kernel)
theorem cw_X3_108 : cCallV RX3 108 (cRn 3) yX3_goFurther cX3_goFurther 6 ((none : Option FieldType)) 2 := ⟨⟨wl_in (i := 1527) (by decide +kernel), wl_in (i := 1528) (by decide +kernel), wl_in (i := 1529) (by decide +kernel), wl_in (i := 5) (by decide +kernel), wl_in (i := 1530) (by decide +kernel)⟩, rfl, by decide, by decide, by decide +kernel⟩
theorem cw_X3_99 : mCallS RX3 99 yJ7_fill_53178 cJ7_fill_53178 4 ((none : Option FieldType)) 2 := ⟨⟨wl_in (i := 1526) (by decide +kernel), wl_in (i := 81) (by decide +kernel), wl_in (i := 4) (by decide +kernel), wl_in (i := 82) (by decide +kernel)⟩, by decide, by decide, by decide +kernel⟩
theorem cw_X3_169 : cCallV RX3 169 (cRn 3) yX3_carriedWeight cX3_carriedWeight 5 ((some FieldType.int)) 1 := ⟨⟨wl_in (i := 438) (by decide +kernel), wl_in (i := 439) (by decide +kernel), wl_in (i := 440) (by decide +kernel), wl_in (i := 5) (by decide +kernel), wl_in (i := 441) (by decide +kernel)⟩, rfl, by decide, by decide, by decide +kernel⟩
/-! Lorewick$Rules.wordsShown(LLorewick$State;)J -/
abbrev rc_X3_wordsShown : Room := { frames := 3, cells := 0, slots := 0, locals := 70 }
def fc_X3_wordsShown_68 (k_30 : cS → Option Nat → Int32 → Int64 → Int32 → Option (Int64 × cS)) (σ : cS) (x1 : Option Nat) (x2 : Int32) (x3 : Int64) (x5 : Int32) : Option (Int64 × cS) :=
    k_30 σ x1 x2 x3 (x5 + (1 : Int32))
set_option maxHeartbeats 4000000 in
set_option maxRecDepth 100000 in
theorem gc_X3_wordsShown_68 {p : Program} {l : Launch} {e : Env} {s : State} {m : MethodId} {args : Array Value} {below : List Frame} {meth : Method} {c : Code} {D : va_G} {ca : Nat → ClassId} {A : Nat → Prop} {σ0 : cS} {α : cAl} {o : Int64 × cS} {k_30 : cS → Option Nat → Int32 → Int64 → Int32 → Option (Int64 × cS)} (C : cC p s m args c cX3_wordsShown 6 RX3 D ca A α) (hr : meth.sig.returnType = (some FieldType.long)) (hlk : meth.locks = false) (h17 : 0 < cn σ0 17) (hk_30 : ∀ (σ : cS) (x1 : Option Nat) (x2 : Int32) (x3 : Int64) (x5 : Int32) (H : Heap) (locs : List Loc) (ls : Array Slot), cM D ca true A s.heap σ0 α σ α H locs → lv_has ls 6 [(0, cr α 3 (some 0)), (1, cr α 6 x1), (2, .int x2), (3, .long x3), (5, .int x5)] → k_30 σ x1 x2 x3 x5 = some o → W p l e rc_X3_wordsShown s m args below meth c H locs 0 0 (MQ below (cQ false D ca true A α σ0 (fun _ => some (.long o.1)) o.2) args s 0 0 A) (F0 m 30 ls [])) : ∀ (σ : cS) (x1 : Option Nat) (x2 : Int32) (x3 : Int64) (x5 : Int32) (H : Heap) (locs : List Loc) (ls : Array Slot), cM D ca true A s.heap σ0 α σ α H locs → lv_has ls 6 [(0, cr α 3 (some 0)), (1, cr α 6 x1), (2, .int x2), (3, .long x3), (5, .int x5)] → fc_X3_wordsShown_68 k_30 σ x1 x2 x3 x5 = some o → W p l e rc_X3_wordsShown s m args below meth c H locs 0 0 (MQ below (cQ false D ca true A α σ0 (fun _ => some (.long o.1)) o.2) args s 0 0 A) (F0 m 68 ls []) := by
  have hx := C.1
  have hb := C.2.1
  intro σ x1 x2 x3 x5 H locs ls hM hl h
  unfold fc_X3_wordsShown_68 at h
  refine lv_iinc (v := (x5 + (1 : Int32))) (lv' := [(5, .int (x5 + (1 : Int32))), (0, cr α 3 (some 0)), (1, cr α 6 x1), (2, .int x2), (3, .long x3)]) hx hb dX3_wordsShown_68 hl (k := 4) rfl rfl (by decide) rfl (fun ls hl => ?_)
  refine lv_goto (tgt := 30) hx hb dX3_wordsShown_71 (by decide) ?_
  exact hk_30 _ _ _ _ _ _ _ _ hM (lv_sub hl [1, 2, 3, 4, 0] rfl) h
def fc_X3_wordsShown_30 : Nat → cS → Option Nat → Int32 → Int64 → Int32 → Option (Int64 × cS)
  | 0, _, _, _, _, _ => none
  | n + 1, σ, x1, x2, x3, x5 =>
    if (cI σ 2 0 13) ≤ x5 then
      some (x3, σ)
    else
      (fc_X3_isInReach σ x1 x5 x2).bind fun r_1 =>
      if r_1.1 = 0 then
        fc_X3_wordsShown_68 (fc_X3_wordsShown_30 n) r_1.2 x1 x2 x3 x5
      else
        if x5 < 0 ∨ 12 ≤ x5.toNatClampNeg then none else
        fc_X3_wordsShown_68 (fc_X3_wordsShown_30 n) r_1.2 x1 x2 (x3 ||| ((1 : Int64) <<< ((cI r_1.2 12 4 x5.toNatClampNeg).toInt64 &&& 63))) x5
set_option maxHeartbeats 4000000 in
set_option maxRecDepth 100000 in
theorem gc_X3_wordsShown_30 {p : Program} {l : Launch} {e : Env} {s : State} {m : MethodId} {args : Array Value} {below : List Frame} {meth : Method} {c : Code} {D : va_G} {ca : Nat → ClassId} {A : Nat → Prop} {σ0 : cS} {α : cAl} {o : Int64 × cS} (C : cC p s m args c cX3_wordsShown 6 RX3 D ca A α) (hr : meth.sig.returnType = (some FieldType.long)) (hlk : meth.locks = false) (h17 : 0 < cn σ0 17) : ∀ (n : Nat) (σ : cS) (x1 : Option Nat) (x2 : Int32) (x3 : Int64) (x5 : Int32) (H : Heap) (locs : List Loc) (ls : Array Slot), cM D ca true A s.heap σ0 α σ α H locs → lv_has ls 6 [(0, cr α 3 (some 0)), (1, cr α 6 x1), (2, .int x2), (3, .long x3), (5, .int x5)] → fc_X3_wordsShown_30 n σ x1 x2 x3 x5 = some o → W p l e rc_X3_wordsShown s m args below meth c H locs 0 0 (MQ below (cQ false D ca true A α σ0 (fun _ => some (.long o.1)) o.2) args s 0 0 A) (F0 m 30 ls []) := by
  have hx := C.1
  have hb := C.2.1
  intro n
  induction n with
  | zero =>
    intro σ x1 x2 x3 x5 H locs ls hM hl h
    cases h
  | succ n ih =>
    intro σ x1 x2 x3 x5 H locs ls hM hl h
    rw [fc_X3_wordsShown_30] at h
    refine lv_iload hx hb dX3_wordsShown_30 (lv_at hl 4 rfl) ?_
    refine c_aload_n (t := 3) (x := (some 0)) hx hb dX3_wordsShown_32 rfl (lv_at hl 0 rfl) ?_
    refine c_getb C hM (k := 3) (f := 0) (j := 0) (t := 2) (hM.cst 3 0 rfl) (by decide) fl_X3_15 dX3_wordsShown_33 ?_
    refine c_geti C hM (k := 2) (f := 13) (hM.cst 2 0 rfl) rfl fl_X3_41 dX3_wordsShown_36 ?_
    refine lv_icmp_ge (tgt := 74) hx hb dX3_wordsShown_39 (by decide) (fun c_1 => ?_) (fun c_1 => ?_)
    · have h := br_T c_1 h
      refine lv_lload_n hx hb dX3_wordsShown_74 rfl (lv_at hl 3 rfl) ?_
      exact c_rl C hM (fun _ => rfl) hr hlk dX3_wordsShown_75 h
    · have h := br_F c_1 h
      refine c_aload_n (t := 3) (x := (some 0)) hx hb dX3_wordsShown_42 rfl (lv_at hl 0 rfl) ?_
      refine c_aload_n (t := 6) (x := x1) hx hb dX3_wordsShown_43 rfl (lv_at hl 1 rfl) ?_
      refine lv_iload hx hb dX3_wordsShown_44 (lv_at hl 4 rfl) ?_
      refine lv_iload_n hx hb dX3_wordsShown_46 rfl (lv_at hl 2 rfl) ?_
      obtain ⟨r_1, hr_1, h⟩ := bd_of h
      refine c_go0 (c_rV (As := [cr α 6 x1, .int x5, .int x2]) (rest := []) C hM h17 (hM.cst 3 0 rfl) (by decide) (cc_X3_isInReach l D ca A α σ x1 x5 x2 _ hr_1) cw_X3_70 ⟨rfl, rfl⟩ ⟨Nat.le_of_ble_eq_true rfl, Nat.le_of_ble_eq_true rfl⟩ rfl rfl (cats_le _ (Nat.le_of_ble_eq_true rfl)) hl.1 dX3_wordsShown_47 ⟨Nat.le_of_ble_eq_true rfl, Nat.le_of_ble_eq_true rfl⟩) hM (fun H locs hM => ?_)
      refine W_st (st' := [.int r_1.1]) rfl ?_
      refine lv_if_eq (tgt := 68) hx hb dX3_wordsShown_50 (by decide) (fun c_2 => ?_) (fun c_2 => ?_)
      · have h := br_T c_2 h
        exact gc_X3_wordsShown_68 C hr hlk h17 ih _ _ _ _ _ _ _ _ hM (lv_sub hl [0, 1, 2, 3, 4] rfl) h
      · have h := br_F c_2 h
        refine lv_lload_n hx hb dX3_wordsShown_53 rfl (lv_at hl 3 rfl) ?_
        refine lv_lconst (v := (1 : Int64)) hx hb dX3_wordsShown_54 (by decide) ?_
        refine c_aload_n (t := 3) (x := (some 0)) hx hb dX3_wordsShown_55 rfl (lv_at hl 0 rfl) ?_
        refine c_getb C hM (k := 3) (f := 0) (j := 0) (t := 2) (hM.cst 3 0 rfl) (by decide) fl_X3_15 dX3_wordsShown_56 ?_
        refine c_getb C hM (k := 2) (f := 7) (j := 4) (t := 12) (hM.cst 2 0 rfl) (by decide) fl_X3_74 dX3_wordsShown_59 ?_
        refine lv_iload hx hb dX3_wordsShown_62 (lv_at hl 4 rfl) ?_
        obtain ⟨c_3, h⟩ := ko_of h
        refine c_iald C hM (hM.cst 12 4 rfl) (by rw [hM.ln 12 4 12 (by decide)]; exact c_3) dX3_wordsShown_64 ?_
        refine lv_lshl (v := ((1 : Int64) <<< ((cI r_1.2 12 4 x5.toNatClampNeg).toInt64 &&& 63))) hx hb dX3_wordsShown_65 rfl ?_
        refine lv_lor hx hb dX3_wordsShown_66 ?_
        refine lv_lstore_n (lv' := [(3, .long (x3 ||| ((1 : Int64) <<< ((cI r_1.2 12 4 x5.toNatClampNeg).toInt64 &&& 63)))), (0, cr α 3 (some 0)), (1, cr α 6 x1), (2, .int x2), (5, .int x5)]) hx hb dX3_wordsShown_67 rfl hl (by decide) rfl (fun ls hl => ?_)
        exact gc_X3_wordsShown_68 C hr hlk h17 ih _ _ _ _ _ _ _ _ hM (lv_sub hl [1, 2, 3, 0, 4] rfl) h
def fc_X3_wordsShown_26 (σ : cS) (x1 : Option Nat) (x2 : Int32) (s0 : Int64) : Option (Int64 × cS) :=
    fc_X3_wordsShown_30 3000 σ x1 x2 s0 (0 : Int32)
set_option maxHeartbeats 4000000 in
set_option maxRecDepth 100000 in
theorem gc_X3_wordsShown_26 {p : Program} {l : Launch} {e : Env} {s : State} {m : MethodId} {args : Array Value} {below : List Frame} {meth : Method} {c : Code} {D : va_G} {ca : Nat → ClassId} {A : Nat → Prop} {σ0 : cS} {α : cAl} {o : Int64 × cS} (C : cC p s m args c cX3_wordsShown 6 RX3 D ca A α) (hr : meth.sig.returnType = (some FieldType.long)) (hlk : meth.locks = false) (h17 : 0 < cn σ0 17) : ∀ (σ : cS) (x1 : Option Nat) (x2 : Int32) (s0 : Int64) (H : Heap) (locs : List Loc) (ls : Array Slot), cM D ca true A s.heap σ0 α σ α H locs → lv_has ls 6 [(0, cr α 3 (some 0)), (1, cr α 6 x1), (2, .int x2)] → fc_X3_wordsShown_26 σ x1 x2 s0 = some o → W p l e rc_X3_wordsShown s m args below meth c H locs 0 0 (MQ below (cQ false D ca true A α σ0 (fun _ => some (.long o.1)) o.2) args s 0 0 A) (F0 m 26 ls [.long s0]) := by
  have hx := C.1
  have hb := C.2.1
  intro σ x1 x2 s0 H locs ls hM hl h
  unfold fc_X3_wordsShown_26 at h
  refine lv_lstore_n (lv' := [(3, .long s0), (0, cr α 3 (some 0)), (1, cr α 6 x1), (2, .int x2)]) hx hb dX3_wordsShown_26 rfl hl (by decide) rfl (fun ls hl => ?_)
  refine lv_iconst (v := (0 : Int32)) hx hb dX3_wordsShown_27 (by decide) ?_
  refine lv_istore (lv' := [(5, .int (0 : Int32)), (3, .long s0), (0, cr α 3 (some 0)), (1, cr α 6 x1), (2, .int x2)]) hx hb dX3_wordsShown_28 hl (by decide) rfl (fun ls hl => ?_)
  exact gc_X3_wordsShown_30 C hr hlk h17  _ _ _ _ _ _ _ _ _ hM (lv_sub hl [2, 3, 4, 1, 0] rfl) h
def fc_X3_wordsShown (σ : cS) (x1 : Option Nat) : Option (Int64 × cS) :=
  (fc_X3_hasLight σ x1).bind fun r_1 =>
  if r_1.1 = 0 then
    fc_X3_wordsShown_26 r_1.2 x1 r_1.1 (0 : Int64)
  else
    (dr r_1.2 6 x1).bind fun i_2 =>
    if (cI r_1.2 6 i_2 0) < 0 ∨ 12 ≤ (cI r_1.2 6 i_2 0).toNatClampNeg then none else
    fc_X3_wordsShown_26 r_1.2 x1 r_1.1 (cJ r_1.2 15 1 (cI r_1.2 6 i_2 0).toNatClampNeg)
set_option maxHeartbeats 4000000 in
set_option maxRecDepth 100000 in
theorem cc_X3_wordsShown (l : Launch) (D : va_G) (ca : Nat → ClassId) (A : Nat → Prop) (α : cAl) (σ : cS) (x1 : Option Nat) (o : Int64 × cS) (h : fc_X3_wordsShown σ x1 = some o) : cMet false l yX3_wordsShown cX3_wordsShown 6 ((some FieldType.long)) rc_X3_wordsShown 0 0 D ca true A α σ [cr α 3 (some 0), cr α 6 x1] (fun _ => some (.long o.1)) o.2 := by
  refine Met.ofW (cc := cX3_wordsShown) (maxL := 6) (ret := (some FieldType.long)) (by decide) rfl ?_
  intro p e s m args below meth c s₁ B hml hv
  obtain ⟨rfl, hP, hK, hD0, hSh, hA, hG⟩ := hv
  have C : cC p s m _ c cX3_wordsShown 6 RX3 D ca A α := ⟨B.exec, B.bytes, hml, findClass_of_methodNamed B.named, fun w hw => atoms_spec (ws := mWs yX3_wordsShown cX3_wordsShown 6 ((some FieldType.long))) B.pre w (List.mem_cons_of_mem _ hw), hK, hG⟩
  have hM : cM D ca true A s.heap σ α σ α s.heap [] := ⟨hP, hD0, hSh, va_S.rf, hA, cX.rf⟩
  have h17 : 0 < cn σ 17 := c_17 hM
  have hr := B.returns
  have hlk := B.notSynchronized
  have hx := C.1
  have hb := C.2.1
  have hl := lv_entry ([cr α 3 (some 0), cr α 6 x1]) (n := 6) (by simp [lg_r, lg_i, lg_l, lg_n])
  rw [lg_entry_eq]
  generalize (lg_sl ([cr α 3 (some 0), cr α 6 x1]) ++ List.replicate (6 - (lg_sl ([cr α 3 (some 0), cr α 6 x1])).length) Slot.unset).toArray = ls at hl ⊢
  have hl : lv_has ls 6 [(0, cr α 3 (some 0)), (1, cr α 6 x1)] := (lv_to hl (by simp only [la_r, la_i, la_l, la_n]))
  unfold fc_X3_wordsShown at h
  refine c_aload_n (t := 3) (x := (some 0)) hx hb dX3_wordsShown_0 rfl (lv_at hl 0 rfl) ?_
  refine c_aload_n (t := 6) (x := x1) hx hb dX3_wordsShown_1 rfl (lv_at hl 1 rfl) ?_
  obtain ⟨r_1, hr_1, h⟩ := bd_of h
  refine c_go0 (c_rV (As := [cr α 6 x1]) (rest := []) C hM h17 (hM.cst 3 0 rfl) (by decide) (cc_X3_hasLight l D ca A α σ x1 _ hr_1) cw_X3_62 ⟨rfl, rfl⟩ ⟨Nat.le_of_ble_eq_true rfl, Nat.le_of_ble_eq_true rfl⟩ rfl rfl (cats_le _ (Nat.le_of_ble_eq_true rfl)) hl.1 dX3_wordsShown_2 ⟨Nat.le_of_ble_eq_true rfl, Nat.le_of_ble_eq_true rfl⟩) hM (fun H locs hM => ?_)
  refine W_st (st' := [.int r_1.1]) rfl ?_
  refine lv_istore_n (lv' := [(2, .int r_1.1), (0, cr α 3 (some 0)), (1, cr α 6 x1)]) hx hb dX3_wordsShown_5 rfl hl (by decide) (by first | rfl | (simp only [List.filter, cr_cat]; rfl)) (fun ls hl => ?_)
  refine lv_iload_n hx hb dX3_wordsShown_6 rfl (lv_at hl 0 rfl) ?_
  refine lv_if_eq (tgt := 25) hx hb dX3_wordsShown_7 (by decide) (fun c_1 => ?_) (fun c_1 => ?_)
  · have h := br_T c_1 h
    refine lv_lconst (v := (0 : Int64)) hx hb dX3_wordsShown_25 (by decide) ?_
    exact gc_X3_wordsShown_26 C hr hlk h17  _ _ _ _ _ _ _ hM (lv_sub hl [1, 2, 0] rfl) h
  · have h := br_F c_1 h
    refine c_aload_n (t := 3) (x := (some 0)) hx hb dX3_wordsShown_10 rfl (lv_at hl 1 rfl) ?_
    refine c_getb C hM (k := 3) (f := 0) (j := 0) (t := 2) (hM.cst 3 0 rfl) (by decide) fl_X3_15 dX3_wordsShown_11 ?_
    refine c_getb C hM (k := 2) (f := 3) (j := 1) (t := 15) (hM.cst 2 0 rfl) (by decide) fl_X3_66 dX3_wordsShown_14 ?_
    refine c_aload_n (t := 6) (x := x1) hx hb dX3_wordsShown_17 rfl (lv_at hl 2 rfl) ?_
    obtain ⟨i_2, hd_2, h⟩ := bd_of h
    refine c_geti C hM (k := 6) (f := 0) hd_2 rfl fl_X3_19 dX3_wordsShown_18 ?_
    obtain ⟨c_2, h⟩ := ko_of h
    refine c_lald C hM (hM.cst 15 1 rfl) (by rw [hM.ln 15 1 12 (by decide)]; exact c_2) dX3_wordsShown_21 ?_
    refine lv_goto (tgt := 26) hx hb dX3_wordsShown_22 (by decide) ?_
    exact gc_X3_wordsShown_26 C hr hlk h17  _ _ _ _ _ _ _ hM (lv_sub hl [1, 2, 0] rfl) h
/-! Lorewick$World.hasThing(I)Z -/
abbrev rc_X10_hasThing : Room := { frames := 0, cells := 0, slots := 0, locals := 0 }
def fc_X10_hasThing_17 (σ : cS) (s0 : Int32) : Option (Int32 × cS) :=
    if s0 &&& 1 = s0 then some (s0, σ) else none
set_option maxHeartbeats 4000000 in
set_option maxRecDepth 100000 in
theorem gc_X10_hasThing_17 {p : Program} {l : Launch} {e : Env} {s : State} {m : MethodId} {args : Array Value} {below : List Frame} {meth : Method} {c : Code} {D : va_G} {ca : Nat → ClassId} {A : Nat → Prop} {σ0 : cS} {α : cAl} {o : Int32 × cS} (C : cC p s m args c cX10_hasThing 2 RX10 D ca A α) (hr : meth.sig.returnType = (some FieldType.boolean)) (hlk : meth.locks = false) (h17 : 0 < cn σ0 17) : ∀ (σ : cS) (s0 : Int32) (H : Heap) (locs : List Loc) (ls : Array Slot), cM D ca true A s.heap σ0 α σ α H locs → lv_has ls 2 [] → fc_X10_hasThing_17 σ s0 = some o → W p l e rc_X10_hasThing s m args below meth c H locs 0 0 (MQ below (cQ false D ca true A α σ0 (fun _ => some (.int o.1)) o.2) args s 0 0 A) (F0 m 17 ls [.int s0]) := by
  have hx := C.1
  have hb := C.2.1
  intro σ s0 H locs ls hM hl h
  unfold fc_X10_hasThing_17 at h
  exact c_rz C hM (fun _ => rfl) hr hlk dX10_hasThing_17 h
def fc_X10_hasThing_16 (σ : cS) : Option (Int32 × cS) :=
    fc_X10_hasThing_17 σ (0 : Int32)
set_option maxHeartbeats 4000000 in
set_option maxRecDepth 100000 in
theorem gc_X10_hasThing_16 {p : Program} {l : Launch} {e : Env} {s : State} {m : MethodId} {args : Array Value} {below : List Frame} {meth : Method} {c : Code} {D : va_G} {ca : Nat → ClassId} {A : Nat → Prop} {σ0 : cS} {α : cAl} {o : Int32 × cS} (C : cC p s m args c cX10_hasThing 2 RX10 D ca A α) (hr : meth.sig.returnType = (some FieldType.boolean)) (hlk : meth.locks = false) (h17 : 0 < cn σ0 17) : ∀ (σ : cS) (H : Heap) (locs : List Loc) (ls : Array Slot), cM D ca true A s.heap σ0 α σ α H locs → lv_has ls 2 [] → fc_X10_hasThing_16 σ = some o → W p l e rc_X10_hasThing s m args below meth c H locs 0 0 (MQ below (cQ false D ca true A α σ0 (fun _ => some (.int o.1)) o.2) args s 0 0 A) (F0 m 16 ls []) := by
  have hx := C.1
  have hb := C.2.1
  intro σ H locs ls hM hl h
  unfold fc_X10_hasThing_16 at h
  refine lv_iconst (v := (0 : Int32)) hx hb dX10_hasThing_16 (by decide) ?_
  exact gc_X10_hasThing_17 C hr hlk h17  _ _ _ _ _ hM (lv_sub hl [] rfl) h
def fc_X10_hasThing (σ : cS) (x1 : Int32) : Option (Int32 × cS) :=
  if x1 < 0 then
    fc_X10_hasThing_16 σ
  else
    if (cI σ 2 0 13) ≤ x1 then
      fc_X10_hasThing_16 σ
    else
      fc_X10_hasThing_17 σ (1 : Int32)
set_option maxHeartbeats 4000000 in
set_option maxRecDepth 100000 in
theorem cc_X10_hasThing (l : Launch) (D : va_G) (ca : Nat → ClassId) (A : Nat → Prop) (α : cAl) (σ : cS) (x1 : Int32) (o : Int32 × cS) (h : fc_X10_hasThing σ x1 = some o) : cMet false l yX10_hasThing cX10_hasThing 2 ((some FieldType.boolean)) rc_X10_hasThing 0 0 D ca true A α σ [cr α 2 (some 0), .int x1] (fun _ => some (.int o.1)) o.2 := by
  refine Met.ofW (cc := cX10_hasThing) (maxL := 2) (ret := (some FieldType.boolean)) (by decide) rfl ?_
  intro p e s m args below meth c s₁ B hml hv
  obtain ⟨rfl, hP, hK, hD0, hSh, hA, hG⟩ := hv
  have C : cC p s m _ c cX10_hasThing 2 RX10 D ca A α := ⟨B.exec, B.bytes, hml, findClass_of_methodNamed B.named, fun w hw => atoms_spec (ws := mWs yX10_hasThing cX10_hasThing 2 ((some FieldType.boolean))) B.pre w (List.mem_cons_of_mem _ hw), hK, hG⟩
  have hM : cM D ca true A s.heap σ α σ α s.heap [] := ⟨hP, hD0, hSh, va_S.rf, hA, cX.rf⟩
  have h17 : 0 < cn σ 17 := c_17 hM
  have hr := B.returns
  have hlk := B.notSynchronized
  have hx := C.1
  have hb := C.2.1
  have hl := lv_entry ([cr α 2 (some 0), .int x1]) (n := 2) (Nat.le_of_ble_eq_true rfl)
  rw [lg_entry_eq]
  generalize (lg_sl ([cr α 2 (some 0), .int x1]) ++ List.replicate (2 - (lg_sl ([cr α 2 (some 0), .int x1])).length) Slot.unset).toArray = ls at hl ⊢
  have hl : lv_has ls 2 [(0, cr α 2 (some 0)), (1, .int x1)] := hl
  unfold fc_X10_hasThing at h
  refine lv_iload_n hx hb dX10_hasThing_0 rfl (lv_at hl 1 rfl) ?_
  refine lv_if_lt (tgt := 16) hx hb dX10_hasThing_1 (by decide) (fun c_1 => ?_) (fun c_1 => ?_)
  · have h := br_T c_1 h
    exact gc_X10_hasThing_16 C hr hlk h17  _ _ _ _ hM (lv_sub hl [] rfl) h
  · have h := br_F c_1 h
    refine lv_iload_n hx hb dX10_hasThing_4 rfl (lv_at hl 1 rfl) ?_
    refine c_aload_n (t := 2) (x := (some 0)) hx hb dX10_hasThing_5 rfl (lv_at hl 0 rfl) ?_
    refine c_geti C hM (k := 2) (f := 13) (hM.cst 2 0 rfl) rfl fl_X10_67 dX10_hasThing_6 ?_
    refine lv_icmp_ge (tgt := 16) hx hb dX10_hasThing_9 (by decide) (fun c_2 => ?_) (fun c_2 => ?_)
    · have h := br_T c_2 h
      exact gc_X10_hasThing_16 C hr hlk h17  _ _ _ _ hM (lv_sub hl [] rfl) h
    · have h := br_F c_2 h
      refine lv_iconst (v := (1 : Int32)) hx hb dX10_hasThing_12 (by decide) ?_
      refine lv_goto (tgt := 17) hx hb dX10_hasThing_13 (by decide) ?_
      exact gc_X10_hasThing_17 C hr hlk h17  _ _ _ _ _ hM (lv_sub hl [] rfl) h
/-! Lorewick$Rules.carriedWeight(LLorewick$State;)I -/
abbrev rc_X3_carriedWeight : Room := { frames := 1, cells := 0, slots := 0, locals := 21 }
def fc_X3_carriedWeight_67 (k_4 : cS → Option Nat → Int32 → Int32 → Option (Int32 × cS)) (σ : cS) (x1 : Option Nat) (x2 : Int32) (x3 : Int32) : Option (Int32 × cS) :=
    k_4 σ x1 x2 (x3 + (1 : Int32))
set_option maxHeartbeats 4000000 in
set_option maxRecDepth 100000 in
theorem gc_X3_carriedWeight_67 {p : Program} {l : Launch} {e : Env} {s : State} {m : MethodId} {args : Array Value} {below : List Frame} {meth : Method} {c : Code} {D : va_G} {ca : Nat → ClassId} {A : Nat → Prop} {σ0 : cS} {α : cAl} {o : Int32 × cS} {k_4 : cS → Option Nat → Int32 → Int32 → Option (Int32 × cS)} (C : cC p s m args c cX3_carriedWeight 5 RX3 D ca A α) (hr : meth.sig.returnType = (some FieldType.int)) (hlk : meth.locks = false) (h17 : 0 < cn σ0 17) (hk_4 : ∀ (σ : cS) (x1 : Option Nat) (x2 : Int32) (x3 : Int32) (H : Heap) (locs : List Loc) (ls : Array Slot), cM D ca true A s.heap σ0 α σ α H locs → lv_has ls 5 [(0, cr α 3 (some 0)), (1, cr α 6 x1), (2, .int x2), (3, .int x3)] → k_4 σ x1 x2 x3 = some o → W p l e rc_X3_carriedWeight s m args below meth c H locs 0 0 (MQ below (cQ false D ca true A α σ0 (fun _ => some (.int o.1)) o.2) args s 0 0 A) (F0 m 4 ls [])) : ∀ (σ : cS) (x1 : Option Nat) (x2 : Int32) (x3 : Int32) (H : Heap) (locs : List Loc) (ls : Array Slot), cM D ca true A s.heap σ0 α σ α H locs → lv_has ls 5 [(0, cr α 3 (some 0)), (1, cr α 6 x1), (2, .int x2), (3, .int x3)] → fc_X3_carriedWeight_67 k_4 σ x1 x2 x3 = some o → W p l e rc_X3_carriedWeight s m args below meth c H locs 0 0 (MQ below (cQ false D ca true A α σ0 (fun _ => some (.int o.1)) o.2) args s 0 0 A) (F0 m 67 ls []) := by
  have hx := C.1
  have hb := C.2.1
  intro σ x1 x2 x3 H locs ls hM hl h
  unfold fc_X3_carriedWeight_67 at h
  refine lv_iinc (v := (x3 + (1 : Int32))) (lv' := [(3, .int (x3 + (1 : Int32))), (0, cr α 3 (some 0)), (1, cr α 6 x1), (2, .int x2)]) hx hb dX3_carriedWeight_67 hl (k := 3) rfl rfl (by decide) rfl (fun ls hl => ?_)
  refine lv_goto (tgt := 4) hx hb dX3_carriedWeight_70 (by decide) ?_
  exact hk_4 _ _ _ _ _ _ _ hM (lv_sub hl [1, 2, 3, 0] rfl) h
def fc_X3_carriedWeight_49 (k_4 : cS → Option Nat → Int32 → Int32 → Option (Int32 × cS)) (σ : cS) (x1 : Option Nat) (x2 : Int32) (x3 : Int32) (s0 : Int32) (s1 : Option Nat) : Option (Int32 × cS) :=
    (dr σ 12 s1).bind fun i_1 =>
    if s0 < 0 ∨ cln σ 12 i_1 ≤ s0.toNatClampNeg then none else
    if (cI σ 12 i_1 s0.toNatClampNeg) = (100 : Int32) then
      if x3 < 0 ∨ 12 ≤ x3.toNatClampNeg then none else
      fc_X3_carriedWeight_67 k_4 σ x1 (x2 + (cI σ 12 6 x3.toNatClampNeg)) x3
    else
      fc_X3_carriedWeight_67 k_4 σ x1 x2 x3
set_option maxHeartbeats 4000000 in
set_option maxRecDepth 100000 in
theorem gc_X3_carriedWeight_49 {p : Program} {l : Launch} {e : Env} {s : State} {m : MethodId} {args : Array Value} {below : List Frame} {meth : Method} {c : Code} {D : va_G} {ca : Nat → ClassId} {A : Nat → Prop} {σ0 : cS} {α : cAl} {o : Int32 × cS} {k_4 : cS → Option Nat → Int32 → Int32 → Option (Int32 × cS)} (C : cC p s m args c cX3_carriedWeight 5 RX3 D ca A α) (hr : meth.sig.returnType = (some FieldType.int)) (hlk : meth.locks = false) (h17 : 0 < cn σ0 17) (hk_4 : ∀ (σ : cS) (x1 : Option Nat) (x2 : Int32) (x3 : Int32) (H : Heap) (locs : List Loc) (ls : Array Slot), cM D ca true A s.heap σ0 α σ α H locs → lv_has ls 5 [(0, cr α 3 (some 0)), (1, cr α 6 x1), (2, .int x2), (3, .int x3)] → k_4 σ x1 x2 x3 = some o → W p l e rc_X3_carriedWeight s m args below meth c H locs 0 0 (MQ below (cQ false D ca true A α σ0 (fun _ => some (.int o.1)) o.2) args s 0 0 A) (F0 m 4 ls [])) : ∀ (σ : cS) (x1 : Option Nat) (x2 : Int32) (x3 : Int32) (s0 : Int32) (s1 : Option Nat) (H : Heap) (locs : List Loc) (ls : Array Slot), cM D ca true A s.heap σ0 α σ α H locs → lv_has ls 5 [(0, cr α 3 (some 0)), (1, cr α 6 x1), (2, .int x2), (3, .int x3)] → fc_X3_carriedWeight_49 k_4 σ x1 x2 x3 s0 s1 = some o → W p l e rc_X3_carriedWeight s m args below meth c H locs 0 0 (MQ below (cQ false D ca true A α σ0 (fun _ => some (.int o.1)) o.2) args s 0 0 A) (F0 m 49 ls [.int s0, cr α 12 s1]) := by
  have hx := C.1
  have hb := C.2.1
  intro σ x1 x2 x3 s0 s1 H locs ls hM hl h
  unfold fc_X3_carriedWeight_49 at h
  obtain ⟨i_1, hd_1, h⟩ := bd_of h
  obtain ⟨c_1, h⟩ := ko_of h
  refine c_iald C hM hd_1 c_1 dX3_carriedWeight_49 ?_
  refine lv_bipush (v := (100 : Int32)) hx hb dX3_carriedWeight_50 (by decide) ?_
  refine lv_icmp_ne (tgt := 67) hx hb dX3_carriedWeight_52 (by decide) (fun c_2 => ?_) (fun c_2 => ?_)
  · have h := br_F c_2 h
    exact gc_X3_carriedWeight_67 C hr hlk h17 hk_4 _ _ _ _ _ _ _ hM (lv_sub hl [0, 1, 2, 3] rfl) h
  · have h := br_T c_2 h
    refine lv_iload_n hx hb dX3_carriedWeight_55 rfl (lv_at hl 2 rfl) ?_
    refine c_aload_n (t := 3) (x := (some 0)) hx hb dX3_carriedWeight_56 rfl (lv_at hl 0 rfl) ?_
    refine c_getb C hM (k := 3) (f := 0) (j := 0) (t := 2) (hM.cst 3 0 rfl) (by decide) fl_X3_15 dX3_carriedWeight_57 ?_
    refine c_getb C hM (k := 2) (f := 9) (j := 6) (t := 12) (hM.cst 2 0 rfl) (by decide) fl_X3_81 dX3_carriedWeight_60 ?_
    refine lv_iload_n hx hb dX3_carriedWeight_63 rfl (lv_at hl 3 rfl) ?_
    obtain ⟨c_3, h⟩ := ko_of h
    refine c_iald C hM (hM.cst 12 6 rfl) (by rw [hM.ln 12 6 12 (by decide)]; exact c_3) dX3_carriedWeight_64 ?_
    refine lv_iadd hx hb dX3_carriedWeight_65 ?_
    refine lv_istore_n (lv' := [(2, .int (x2 + (cI σ 12 6 x3.toNatClampNeg))), (0, cr α 3 (some 0)), (1, cr α 6 x1), (3, .int x3)]) hx hb dX3_carriedWeight_66 rfl hl (by decide) (by first | rfl | (simp only [List.filter, cr_cat]; rfl)) (fun ls hl => ?_)
    exact gc_X3_carriedWeight_67 C hr hlk h17 hk_4 _ _ _ _ _ _ _ hM (lv_sub hl [1, 2, 0, 3] rfl) h
def fc_X3_carriedWeight_4 : Nat → cS → Option Nat → Int32 → Int32 → Option (Int32 × cS)
  | 0, _, _, _, _ => none
  | n + 1, σ, x1, x2, x3 =>
    if (cI σ 2 0 13) ≤ x3 then
      some (x2, σ)
    else
      (dr σ 6 x1).bind fun i_1 =>
      (dr σ 12 (cR σ 6 i_1 1)).bind fun i_2 =>
      if x3 < 0 ∨ cln σ 12 i_2 ≤ x3.toNatClampNeg then none else
      (fc_X10_hasThing σ ((cI σ 12 i_2 x3.toNatClampNeg) - (200 : Int32))).bind fun r_3 =>
      if r_3.1 = 0 then
        fc_X3_carriedWeight_49 (fc_X3_carriedWeight_4 n) r_3.2 x1 x2 x3 x3 (cR σ 6 i_1 1)
      else
        fc_X3_carriedWeight_49 (fc_X3_carriedWeight_4 n) r_3.2 x1 x2 x3 ((cI σ 12 i_2 x3.toNatClampNeg) - (200 : Int32)) (cR σ 6 i_1 1)
set_option maxHeartbeats 4000000 in
set_option maxRecDepth 100000 in
theorem gc_X3_carriedWeight_4 {p : Program} {l : Launch} {e : Env} {s : State} {m : MethodId} {args : Array Value} {below : List Frame} {meth : Method} {c : Code} {D : va_G} {ca : Nat → ClassId} {A : Nat → Prop} {σ0 : cS} {α : cAl} {o : Int32 × cS} (C : cC p s m args c cX3_carriedWeight 5 RX3 D ca A α) (hr : meth.sig.returnType = (some FieldType.int)) (hlk : meth.locks = false) (h17 : 0 < cn σ0 17) : ∀ (n : Nat) (σ : cS) (x1 : Option Nat) (x2 : Int32) (x3 : Int32) (H : Heap) (locs : List Loc) (ls : Array Slot), cM D ca true A s.heap σ0 α σ α H locs → lv_has ls 5 [(0, cr α 3 (some 0)), (1, cr α 6 x1), (2, .int x2), (3, .int x3)] → fc_X3_carriedWeight_4 n σ x1 x2 x3 = some o → W p l e rc_X3_carriedWeight s m args below meth c H locs 0 0 (MQ below (cQ false D ca true A α σ0 (fun _ => some (.int o.1)) o.2) args s 0 0 A) (F0 m 4 ls []) := by
  have hx := C.1
  have hb := C.2.1
  intro n
  induction n with
  | zero =>
    intro σ x1 x2 x3 H locs ls hM hl h
    cases h
  | succ n ih =>
    intro σ x1 x2 x3 H locs ls hM hl h
    rw [fc_X3_carriedWeight_4] at h
    refine lv_iload_n hx hb dX3_carriedWeight_4 rfl (lv_at hl 3 rfl) ?_
    refine c_aload_n (t := 3) (x := (some 0)) hx hb dX3_carriedWeight_5 rfl (lv_at hl 0 rfl) ?_
    refine c_getb C hM (k := 3) (f := 0) (j := 0) (t := 2) (hM.cst 3 0 rfl) (by decide) fl_X3_15 dX3_carriedWeight_6 ?_
    refine c_geti C hM (k := 2) (f := 13) (hM.cst 2 0 rfl) rfl fl_X3_41 dX3_carriedWeight_9 ?_
    refine lv_icmp_ge (tgt := 73) hx hb dX3_carriedWeight_12 (by decide) (fun c_1 => ?_) (fun c_1 => ?_)
    · have h := br_T c_1 h
      refine lv_iload_n hx hb dX3_carriedWeight_73 rfl (lv_at hl 2 rfl) ?_
      exact c_ri C hM (fun _ => rfl) hr hlk dX3_carriedWeight_74 h
    · have h := br_F c_1 h
      refine c_aload_n (t := 6) (x := x1) hx hb dX3_carriedWeight_15 rfl (lv_at hl 1 rfl) ?_
      obtain ⟨i_1, hd_1, h⟩ := bd_of h
      refine c_getrt C hM (k := 6) (f := 1) (t := 12) hd_1 (by decide) fl_X3_25 dX3_carriedWeight_16 ?_
      refine lv_iload_n hx hb dX3_carriedWeight_19 rfl (lv_at hl 3 rfl) ?_
      obtain ⟨i_2, hd_2, h⟩ := bd_of h
      obtain ⟨c_2, h⟩ := ko_of h
      refine c_iald C hM hd_2 c_2 dX3_carriedWeight_20 ?_
      refine lv_sipush (v := (200 : Int32)) hx hb dX3_carriedWeight_21 (by decide) ?_
      refine lv_isub hx hb dX3_carriedWeight_24 ?_
      refine lv_istore (lv' := [(4, .int ((cI σ 12 i_2 x3.toNatClampNeg) - (200 : Int32))), (0, cr α 3 (some 0)), (1, cr α 6 x1), (2, .int x2), (3, .int x3)]) hx hb dX3_carriedWeight_25 hl (by decide) rfl (fun ls hl => ?_)
      refine c_aload_n (t := 6) (x := x1) hx hb dX3_carriedWeight_27 rfl (lv_at hl 2 rfl) ?_
      refine c_getrt C hM (k := 6) (f := 1) (t := 12) hd_1 (by decide) fl_X3_25 dX3_carriedWeight_28 ?_
      refine c_aload_n (t := 3) (x := (some 0)) hx hb dX3_carriedWeight_31 rfl (lv_at hl 1 rfl) ?_
      refine c_getb C hM (k := 3) (f := 0) (j := 0) (t := 2) (hM.cst 3 0 rfl) (by decide) fl_X3_15 dX3_carriedWeight_32 ?_
      refine lv_iload hx hb dX3_carriedWeight_35 (lv_at hl 0 rfl) ?_
      obtain ⟨r_3, hr_3, h⟩ := bd_of h
      refine c_go0 (c_rV (As := [.int ((cI σ 12 i_2 x3.toNatClampNeg) - (200 : Int32))]) (rest := [cr α 12 (cR σ 6 i_1 1)]) C hM h17 (hM.cst 2 0 rfl) (by decide) (cc_X10_hasThing l D ca A α σ ((cI σ 12 i_2 x3.toNatClampNeg) - (200 : Int32)) _ hr_3) cw_X3_77 ⟨rfl, rfl⟩ ⟨Nat.le_of_ble_eq_true rfl, Nat.le_of_ble_eq_true rfl⟩ rfl rfl (cats_le _ (Nat.le_of_ble_eq_true rfl)) hl.1 dX3_carriedWeight_37 ⟨Nat.le_of_ble_eq_true rfl, Nat.le_of_ble_eq_true rfl⟩) hM (fun H locs hM => ?_)
      refine W_st (st' := [.int r_3.1, cr α 12 (cR σ 6 i_1 1)]) rfl ?_
      refine lv_if_eq (tgt := 48) hx hb dX3_carriedWeight_40 (by decide) (fun c_3 => ?_) (fun c_3 => ?_)
      · have h := br_T c_3 h
        refine lv_iload_n hx hb dX3_carriedWeight_48 rfl (lv_at hl 4 rfl) ?_
        exact gc_X3_carriedWeight_49 C hr hlk h17 ih _ _ _ _ _ _ _ _ _ hM (lv_sub hl [1, 2, 3, 4] rfl) h
      · have h := br_F c_3 h
        refine lv_iload hx hb dX3_carriedWeight_43 (lv_at hl 0 rfl) ?_
        refine lv_goto (tgt := 49) hx hb dX3_carriedWeight_45 (by decide) ?_
        exact gc_X3_carriedWeight_49 C hr hlk h17 ih _ _ _ _ _ _ _ _ _ hM (lv_sub hl [1, 2, 3, 4] rfl) h
def fc_X3_carriedWeight (σ : cS) (x1 : Option Nat) : Option (Int32 × cS) :=
  fc_X3_carriedWeight_4 3000 σ x1 (0 : Int32) (0 : Int32)
set_option maxHeartbeats 4000000 in
set_option maxRecDepth 100000 in
theorem cc_X3_carriedWeight (l : Launch) (D : va_G) (ca : Nat → ClassId) (A : Nat → Prop) (α : cAl) (σ : cS) (x1 : Option Nat) (o : Int32 × cS) (h : fc_X3_carriedWeight σ x1 = some o) : cMet false l yX3_carriedWeight cX3_carriedWeight 5 ((some FieldType.int)) rc_X3_carriedWeight 0 0 D ca true A α σ [cr α 3 (some 0), cr α 6 x1] (fun _ => some (.int o.1)) o.2 := by
  refine Met.ofW (cc := cX3_carriedWeight) (maxL := 5) (ret := (some FieldType.int)) (by decide) rfl ?_
  intro p e s m args below meth c s₁ B hml hv
  obtain ⟨rfl, hP, hK, hD0, hSh, hA, hG⟩ := hv
  have C : cC p s m _ c cX3_carriedWeight 5 RX3 D ca A α := ⟨B.exec, B.bytes, hml, findClass_of_methodNamed B.named, fun w hw => atoms_spec (ws := mWs yX3_carriedWeight cX3_carriedWeight 5 ((some FieldType.int))) B.pre w (List.mem_cons_of_mem _ hw), hK, hG⟩
  have hM : cM D ca true A s.heap σ α σ α s.heap [] := ⟨hP, hD0, hSh, va_S.rf, hA, cX.rf⟩
  have h17 : 0 < cn σ 17 := c_17 hM
  have hr := B.returns
  have hlk := B.notSynchronized
  have hx := C.1
  have hb := C.2.1
  have hl := lv_entry ([cr α 3 (some 0), cr α 6 x1]) (n := 5) (by simp [lg_r, lg_i, lg_l, lg_n])
  rw [lg_entry_eq]
  generalize (lg_sl ([cr α 3 (some 0), cr α 6 x1]) ++ List.replicate (5 - (lg_sl ([cr α 3 (some 0), cr α 6 x1])).length) Slot.unset).toArray = ls at hl ⊢
  have hl : lv_has ls 5 [(0, cr α 3 (some 0)), (1, cr α 6 x1)] := (lv_to hl (by simp only [la_r, la_i, la_l, la_n]))
  unfold fc_X3_carriedWeight at h
  refine lv_iconst (v := (0 : Int32)) hx hb dX3_carriedWeight_0 (by decide) ?_
  refine lv_istore_n (lv' := [(2, .int (0 : Int32)), (0, cr α 3 (some 0)), (1, cr α 6 x1)]) hx hb dX3_carriedWeight_1 rfl hl (by decide) (by first | rfl | (simp only [List.filter, cr_cat]; rfl)) (fun ls hl => ?_)
  refine lv_iconst (v := (0 : Int32)) hx hb dX3_carriedWeight_2 (by decide) ?_
  refine lv_istore_n (lv' := [(3, .int (0 : Int32)), (2, .int (0 : Int32)), (0, cr α 3 (some 0)), (1, cr α 6 x1)]) hx hb dX3_carriedWeight_3 rfl hl (by decide) rfl (fun ls hl => ?_)
  exact gc_X3_carriedWeight_4 C hr hlk h17  _ _ _ _ _ _ _ _ hM (lv_sub hl [2, 3, 1, 0] rfl) h
/-! Lorewick$Rules.countIn(LLorewick$State;I)I -/
abbrev rc_X3_countIn : Room := { frames := 0, cells := 0, slots := 0, locals := 0 }
def fc_X3_countIn_35 (k_5 : cS → Option Nat → Int32 → Int32 → Int32 → Option (Int32 × cS)) (σ : cS) (x1 : Option Nat) (x2 : Int32) (x3 : Int32) (x4 : Int32) : Option (Int32 × cS) :=
    k_5 σ x1 x2 x3 (x4 + (1 : Int32))
set_option maxHeartbeats 4000000 in
set_option maxRecDepth 100000 in
theorem gc_X3_countIn_35 {p : Program} {l : Launch} {e : Env} {s : State} {m : MethodId} {args : Array Value} {below : List Frame} {meth : Method} {c : Code} {D : va_G} {ca : Nat → ClassId} {A : Nat → Prop} {σ0 : cS} {α : cAl} {o : Int32 × cS} {k_5 : cS → Option Nat → Int32 → Int32 → Int32 → Option (Int32 × cS)} (C : cC p s m args c cX3_countIn 5 RX3 D ca A α) (hr : meth.sig.returnType = (some FieldType.int)) (hlk : meth.locks = false) (h17 : 0 < cn σ0 17) (hk_5 : ∀ (σ : cS) (x1 : Option Nat) (x2 : Int32) (x3 : Int32) (x4 : Int32) (H : Heap) (locs : List Loc) (ls : Array Slot), cM D ca true A s.heap σ0 α σ α H locs → lv_has ls 5 [(0, cr α 3 (some 0)), (1, cr α 6 x1), (2, .int x2), (3, .int x3), (4, .int x4)] → k_5 σ x1 x2 x3 x4 = some o → W p l e rc_X3_countIn s m args below meth c H locs 0 0 (MQ below (cQ false D ca true A α σ0 (fun _ => some (.int o.1)) o.2) args s 0 0 A) (F0 m 5 ls [])) : ∀ (σ : cS) (x1 : Option Nat) (x2 : Int32) (x3 : Int32) (x4 : Int32) (H : Heap) (locs : List Loc) (ls : Array Slot), cM D ca true A s.heap σ0 α σ α H locs → lv_has ls 5 [(0, cr α 3 (some 0)), (1, cr α 6 x1), (2, .int x2), (3, .int x3), (4, .int x4)] → fc_X3_countIn_35 k_5 σ x1 x2 x3 x4 = some o → W p l e rc_X3_countIn s m args below meth c H locs 0 0 (MQ below (cQ false D ca true A α σ0 (fun _ => some (.int o.1)) o.2) args s 0 0 A) (F0 m 35 ls []) := by
  have hx := C.1
  have hb := C.2.1
  intro σ x1 x2 x3 x4 H locs ls hM hl h
  unfold fc_X3_countIn_35 at h
  refine lv_iinc (v := (x4 + (1 : Int32))) (lv' := [(4, .int (x4 + (1 : Int32))), (0, cr α 3 (some 0)), (1, cr α 6 x1), (2, .int x2), (3, .int x3)]) hx hb dX3_countIn_35 hl (k := 4) rfl rfl (by decide) rfl (fun ls hl => ?_)
  refine lv_goto (tgt := 5) hx hb dX3_countIn_38 (by decide) ?_
  exact hk_5 _ _ _ _ _ _ _ _ hM (lv_sub hl [1, 2, 3, 4, 0] rfl) h
def fc_X3_countIn_5 : Nat → cS → Option Nat → Int32 → Int32 → Int32 → Option (Int32 × cS)
  | 0, _, _, _, _, _ => none
  | n + 1, σ, x1, x2, x3, x4 =>
    if (cI σ 2 0 13) ≤ x4 then
      some (x3, σ)
    else
      (dr σ 6 x1).bind fun i_1 =>
      (dr σ 12 (cR σ 6 i_1 1)).bind fun i_2 =>
      if x4 < 0 ∨ cln σ 12 i_2 ≤ x4.toNatClampNeg then none else
      if (cI σ 12 i_2 x4.toNatClampNeg) = ((200 : Int32) + x2) then
        fc_X3_countIn_35 (fc_X3_countIn_5 n) σ x1 x2 (x3 + (1 : Int32)) x4
      else
        fc_X3_countIn_35 (fc_X3_countIn_5 n) σ x1 x2 x3 x4
set_option maxHeartbeats 4000000 in
set_option maxRecDepth 100000 in
theorem gc_X3_countIn_5 {p : Program} {l : Launch} {e : Env} {s : State} {m : MethodId} {args : Array Value} {below : List Frame} {meth : Method} {c : Code} {D : va_G} {ca : Nat → ClassId} {A : Nat → Prop} {σ0 : cS} {α : cAl} {o : Int32 × cS} (C : cC p s m args c cX3_countIn 5 RX3 D ca A α) (hr : meth.sig.returnType = (some FieldType.int)) (hlk : meth.locks = false) (h17 : 0 < cn σ0 17) : ∀ (n : Nat) (σ : cS) (x1 : Option Nat) (x2 : Int32) (x3 : Int32) (x4 : Int32) (H : Heap) (locs : List Loc) (ls : Array Slot), cM D ca true A s.heap σ0 α σ α H locs → lv_has ls 5 [(0, cr α 3 (some 0)), (1, cr α 6 x1), (2, .int x2), (3, .int x3), (4, .int x4)] → fc_X3_countIn_5 n σ x1 x2 x3 x4 = some o → W p l e rc_X3_countIn s m args below meth c H locs 0 0 (MQ below (cQ false D ca true A α σ0 (fun _ => some (.int o.1)) o.2) args s 0 0 A) (F0 m 5 ls []) := by
  have hx := C.1
  have hb := C.2.1
  intro n
  induction n with
  | zero =>
    intro σ x1 x2 x3 x4 H locs ls hM hl h
    cases h
  | succ n ih =>
    intro σ x1 x2 x3 x4 H locs ls hM hl h
    rw [fc_X3_countIn_5] at h
    refine lv_iload hx hb dX3_countIn_5 (lv_at hl 4 rfl) ?_
    refine c_aload_n (t := 3) (x := (some 0)) hx hb dX3_countIn_7 rfl (lv_at hl 0 rfl) ?_
    refine c_getb C hM (k := 3) (f := 0) (j := 0) (t := 2) (hM.cst 3 0 rfl) (by decide) fl_X3_15 dX3_countIn_8 ?_
    refine c_geti C hM (k := 2) (f := 13) (hM.cst 2 0 rfl) rfl fl_X3_41 dX3_countIn_11 ?_
    refine lv_icmp_ge (tgt := 41) hx hb dX3_countIn_14 (by decide) (fun c_1 => ?_) (fun c_1 => ?_)
    · have h := br_T c_1 h
      refine lv_iload_n hx hb dX3_countIn_41 rfl (lv_at hl 3 rfl) ?_
      exact c_ri C hM (fun _ => rfl) hr hlk dX3_countIn_42 h
    · have h := br_F c_1 h
      refine c_aload_n (t := 6) (x := x1) hx hb dX3_countIn_17 rfl (lv_at hl 1 rfl) ?_
      obtain ⟨i_1, hd_1, h⟩ := bd_of h
      refine c_getrt C hM (k := 6) (f := 1) (t := 12) hd_1 (by decide) fl_X3_25 dX3_countIn_18 ?_
      refine lv_iload hx hb dX3_countIn_21 (lv_at hl 4 rfl) ?_
      obtain ⟨i_2, hd_2, h⟩ := bd_of h
      obtain ⟨c_2, h⟩ := ko_of h
      refine c_iald C hM hd_2 c_2 dX3_countIn_23 ?_
      refine lv_sipush (v := (200 : Int32)) hx hb dX3_countIn_24 (by decide) ?_
      refine lv_iload_n hx hb dX3_countIn_27 rfl (lv_at hl 2 rfl) ?_
      refine lv_iadd hx hb dX3_countIn_28 ?_
      refine lv_icmp_ne (tgt := 35) hx hb dX3_countIn_29 (by decide) (fun c_3 => ?_) (fun c_3 => ?_)
      · have h := br_F c_3 h
        exact gc_X3_countIn_35 C hr hlk h17 ih _ _ _ _ _ _ _ _ hM (lv_sub hl [0, 1, 2, 3, 4] rfl) h
      · have h := br_T c_3 h
        refine lv_iinc (v := (x3 + (1 : Int32))) (lv' := [(3, .int (x3 + (1 : Int32))), (0, cr α 3 (some 0)), (1, cr α 6 x1), (2, .int x2), (4, .int x4)]) hx hb dX3_countIn_32 hl (k := 3) rfl rfl (by decide) rfl (fun ls hl => ?_)
        exact gc_X3_countIn_35 C hr hlk h17 ih _ _ _ _ _ _ _ _ hM (lv_sub hl [1, 2, 3, 0, 4] rfl) h
def fc_X3_countIn (σ : cS) (x1 : Option Nat) (x2 : Int32) : Option (Int32 × cS) :=
  fc_X3_countIn_5 3000 σ x1 x2 (0 : Int32) (0 : Int32)
set_option maxHeartbeats 4000000 in
set_option maxRecDepth 100000 in
theorem cc_X3_countIn (l : Launch) (D : va_G) (ca : Nat → ClassId) (A : Nat → Prop) (α : cAl) (σ : cS) (x1 : Option Nat) (x2 : Int32) (o : Int32 × cS) (h : fc_X3_countIn σ x1 x2 = some o) : cMet false l yX3_countIn cX3_countIn 5 ((some FieldType.int)) rc_X3_countIn 0 0 D ca true A α σ [cr α 3 (some 0), cr α 6 x1, .int x2] (fun _ => some (.int o.1)) o.2 := by
  refine Met.ofW (cc := cX3_countIn) (maxL := 5) (ret := (some FieldType.int)) (by decide) rfl ?_
  intro p e s m args below meth c s₁ B hml hv
  obtain ⟨rfl, hP, hK, hD0, hSh, hA, hG⟩ := hv
  have C : cC p s m _ c cX3_countIn 5 RX3 D ca A α := ⟨B.exec, B.bytes, hml, findClass_of_methodNamed B.named, fun w hw => atoms_spec (ws := mWs yX3_countIn cX3_countIn 5 ((some FieldType.int))) B.pre w (List.mem_cons_of_mem _ hw), hK, hG⟩
  have hM : cM D ca true A s.heap σ α σ α s.heap [] := ⟨hP, hD0, hSh, va_S.rf, hA, cX.rf⟩
  have h17 : 0 < cn σ 17 := c_17 hM
  have hr := B.returns
  have hlk := B.notSynchronized
  have hx := C.1
  have hb := C.2.1
  have hl := lv_entry ([cr α 3 (some 0), cr α 6 x1, .int x2]) (n := 5) (by simp [lg_r, lg_i, lg_l, lg_n])
  rw [lg_entry_eq]
  generalize (lg_sl ([cr α 3 (some 0), cr α 6 x1, .int x2]) ++ List.replicate (5 - (lg_sl ([cr α 3 (some 0), cr α 6 x1, .int x2])).length) Slot.unset).toArray = ls at hl ⊢
  have hl : lv_has ls 5 [(0, cr α 3 (some 0)), (1, cr α 6 x1), (2, .int x2)] := (lv_to hl (by simp only [la_r, la_i, la_l, la_n]))
  unfold fc_X3_countIn at h
  refine lv_iconst (v := (0 : Int32)) hx hb dX3_countIn_0 (by decide) ?_
  refine lv_istore_n (lv' := [(3, .int (0 : Int32)), (0, cr α 3 (some 0)), (1, cr α 6 x1), (2, .int x2)]) hx hb dX3_countIn_1 rfl hl (by decide) rfl (fun ls hl => ?_)
  refine lv_iconst (v := (0 : Int32)) hx hb dX3_countIn_2 (by decide) ?_
  refine lv_istore (lv' := [(4, .int (0 : Int32)), (3, .int (0 : Int32)), (0, cr α 3 (some 0)), (1, cr α 6 x1), (2, .int x2)]) hx hb dX3_countIn_3 hl (by decide) rfl (fun ls hl => ?_)
  exact gc_X3_countIn_5 C hr hlk h17  _ _ _ _ _ _ _ _ _ hM (lv_sub hl [2, 3, 4, 1, 0] rfl) h
/-! Lorewick$Rules.goalsReached(LLorewick$State;)I -/
abbrev rc_X3_goalsReached : Room := { frames := 0, cells := 0, slots := 0, locals := 0 }
def fc_X3_goalsReached_44 (k_4 : cS → Option Nat → Int32 → Int32 → Option (Int32 × cS)) (σ : cS) (x1 : Option Nat) (x2 : Int32) (x3 : Int32) : Option (Int32 × cS) :=
    k_4 σ x1 x2 (x3 + (1 : Int32))
set_option maxHeartbeats 4000000 in
set_option maxRecDepth 100000 in
theorem gc_X3_goalsReached_44 {p : Program} {l : Launch} {e : Env} {s : State} {m : MethodId} {args : Array Value} {below : List Frame} {meth : Method} {c : Code} {D : va_G} {ca : Nat → ClassId} {A : Nat → Prop} {σ0 : cS} {α : cAl} {o : Int32 × cS} {k_4 : cS → Option Nat → Int32 → Int32 → Option (Int32 × cS)} (C : cC p s m args c cX3_goalsReached 4 RX3 D ca A α) (hr : meth.sig.returnType = (some FieldType.int)) (hlk : meth.locks = false) (h17 : 0 < cn σ0 17) (hk_4 : ∀ (σ : cS) (x1 : Option Nat) (x2 : Int32) (x3 : Int32) (H : Heap) (locs : List Loc) (ls : Array Slot), cM D ca true A s.heap σ0 α σ α H locs → lv_has ls 4 [(0, cr α 3 (some 0)), (1, cr α 6 x1), (2, .int x2), (3, .int x3)] → k_4 σ x1 x2 x3 = some o → W p l e rc_X3_goalsReached s m args below meth c H locs 0 0 (MQ below (cQ false D ca true A α σ0 (fun _ => some (.int o.1)) o.2) args s 0 0 A) (F0 m 4 ls [])) : ∀ (σ : cS) (x1 : Option Nat) (x2 : Int32) (x3 : Int32) (H : Heap) (locs : List Loc) (ls : Array Slot), cM D ca true A s.heap σ0 α σ α H locs → lv_has ls 4 [(0, cr α 3 (some 0)), (1, cr α 6 x1), (2, .int x2), (3, .int x3)] → fc_X3_goalsReached_44 k_4 σ x1 x2 x3 = some o → W p l e rc_X3_goalsReached s m args below meth c H locs 0 0 (MQ below (cQ false D ca true A α σ0 (fun _ => some (.int o.1)) o.2) args s 0 0 A) (F0 m 44 ls []) := by
  have hx := C.1
  have hb := C.2.1
  intro σ x1 x2 x3 H locs ls hM hl h
  unfold fc_X3_goalsReached_44 at h
  refine lv_iinc (v := (x3 + (1 : Int32))) (lv' := [(3, .int (x3 + (1 : Int32))), (0, cr α 3 (some 0)), (1, cr α 6 x1), (2, .int x2)]) hx hb dX3_goalsReached_44 hl (k := 3) rfl rfl (by decide) rfl (fun ls hl => ?_)
  refine lv_goto (tgt := 4) hx hb dX3_goalsReached_47 (by decide) ?_
  exact hk_4 _ _ _ _ _ _ _ hM (lv_sub hl [1, 2, 3, 0] rfl) h
def fc_X3_goalsReached_4 : Nat → cS → Option Nat → Int32 → Int32 → Option (Int32 × cS)
  | 0, _, _, _, _ => none
  | n + 1, σ, x1, x2, x3 =>
    if (cI σ 2 0 16) ≤ x3 then
      some (x2, σ)
    else
      (dr σ 6 x1).bind fun i_1 =>
      if x3 < 0 ∨ 6 ≤ x3.toNatClampNeg then none else
      (dr σ 12 (cR σ 6 i_1 1)).bind fun i_2 =>
      if (cI σ 12 8 x3.toNatClampNeg) < 0 ∨ cln σ 12 i_2 ≤ (cI σ 12 8 x3.toNatClampNeg).toNatClampNeg then none else
      if x3 < 0 ∨ 6 ≤ x3.toNatClampNeg then none else
      if (cI σ 12 i_2 (cI σ 12 8 x3.toNatClampNeg).toNatClampNeg) = (cI σ 12 9 x3.toNatClampNeg) then
        fc_X3_goalsReached_44 (fc_X3_goalsReached_4 n) σ x1 (x2 + (1 : Int32)) x3
      else
        fc_X3_goalsReached_44 (fc_X3_goalsReached_4 n) σ x1 x2 x3
set_option maxHeartbeats 4000000 in
set_option maxRecDepth 100000 in
theorem gc_X3_goalsReached_4 {p : Program} {l : Launch} {e : Env} {s : State} {m : MethodId} {args : Array Value} {below : List Frame} {meth : Method} {c : Code} {D : va_G} {ca : Nat → ClassId} {A : Nat → Prop} {σ0 : cS} {α : cAl} {o : Int32 × cS} (C : cC p s m args c cX3_goalsReached 4 RX3 D ca A α) (hr : meth.sig.returnType = (some FieldType.int)) (hlk : meth.locks = false) (h17 : 0 < cn σ0 17) : ∀ (n : Nat) (σ : cS) (x1 : Option Nat) (x2 : Int32) (x3 : Int32) (H : Heap) (locs : List Loc) (ls : Array Slot), cM D ca true A s.heap σ0 α σ α H locs → lv_has ls 4 [(0, cr α 3 (some 0)), (1, cr α 6 x1), (2, .int x2), (3, .int x3)] → fc_X3_goalsReached_4 n σ x1 x2 x3 = some o → W p l e rc_X3_goalsReached s m args below meth c H locs 0 0 (MQ below (cQ false D ca true A α σ0 (fun _ => some (.int o.1)) o.2) args s 0 0 A) (F0 m 4 ls []) := by
  have hx := C.1
  have hb := C.2.1
  intro n
  induction n with
  | zero =>
    intro σ x1 x2 x3 H locs ls hM hl h
    cases h
  | succ n ih =>
    intro σ x1 x2 x3 H locs ls hM hl h
    rw [fc_X3_goalsReached_4] at h
    refine lv_iload_n hx hb dX3_goalsReached_4 rfl (lv_at hl 3 rfl) ?_
    refine c_aload_n (t := 3) (x := (some 0)) hx hb dX3_goalsReached_5 rfl (lv_at hl 0 rfl) ?_
    refine c_getb C hM (k := 3) (f := 0) (j := 0) (t := 2) (hM.cst 3 0 rfl) (by decide) fl_X3_15 dX3_goalsReached_6 ?_
    refine c_geti C hM (k := 2) (f := 16) (hM.cst 2 0 rfl) rfl fl_X3_84 dX3_goalsReached_9 ?_
    refine lv_icmp_ge (tgt := 50) hx hb dX3_goalsReached_12 (by decide) (fun c_1 => ?_) (fun c_1 => ?_)
    · have h := br_T c_1 h
      refine lv_iload_n hx hb dX3_goalsReached_50 rfl (lv_at hl 2 rfl) ?_
      exact c_ri C hM (fun _ => rfl) hr hlk dX3_goalsReached_51 h
    · have h := br_F c_1 h
      refine c_aload_n (t := 6) (x := x1) hx hb dX3_goalsReached_15 rfl (lv_at hl 1 rfl) ?_
      obtain ⟨i_1, hd_1, h⟩ := bd_of h
      refine c_getrt C hM (k := 6) (f := 1) (t := 12) hd_1 (by decide) fl_X3_25 dX3_goalsReached_16 ?_
      refine c_aload_n (t := 3) (x := (some 0)) hx hb dX3_goalsReached_19 rfl (lv_at hl 0 rfl) ?_
      refine c_getb C hM (k := 3) (f := 0) (j := 0) (t := 2) (hM.cst 3 0 rfl) (by decide) fl_X3_15 dX3_goalsReached_20 ?_
      refine c_getb C hM (k := 2) (f := 14) (j := 8) (t := 12) (hM.cst 2 0 rfl) (by decide) fl_X3_87 dX3_goalsReached_23 ?_
      refine lv_iload_n hx hb dX3_goalsReached_26 rfl (lv_at hl 3 rfl) ?_
      obtain ⟨c_2, h⟩ := ko_of h
      refine c_iald C hM (hM.cst 12 8 rfl) (by rw [hM.ln 12 8 6 (by decide)]; exact c_2) dX3_goalsReached_27 ?_
      obtain ⟨i_2, hd_2, h⟩ := bd_of h
      obtain ⟨c_3, h⟩ := ko_of h
      refine c_iald C hM hd_2 c_3 dX3_goalsReached_28 ?_
      refine c_aload_n (t := 3) (x := (some 0)) hx hb dX3_goalsReached_29 rfl (lv_at hl 0 rfl) ?_
      refine c_getb C hM (k := 3) (f := 0) (j := 0) (t := 2) (hM.cst 3 0 rfl) (by decide) fl_X3_15 dX3_goalsReached_30 ?_
      refine c_getb C hM (k := 2) (f := 15) (j := 9) (t := 12) (hM.cst 2 0 rfl) (by decide) fl_X3_90 dX3_goalsReached_33 ?_
      refine lv_iload_n hx hb dX3_goalsReached_36 rfl (lv_at hl 3 rfl) ?_
      obtain ⟨c_4, h⟩ := ko_of h
      refine c_iald C hM (hM.cst 12 9 rfl) (by rw [hM.ln 12 9 6 (by decide)]; exact c_4) dX3_goalsReached_37 ?_
      refine lv_icmp_ne (tgt := 44) hx hb dX3_goalsReached_38 (by decide) (fun c_5 => ?_) (fun c_5 => ?_)
      · have h := br_F c_5 h
        exact gc_X3_goalsReached_44 C hr hlk h17 ih _ _ _ _ _ _ _ hM (lv_sub hl [0, 1, 2, 3] rfl) h
      · have h := br_T c_5 h
        refine lv_iinc (v := (x2 + (1 : Int32))) (lv' := [(2, .int (x2 + (1 : Int32))), (0, cr α 3 (some 0)), (1, cr α 6 x1), (3, .int x3)]) hx hb dX3_goalsReached_41 hl (k := 2) rfl rfl (by decide) (by first | rfl | (simp only [List.filter, cr_cat]; rfl)) (fun ls hl => ?_)
        exact gc_X3_goalsReached_44 C hr hlk h17 ih _ _ _ _ _ _ _ hM (lv_sub hl [1, 2, 0, 3] rfl) h
def fc_X3_goalsReached (σ : cS) (x1 : Option Nat) : Option (Int32 × cS) :=
  fc_X3_goalsReached_4 3000 σ x1 (0 : Int32) (0 : Int32)
set_option maxHeartbeats 4000000 in
set_option maxRecDepth 100000 in
theorem cc_X3_goalsReached (l : Launch) (D : va_G) (ca : Nat → ClassId) (A : Nat → Prop) (α : cAl) (σ : cS) (x1 : Option Nat) (o : Int32 × cS) (h : fc_X3_goalsReached σ x1 = some o) : cMet false l yX3_goalsReached cX3_goalsReached 4 ((some FieldType.int)) rc_X3_goalsReached 0 0 D ca true A α σ [cr α 3 (some 0), cr α 6 x1] (fun _ => some (.int o.1)) o.2 := by
  refine Met.ofW (cc := cX3_goalsReached) (maxL := 4) (ret := (some FieldType.int)) (by decide) rfl ?_
  intro p e s m args below meth c s₁ B hml hv
  obtain ⟨rfl, hP, hK, hD0, hSh, hA, hG⟩ := hv
  have C : cC p s m _ c cX3_goalsReached 4 RX3 D ca A α := ⟨B.exec, B.bytes, hml, findClass_of_methodNamed B.named, fun w hw => atoms_spec (ws := mWs yX3_goalsReached cX3_goalsReached 4 ((some FieldType.int))) B.pre w (List.mem_cons_of_mem _ hw), hK, hG⟩
  have hM : cM D ca true A s.heap σ α σ α s.heap [] := ⟨hP, hD0, hSh, va_S.rf, hA, cX.rf⟩
  have h17 : 0 < cn σ 17 := c_17 hM
  have hr := B.returns
  have hlk := B.notSynchronized
  have hx := C.1
  have hb := C.2.1
  have hl := lv_entry ([cr α 3 (some 0), cr α 6 x1]) (n := 4) (by simp [lg_r, lg_i, lg_l, lg_n])
  rw [lg_entry_eq]
  generalize (lg_sl ([cr α 3 (some 0), cr α 6 x1]) ++ List.replicate (4 - (lg_sl ([cr α 3 (some 0), cr α 6 x1])).length) Slot.unset).toArray = ls at hl ⊢
  have hl : lv_has ls 4 [(0, cr α 3 (some 0)), (1, cr α 6 x1)] := (lv_to hl (by simp only [la_r, la_i, la_l, la_n]))
  unfold fc_X3_goalsReached at h
  refine lv_iconst (v := (0 : Int32)) hx hb dX3_goalsReached_0 (by decide) ?_
  refine lv_istore_n (lv' := [(2, .int (0 : Int32)), (0, cr α 3 (some 0)), (1, cr α 6 x1)]) hx hb dX3_goalsReached_1 rfl hl (by decide) (by first | rfl | (simp only [List.filter, cr_cat]; rfl)) (fun ls hl => ?_)
  refine lv_iconst (v := (0 : Int32)) hx hb dX3_goalsReached_2 (by decide) ?_
  refine lv_istore_n (lv' := [(3, .int (0 : Int32)), (2, .int (0 : Int32)), (0, cr α 3 (some 0)), (1, cr α 6 x1)]) hx hb dX3_goalsReached_3 rfl hl (by decide) rfl (fun ls hl => ?_)
  exact gc_X3_goalsReached_4 C hr hlk h17  _ _ _ _ _ _ _ _ hM (lv_sub hl [2, 3, 1, 0] rfl) h
/-! Lorewick$Rules.roomBehind(LLorewick$State;II)I -/
abbrev rc_X3_roomBehind : Room := { frames := 0, cells := 0, slots := 0, locals := 0 }
def fc_X3_roomBehind_52 (σ : cS) (s0 : Int32) : Option (Int32 × cS) :=
    some (s0, σ)
set_option maxHeartbeats 4000000 in
set_option maxRecDepth 100000 in
theorem gc_X3_roomBehind_52 {p : Program} {l : Launch} {e : Env} {s : State} {m : MethodId} {args : Array Value} {below : List Frame} {meth : Method} {c : Code} {D : va_G} {ca : Nat → ClassId} {A : Nat → Prop} {σ0 : cS} {α : cAl} {o : Int32 × cS} (C : cC p s m args c cX3_roomBehind 6 RX3 D ca A α) (hr : meth.sig.returnType = (some FieldType.int)) (hlk : meth.locks = false) (h17 : 0 < cn σ0 17) : ∀ (σ : cS) (s0 : Int32) (H : Heap) (locs : List Loc) (ls : Array Slot), cM D ca true A s.heap σ0 α σ α H locs → lv_has ls 6 [] → fc_X3_roomBehind_52 σ s0 = some o → W p l e rc_X3_roomBehind s m args below meth c H locs 0 0 (MQ below (cQ false D ca true A α σ0 (fun _ => some (.int o.1)) o.2) args s 0 0 A) (F0 m 52 ls [.int s0]) := by
  have hx := C.1
  have hb := C.2.1
  intro σ s0 H locs ls hM hl h
  unfold fc_X3_roomBehind_52 at h
  exact c_ri C hM (fun _ => rfl) hr hlk dX3_roomBehind_52 h
def fc_X3_roomBehind_38 (σ : cS) (x4 : Int32) : Option (Int32 × cS) :=
    if x4 < 0 ∨ 72 ≤ x4.toNatClampNeg then none else
    fc_X3_roomBehind_52 σ (cI σ 12 2 x4.toNatClampNeg)
set_option maxHeartbeats 4000000 in
set_option maxRecDepth 100000 in
theorem gc_X3_roomBehind_38 {p : Program} {l : Launch} {e : Env} {s : State} {m : MethodId} {args : Array Value} {below : List Frame} {meth : Method} {c : Code} {D : va_G} {ca : Nat → ClassId} {A : Nat → Prop} {σ0 : cS} {α : cAl} {o : Int32 × cS} (C : cC p s m args c cX3_roomBehind 6 RX3 D ca A α) (hr : meth.sig.returnType = (some FieldType.int)) (hlk : meth.locks = false) (h17 : 0 < cn σ0 17) : ∀ (σ : cS) (x4 : Int32) (H : Heap) (locs : List Loc) (ls : Array Slot), cM D ca true A s.heap σ0 α σ α H locs → lv_has ls 6 [(0, cr α 3 (some 0)), (4, .int x4)] → fc_X3_roomBehind_38 σ x4 = some o → W p l e rc_X3_roomBehind s m args below meth c H locs 0 0 (MQ below (cQ false D ca true A α σ0 (fun _ => some (.int o.1)) o.2) args s 0 0 A) (F0 m 38 ls []) := by
  have hx := C.1
  have hb := C.2.1
  intro σ x4 H locs ls hM hl h
  unfold fc_X3_roomBehind_38 at h
  refine c_aload_n (t := 3) (x := (some 0)) hx hb dX3_roomBehind_38 rfl (lv_at hl 0 rfl) ?_
  refine c_getb C hM (k := 3) (f := 0) (j := 0) (t := 2) (hM.cst 3 0 rfl) (by decide) fl_X3_15 dX3_roomBehind_39 ?_
  refine c_getb C hM (k := 2) (f := 4) (j := 2) (t := 12) (hM.cst 2 0 rfl) (by decide) fl_X3_96 dX3_roomBehind_42 ?_
  refine lv_iload hx hb dX3_roomBehind_45 (lv_at hl 1 rfl) ?_
  obtain ⟨c_1, h⟩ := ko_of h
  refine c_iald C hM (hM.cst 12 2 rfl) (by rw [hM.ln 12 2 72 (by decide)]; exact c_1) dX3_roomBehind_47 ?_
  refine lv_goto (tgt := 52) hx hb dX3_roomBehind_48 (by decide) ?_
  exact gc_X3_roomBehind_52 C hr hlk h17  _ _ _ _ _ hM (lv_sub hl [] rfl) h
def fc_X3_roomBehind (σ : cS) (x1 : Option Nat) (x2 : Int32) (x3 : Int32) : Option (Int32 × cS) :=
  if ((x2 * (6 : Int32)) + x3) < 0 ∨ 72 ≤ ((x2 * (6 : Int32)) + x3).toNatClampNeg then none else
  if (cI σ 12 3 ((x2 * (6 : Int32)) + x3).toNatClampNeg) = (-1 : Int32) then
    fc_X3_roomBehind_38 σ ((x2 * (6 : Int32)) + x3)
  else
    (dr σ 6 x1).bind fun i_1 =>
    (dr σ 12 (cR σ 6 i_1 1)).bind fun i_2 =>
    if (cI σ 12 3 ((x2 * (6 : Int32)) + x3).toNatClampNeg) < 0 ∨ cln σ 12 i_2 ≤ (cI σ 12 3 ((x2 * (6 : Int32)) + x3).toNatClampNeg).toNatClampNeg then none else
    if (cI σ 12 i_2 (cI σ 12 3 ((x2 * (6 : Int32)) + x3).toNatClampNeg).toNatClampNeg) = (100 : Int32) then
      fc_X3_roomBehind_38 σ ((x2 * (6 : Int32)) + x3)
    else
      fc_X3_roomBehind_52 σ (-1 : Int32)
set_option maxHeartbeats 4000000 in
set_option maxRecDepth 100000 in
theorem cc_X3_roomBehind (l : Launch) (D : va_G) (ca : Nat → ClassId) (A : Nat → Prop) (α : cAl) (σ : cS) (x1 : Option Nat) (x2 : Int32) (x3 : Int32) (o : Int32 × cS) (h : fc_X3_roomBehind σ x1 x2 x3 = some o) : cMet false l yX3_roomBehind cX3_roomBehind 6 ((some FieldType.int)) rc_X3_roomBehind 0 0 D ca true A α σ [cr α 3 (some 0), cr α 6 x1, .int x2, .int x3] (fun _ => some (.int o.1)) o.2 := by
  refine Met.ofW (cc := cX3_roomBehind) (maxL := 6) (ret := (some FieldType.int)) (by decide) rfl ?_
  intro p e s m args below meth c s₁ B hml hv
  obtain ⟨rfl, hP, hK, hD0, hSh, hA, hG⟩ := hv
  have C : cC p s m _ c cX3_roomBehind 6 RX3 D ca A α := ⟨B.exec, B.bytes, hml, findClass_of_methodNamed B.named, fun w hw => atoms_spec (ws := mWs yX3_roomBehind cX3_roomBehind 6 ((some FieldType.int))) B.pre w (List.mem_cons_of_mem _ hw), hK, hG⟩
  have hM : cM D ca true A s.heap σ α σ α s.heap [] := ⟨hP, hD0, hSh, va_S.rf, hA, cX.rf⟩
  have h17 : 0 < cn σ 17 := c_17 hM
  have hr := B.returns
  have hlk := B.notSynchronized
  have hx := C.1
  have hb := C.2.1
  have hl := lv_entry ([cr α 3 (some 0), cr α 6 x1, .int x2, .int x3]) (n := 6) (by simp [lg_r, lg_i, lg_l, lg_n])
  rw [lg_entry_eq]
  generalize (lg_sl ([cr α 3 (some 0), cr α 6 x1, .int x2, .int x3]) ++ List.replicate (6 - (lg_sl ([cr α 3 (some 0), cr α 6 x1, .int x2, .int x3])).length) Slot.unset).toArray = ls at hl ⊢
  have hl : lv_has ls 6 [(0, cr α 3 (some 0)), (1, cr α 6 x1), (2, .int x2), (3, .int x3)] := (lv_to hl (by simp only [la_r, la_i, la_l, la_n]))
  unfold fc_X3_roomBehind at h
  refine lv_iload_n hx hb dX3_roomBehind_0 rfl (lv_at hl 2 rfl) ?_
  refine lv_bipush (v := (6 : Int32)) hx hb dX3_roomBehind_1 (by decide) ?_
  refine lv_imul hx hb dX3_roomBehind_3 ?_
  refine lv_iload_n hx hb dX3_roomBehind_4 rfl (lv_at hl 3 rfl) ?_
  refine lv_iadd hx hb dX3_roomBehind_5 ?_
  refine lv_istore (lv' := [(4, .int ((x2 * (6 : Int32)) + x3)), (0, cr α 3 (some 0)), (1, cr α 6 x1), (2, .int x2), (3, .int x3)]) hx hb dX3_roomBehind_6 hl (by decide) rfl (fun ls hl => ?_)
  refine c_aload_n (t := 3) (x := (some 0)) hx hb dX3_roomBehind_8 rfl (lv_at hl 1 rfl) ?_
  refine c_getb C hM (k := 3) (f := 0) (j := 0) (t := 2) (hM.cst 3 0 rfl) (by decide) fl_X3_15 dX3_roomBehind_9 ?_
  refine c_getb C hM (k := 2) (f := 5) (j := 3) (t := 12) (hM.cst 2 0 rfl) (by decide) fl_X3_93 dX3_roomBehind_12 ?_
  refine lv_iload hx hb dX3_roomBehind_15 (lv_at hl 0 rfl) ?_
  obtain ⟨c_1, h⟩ := ko_of h
  refine c_iald C hM (hM.cst 12 3 rfl) (by rw [hM.ln 12 3 72 (by decide)]; exact c_1) dX3_roomBehind_17 ?_
  refine lv_istore (lv' := [(5, .int (cI σ 12 3 ((x2 * (6 : Int32)) + x3).toNatClampNeg)), (4, .int ((x2 * (6 : Int32)) + x3)), (0, cr α 3 (some 0)), (1, cr α 6 x1), (2, .int x2), (3, .int x3)]) hx hb dX3_roomBehind_18 hl (by decide) rfl (fun ls hl => ?_)
  refine lv_iload hx hb dX3_roomBehind_20 (lv_at hl 0 rfl) ?_
  refine lv_iconst (v := (-1 : Int32)) hx hb dX3_roomBehind_22 (by decide) ?_
  refine lv_icmp_eq (tgt := 38) hx hb dX3_roomBehind_23 (by decide) (fun c_2 => ?_) (fun c_2 => ?_)
  · have h := br_T c_2 h
    exact gc_X3_roomBehind_38 C hr hlk h17  _ _ _ _ _ hM (lv_sub hl [2, 1] rfl) h
  · have h := br_F c_2 h
    refine c_aload_n (t := 6) (x := x1) hx hb dX3_roomBehind_26 rfl (lv_at hl 3 rfl) ?_
    obtain ⟨i_1, hd_1, h⟩ := bd_of h
    refine c_getrt C hM (k := 6) (f := 1) (t := 12) hd_1 (by decide) fl_X3_25 dX3_roomBehind_27 ?_
    refine lv_iload hx hb dX3_roomBehind_30 (lv_at hl 0 rfl) ?_
    obtain ⟨i_2, hd_2, h⟩ := bd_of h
    obtain ⟨c_3, h⟩ := ko_of h
    refine c_iald C hM hd_2 c_3 dX3_roomBehind_32 ?_
    refine lv_bipush (v := (100 : Int32)) hx hb dX3_roomBehind_33 (by decide) ?_
    refine lv_icmp_ne (tgt := 51) hx hb dX3_roomBehind_35 (by decide) (fun c_4 => ?_) (fun c_4 => ?_)
    · have h := br_F c_4 h
      refine lv_iconst (v := (-1 : Int32)) hx hb dX3_roomBehind_51 (by decide) ?_
      exact gc_X3_roomBehind_52 C hr hlk h17  _ _ _ _ _ hM (lv_sub hl [] rfl) h
    · have h := br_T c_4 h
      exact gc_X3_roomBehind_38 C hr hlk h17  _ _ _ _ _ hM (lv_sub hl [2, 1] rfl) h
/-! Lorewick$Rules.goFurther(LLorewick$State;I)V -/
abbrev rc_X3_goFurther : Room := { frames := 1, cells := 0, slots := 0, locals := 25 }
def fc_X3_goFurther_70 (k_2 : cS → Option Nat → Int32 → Int32 → Option (cS)) (k_16 : cS → Option Nat → Int32 → Int32 → Int32 → Option (cS)) (σ : cS) (x1 : Option Nat) (x2 : Int32) (x3 : Int32) (x4 : Int32) : Option (cS) :=
    k_16 σ x1 x2 x3 (x4 + (1 : Int32))
set_option maxHeartbeats 4000000 in
set_option maxRecDepth 100000 in
theorem gc_X3_goFurther_70 {p : Program} {l : Launch} {e : Env} {s : State} {m : MethodId} {args : Array Value} {below : List Frame} {meth : Method} {c : Code} {D : va_G} {ca : Nat → ClassId} {A : Nat → Prop} {σ0 : cS} {α : cAl} {o : cS} {k_2 : cS → Option Nat → Int32 → Int32 → Option (cS)} {k_16 : cS → Option Nat → Int32 → Int32 → Int32 → Option (cS)} (C : cC p s m args c cX3_goFurther 6 RX3 D ca A α) (hr : meth.sig.returnType = (none : Option FieldType)) (hlk : meth.locks = false) (h17 : 0 < cn σ0 17) (hk_2 : ∀ (σ : cS) (x1 : Option Nat) (x2 : Int32) (x3 : Int32) (H : Heap) (locs : List Loc) (ls : Array Slot), cM D ca true A s.heap σ0 α σ α H locs → lv_has ls 6 [(0, cr α 3 (some 0)), (1, cr α 6 x1), (2, .int x2), (3, .int x3)] → k_2 σ x1 x2 x3 = some o → W p l e rc_X3_goFurther s m args below meth c H locs 0 0 (MQ below (cQ false D ca true A α σ0 (fun _ => none) o) args s 0 0 A) (F0 m 2 ls [])) (hk_16 : ∀ (σ : cS) (x1 : Option Nat) (x2 : Int32) (x3 : Int32) (x4 : Int32) (H : Heap) (locs : List Loc) (ls : Array Slot), cM D ca true A s.heap σ0 α σ α H locs → lv_has ls 6 [(0, cr α 3 (some 0)), (1, cr α 6 x1), (2, .int x2), (3, .int x3), (4, .int x4)] → k_16 σ x1 x2 x3 x4 = some o → W p l e rc_X3_goFurther s m args below meth c H locs 0 0 (MQ below (cQ false D ca true A α σ0 (fun _ => none) o) args s 0 0 A) (F0 m 16 ls [])) : ∀ (σ : cS) (x1 : Option Nat) (x2 : Int32) (x3 : Int32) (x4 : Int32) (H : Heap) (locs : List Loc) (ls : Array Slot), cM D ca true A s.heap σ0 α σ α H locs → lv_has ls 6 [(0, cr α 3 (some 0)), (1, cr α 6 x1), (2, .int x2), (3, .int x3), (4, .int x4)] → fc_X3_goFurther_70 k_2 k_16 σ x1 x2 x3 x4 = some o → W p l e rc_X3_goFurther s m args below meth c H locs 0 0 (MQ below (cQ false D ca true A α σ0 (fun _ => none) o) args s 0 0 A) (F0 m 70 ls []) := by
  have hx := C.1
  have hb := C.2.1
  intro σ x1 x2 x3 x4 H locs ls hM hl h
  unfold fc_X3_goFurther_70 at h
  refine lv_iinc (v := (x4 + (1 : Int32))) (lv' := [(4, .int (x4 + (1 : Int32))), (0, cr α 3 (some 0)), (1, cr α 6 x1), (2, .int x2), (3, .int x3)]) hx hb dX3_goFurther_70 hl (k := 4) rfl rfl (by decide) rfl (fun ls hl => ?_)
  refine lv_goto (tgt := 16) hx hb dX3_goFurther_73 (by decide) ?_
  exact hk_16 _ _ _ _ _ _ _ _ hM (lv_sub hl [1, 2, 3, 4, 0] rfl) h
def fc_X3_goFurther_76 (k_2 : cS → Option Nat → Int32 → Int32 → Option (cS)) (σ : cS) (x1 : Option Nat) (x2 : Int32) (x3 : Int32) : Option (cS) :=
    k_2 σ x1 x2 (x3 + (1 : Int32))
set_option maxHeartbeats 4000000 in
set_option maxRecDepth 100000 in
theorem gc_X3_goFurther_76 {p : Program} {l : Launch} {e : Env} {s : State} {m : MethodId} {args : Array Value} {below : List Frame} {meth : Method} {c : Code} {D : va_G} {ca : Nat → ClassId} {A : Nat → Prop} {σ0 : cS} {α : cAl} {o : cS} {k_2 : cS → Option Nat → Int32 → Int32 → Option (cS)} (C : cC p s m args c cX3_goFurther 6 RX3 D ca A α) (hr : meth.sig.returnType = (none : Option FieldType)) (hlk : meth.locks = false) (h17 : 0 < cn σ0 17) (hk_2 : ∀ (σ : cS) (x1 : Option Nat) (x2 : Int32) (x3 : Int32) (H : Heap) (locs : List Loc) (ls : Array Slot), cM D ca true A s.heap σ0 α σ α H locs → lv_has ls 6 [(0, cr α 3 (some 0)), (1, cr α 6 x1), (2, .int x2), (3, .int x3)] → k_2 σ x1 x2 x3 = some o → W p l e rc_X3_goFurther s m args below meth c H locs 0 0 (MQ below (cQ false D ca true A α σ0 (fun _ => none) o) args s 0 0 A) (F0 m 2 ls [])) : ∀ (σ : cS) (x1 : Option Nat) (x2 : Int32) (x3 : Int32) (H : Heap) (locs : List Loc) (ls : Array Slot), cM D ca true A s.heap σ0 α σ α H locs → lv_has ls 6 [(0, cr α 3 (some 0)), (1, cr α 6 x1), (2, .int x2), (3, .int x3)] → fc_X3_goFurther_76 k_2 σ x1 x2 x3 = some o → W p l e rc_X3_goFurther s m args below meth c H locs 0 0 (MQ below (cQ false D ca true A α σ0 (fun _ => none) o) args s 0 0 A) (F0 m 76 ls []) := by
  have hx := C.1
  have hb := C.2.1
  intro σ x1 x2 x3 H locs ls hM hl h
  unfold fc_X3_goFurther_76 at h
  refine lv_iinc (v := (x3 + (1 : Int32))) (lv' := [(3, .int (x3 + (1 : Int32))), (0, cr α 3 (some 0)), (1, cr α 6 x1), (2, .int x2)]) hx hb dX3_goFurther_76 hl (k := 3) rfl rfl (by decide) rfl (fun ls hl => ?_)
  refine lv_goto (tgt := 2) hx hb dX3_goFurther_79 (by decide) ?_
  exact hk_2 _ _ _ _ _ _ _ hM (lv_sub hl [1, 2, 3, 0] rfl) h
def fc_X3_goFurther_16 (k_2 : cS → Option Nat → Int32 → Int32 → Option (cS)) : Nat → cS → Option Nat → Int32 → Int32 → Int32 → Option (cS)
  | 0, _, _, _, _, _ => none
  | n + 1, σ, x1, x2, x3, x4 =>
    if (6 : Int32) ≤ x4 then
      fc_X3_goFurther_76 k_2 σ x1 x2 x3
    else
      if x3 < 0 ∨ 12 ≤ x3.toNatClampNeg then none else
      if (cI σ 12 10 x3.toNatClampNeg) = x2 then
        (fc_X3_roomBehind σ x1 x3 x4).bind fun r_1 =>
        if r_1.1 = (-1 : Int32) then
          fc_X3_goFurther_70 k_2 (fc_X3_goFurther_16 k_2 n) r_1.2 x1 x2 x3 x4
        else
          if r_1.1 < 0 ∨ 12 ≤ r_1.1.toNatClampNeg then none else
          if (cI r_1.2 12 10 r_1.1.toNatClampNeg) = (-1 : Int32) then
            if r_1.1 < 0 ∨ 12 ≤ r_1.1.toNatClampNeg then none else
            fc_X3_goFurther_70 k_2 (fc_X3_goFurther_16 k_2 n) (uI r_1.2 12 10 r_1.1.toNatClampNeg (x2 + (1 : Int32))) x1 x2 x3 x4
          else
            fc_X3_goFurther_70 k_2 (fc_X3_goFurther_16 k_2 n) r_1.2 x1 x2 x3 x4
      else
        fc_X3_goFurther_76 k_2 σ x1 x2 x3
set_option maxHeartbeats 4000000 in
set_option maxRecDepth 100000 in
theorem gc_X3_goFurther_16 {p : Program} {l : Launch} {e : Env} {s : State} {m : MethodId} {args : Array Value} {below : List Frame} {meth : Method} {c : Code} {D : va_G} {ca : Nat → ClassId} {A : Nat → Prop} {σ0 : cS} {α : cAl} {o : cS} {k_2 : cS → Option Nat → Int32 → Int32 → Option (cS)} (C : cC p s m args c cX3_goFurther 6 RX3 D ca A α) (hr : meth.sig.returnType = (none : Option FieldType)) (hlk : meth.locks = false) (h17 : 0 < cn σ0 17) (hk_2 : ∀ (σ : cS) (x1 : Option Nat) (x2 : Int32) (x3 : Int32) (H : Heap) (locs : List Loc) (ls : Array Slot), cM D ca true A s.heap σ0 α σ α H locs → lv_has ls 6 [(0, cr α 3 (some 0)), (1, cr α 6 x1), (2, .int x2), (3, .int x3)] → k_2 σ x1 x2 x3 = some o → W p l e rc_X3_goFurther s m args below meth c H locs 0 0 (MQ below (cQ false D ca true A α σ0 (fun _ => none) o) args s 0 0 A) (F0 m 2 ls [])) : ∀ (n : Nat) (σ : cS) (x1 : Option Nat) (x2 : Int32) (x3 : Int32) (x4 : Int32) (H : Heap) (locs : List Loc) (ls : Array Slot), cM D ca true A s.heap σ0 α σ α H locs → lv_has ls 6 [(0, cr α 3 (some 0)), (1, cr α 6 x1), (2, .int x2), (3, .int x3), (4, .int x4)] → fc_X3_goFurther_16 k_2 n σ x1 x2 x3 x4 = some o → W p l e rc_X3_goFurther s m args below meth c H locs 0 0 (MQ below (cQ false D ca true A α σ0 (fun _ => none) o) args s 0 0 A) (F0 m 16 ls []) := by
  have hx := C.1
  have hb := C.2.1
  intro n
  induction n with
  | zero =>
    intro σ x1 x2 x3 x4 H locs ls hM hl h
    cases h
  | succ n ih =>
    intro σ x1 x2 x3 x4 H locs ls hM hl h
    rw [fc_X3_goFurther_16] at h
    refine lv_iload hx hb dX3_goFurther_16 (lv_at hl 4 rfl) ?_
    refine lv_bipush (v := (6 : Int32)) hx hb dX3_goFurther_18 (by decide) ?_
    refine lv_icmp_ge (tgt := 76) hx hb dX3_goFurther_20 (by decide) (fun c_1 => ?_) (fun c_1 => ?_)
    · have h := br_T c_1 h
      exact gc_X3_goFurther_76 C hr hlk h17 hk_2 _ _ _ _ _ _ _ hM (lv_sub hl [0, 1, 2, 3] rfl) h
    · have h := br_F c_1 h
      refine c_aload_n (t := 3) (x := (some 0)) hx hb dX3_goFurther_23 rfl (lv_at hl 0 rfl) ?_
      refine c_getb C hM (k := 3) (f := 1) (j := 10) (t := 12) (hM.cst 3 0 rfl) (by decide) fl_X3_9 dX3_goFurther_24 ?_
      refine lv_iload_n hx hb dX3_goFurther_27 rfl (lv_at hl 3 rfl) ?_
      obtain ⟨c_2, h⟩ := ko_of h
      refine c_iald C hM (hM.cst 12 10 rfl) (by rw [hM.ln 12 10 12 (by decide)]; exact c_2) dX3_goFurther_28 ?_
      refine lv_iload_n hx hb dX3_goFurther_29 rfl (lv_at hl 2 rfl) ?_
      refine lv_icmp_ne (tgt := 76) hx hb dX3_goFurther_30 (by decide) (fun c_3 => ?_) (fun c_3 => ?_)
      · have h := br_F c_3 h
        exact gc_X3_goFurther_76 C hr hlk h17 hk_2 _ _ _ _ _ _ _ hM (lv_sub hl [0, 1, 2, 3] rfl) h
      · have h := br_T c_3 h
        refine c_aload_n (t := 3) (x := (some 0)) hx hb dX3_goFurther_33 rfl (lv_at hl 0 rfl) ?_
        refine c_aload_n (t := 6) (x := x1) hx hb dX3_goFurther_34 rfl (lv_at hl 1 rfl) ?_
        refine lv_iload_n hx hb dX3_goFurther_35 rfl (lv_at hl 3 rfl) ?_
        refine lv_iload hx hb dX3_goFurther_36 (lv_at hl 4 rfl) ?_
        obtain ⟨r_1, hr_1, h⟩ := bd_of h
        refine c_go0 (c_rV (As := [cr α 6 x1, .int x3, .int x4]) (rest := []) C hM h17 (hM.cst 3 0 rfl) (by decide) (cc_X3_roomBehind l D ca A α σ x1 x3 x4 _ hr_1) cw_X3_112 ⟨rfl, rfl⟩ ⟨Nat.le_of_ble_eq_true rfl, Nat.le_of_ble_eq_true rfl⟩ rfl rfl (cats_le _ (Nat.le_of_ble_eq_true rfl)) hl.1 dX3_goFurther_38 ⟨Nat.le_of_ble_eq_true rfl, Nat.le_of_ble_eq_true rfl⟩) hM (fun H locs hM => ?_)
        refine W_st (st' := [.int r_1.1]) rfl ?_
        refine lv_istore (lv' := [(5, .int r_1.1), (0, cr α 3 (some 0)), (1, cr α 6 x1), (2, .int x2), (3, .int x3), (4, .int x4)]) hx hb dX3_goFurther_41 hl (by decide) rfl (fun ls hl => ?_)
        refine lv_iload hx hb dX3_goFurther_43 (lv_at hl 0 rfl) ?_
        refine lv_iconst (v := (-1 : Int32)) hx hb dX3_goFurther_45 (by decide) ?_
        refine lv_icmp_eq (tgt := 70) hx hb dX3_goFurther_46 (by decide) (fun c_4 => ?_) (fun c_4 => ?_)
        · have h := br_T c_4 h
          exact gc_X3_goFurther_70 C hr hlk h17 hk_2 ih _ _ _ _ _ _ _ _ hM (lv_sub hl [1, 2, 3, 4, 5] rfl) h
        · have h := br_F c_4 h
          refine c_aload_n (t := 3) (x := (some 0)) hx hb dX3_goFurther_49 rfl (lv_at hl 1 rfl) ?_
          refine c_getb C hM (k := 3) (f := 1) (j := 10) (t := 12) (hM.cst 3 0 rfl) (by decide) fl_X3_9 dX3_goFurther_50 ?_
          refine lv_iload hx hb dX3_goFurther_53 (lv_at hl 0 rfl) ?_
          obtain ⟨c_5, h⟩ := ko_of h
          refine c_iald C hM (hM.cst 12 10 rfl) (by rw [hM.ln 12 10 12 (by decide)]; exact c_5) dX3_goFurther_55 ?_
          refine lv_iconst (v := (-1 : Int32)) hx hb dX3_goFurther_56 (by decide) ?_
          refine lv_icmp_ne (tgt := 70) hx hb dX3_goFurther_57 (by decide) (fun c_6 => ?_) (fun c_6 => ?_)
          · have h := br_F c_6 h
            exact gc_X3_goFurther_70 C hr hlk h17 hk_2 ih _ _ _ _ _ _ _ _ hM (lv_sub hl [1, 2, 3, 4, 5] rfl) h
          · have h := br_T c_6 h
            refine c_aload_n (t := 3) (x := (some 0)) hx hb dX3_goFurther_60 rfl (lv_at hl 1 rfl) ?_
            refine c_getb C hM (k := 3) (f := 1) (j := 10) (t := 12) (hM.cst 3 0 rfl) (by decide) fl_X3_9 dX3_goFurther_61 ?_
            refine lv_iload hx hb dX3_goFurther_64 (lv_at hl 0 rfl) ?_
            refine lv_iload_n hx hb dX3_goFurther_66 rfl (lv_at hl 3 rfl) ?_
            refine lv_iconst (v := (1 : Int32)) hx hb dX3_goFurther_67 (by decide) ?_
            refine lv_iadd hx hb dX3_goFurther_68 ?_
            obtain ⟨c_7, h⟩ := ko_of h
            refine c_iast C hM (hM.cst 12 10 rfl) (by rw [hM.ln 12 10 12 (by decide)]; exact c_7) dX3_goFurther_69 (fun H locs hM => ?_)
            exact gc_X3_goFurther_70 C hr hlk h17 hk_2 ih _ _ _ _ _ _ _ _ hM (lv_sub hl [1, 2, 3, 4, 5] rfl) h
def fc_X3_goFurther_2 : Nat → cS → Option Nat → Int32 → Int32 → Option (cS)
  | 0, _, _, _, _ => none
  | n + 1, σ, x1, x2, x3 =>
    if (cI σ 2 0 6) ≤ x3 then
      some σ
    else
      fc_X3_goFurther_16 (fc_X3_goFurther_2 n) 3000 σ x1 x2 x3 (0 : Int32)
set_option maxHeartbeats 4000000 in
set_option maxRecDepth 100000 in
theorem gc_X3_goFurther_2 {p : Program} {l : Launch} {e : Env} {s : State} {m : MethodId} {args : Array Value} {below : List Frame} {meth : Method} {c : Code} {D : va_G} {ca : Nat → ClassId} {A : Nat → Prop} {σ0 : cS} {α : cAl} {o : cS} (C : cC p s m args c cX3_goFurther 6 RX3 D ca A α) (hr : meth.sig.returnType = (none : Option FieldType)) (hlk : meth.locks = false) (h17 : 0 < cn σ0 17) : ∀ (n : Nat) (σ : cS) (x1 : Option Nat) (x2 : Int32) (x3 : Int32) (H : Heap) (locs : List Loc) (ls : Array Slot), cM D ca true A s.heap σ0 α σ α H locs → lv_has ls 6 [(0, cr α 3 (some 0)), (1, cr α 6 x1), (2, .int x2), (3, .int x3)] → fc_X3_goFurther_2 n σ x1 x2 x3 = some o → W p l e rc_X3_goFurther s m args below meth c H locs 0 0 (MQ below (cQ false D ca true A α σ0 (fun _ => none) o) args s 0 0 A) (F0 m 2 ls []) := by
  have hx := C.1
  have hb := C.2.1
  intro n
  induction n with
  | zero =>
    intro σ x1 x2 x3 H locs ls hM hl h
    cases h
  | succ n ih =>
    intro σ x1 x2 x3 H locs ls hM hl h
    rw [fc_X3_goFurther_2] at h
    refine lv_iload_n hx hb dX3_goFurther_2 rfl (lv_at hl 3 rfl) ?_
    refine c_aload_n (t := 3) (x := (some 0)) hx hb dX3_goFurther_3 rfl (lv_at hl 0 rfl) ?_
    refine c_getb C hM (k := 3) (f := 0) (j := 0) (t := 2) (hM.cst 3 0 rfl) (by decide) fl_X3_15 dX3_goFurther_4 ?_
    refine c_geti C hM (k := 2) (f := 6) (hM.cst 2 0 rfl) rfl fl_X3_105 dX3_goFurther_7 ?_
    refine lv_icmp_ge (tgt := 82) hx hb dX3_goFurther_10 (by decide) (fun c_1 => ?_) (fun c_1 => ?_)
    · have h := br_T c_1 h
      exact c_rv C hM (fun _ => rfl) hr hlk dX3_goFurther_82 h
    · have h := br_F c_1 h
      refine lv_iconst (v := (0 : Int32)) hx hb dX3_goFurther_13 (by decide) ?_
      refine lv_istore (lv' := [(4, .int (0 : Int32)), (0, cr α 3 (some 0)), (1, cr α 6 x1), (2, .int x2), (3, .int x3)]) hx hb dX3_goFurther_14 hl (by decide) rfl (fun ls hl => ?_)
      exact gc_X3_goFurther_16 C hr hlk h17 ih _ _ _ _ _ _ _ _ _ hM (lv_sub hl [1, 2, 3, 4, 0] rfl) h
def fc_X3_goFurther (σ : cS) (x1 : Option Nat) (x2 : Int32) : Option (cS) :=
  fc_X3_goFurther_2 3000 σ x1 x2 (0 : Int32)
set_option maxHeartbeats 4000000 in
set_option maxRecDepth 100000 in
theorem cc_X3_goFurther (l : Launch) (D : va_G) (ca : Nat → ClassId) (A : Nat → Prop) (α : cAl) (σ : cS) (x1 : Option Nat) (x2 : Int32) (o : cS) (h : fc_X3_goFurther σ x1 x2 = some o) : cMet false l yX3_goFurther cX3_goFurther 6 ((none : Option FieldType)) rc_X3_goFurther 0 0 D ca true A α σ [cr α 3 (some 0), cr α 6 x1, .int x2] (fun _ => none) o := by
  refine Met.ofW (cc := cX3_goFurther) (maxL := 6) (ret := (none : Option FieldType)) (by decide) rfl ?_
  intro p e s m args below meth c s₁ B hml hv
  obtain ⟨rfl, hP, hK, hD0, hSh, hA, hG⟩ := hv
  have C : cC p s m _ c cX3_goFurther 6 RX3 D ca A α := ⟨B.exec, B.bytes, hml, findClass_of_methodNamed B.named, fun w hw => atoms_spec (ws := mWs yX3_goFurther cX3_goFurther 6 ((none : Option FieldType))) B.pre w (List.mem_cons_of_mem _ hw), hK, hG⟩
  have hM : cM D ca true A s.heap σ α σ α s.heap [] := ⟨hP, hD0, hSh, va_S.rf, hA, cX.rf⟩
  have h17 : 0 < cn σ 17 := c_17 hM
  have hr := B.returns
  have hlk := B.notSynchronized
  have hx := C.1
  have hb := C.2.1
  have hl := lv_entry ([cr α 3 (some 0), cr α 6 x1, .int x2]) (n := 6) (by simp [lg_r, lg_i, lg_l, lg_n])
  rw [lg_entry_eq]
  generalize (lg_sl ([cr α 3 (some 0), cr α 6 x1, .int x2]) ++ List.replicate (6 - (lg_sl ([cr α 3 (some 0), cr α 6 x1, .int x2])).length) Slot.unset).toArray = ls at hl ⊢
  have hl : lv_has ls 6 [(0, cr α 3 (some 0)), (1, cr α 6 x1), (2, .int x2)] := (lv_to hl (by simp only [la_r, la_i, la_l, la_n]))
  unfold fc_X3_goFurther at h
  refine lv_iconst (v := (0 : Int32)) hx hb dX3_goFurther_0 (by decide) ?_
  refine lv_istore_n (lv' := [(3, .int (0 : Int32)), (0, cr α 3 (some 0)), (1, cr α 6 x1), (2, .int x2)]) hx hb dX3_goFurther_1 rfl hl (by decide) rfl (fun ls hl => ?_)
  exact gc_X3_goFurther_2 C hr hlk h17  _ _ _ _ _ _ _ _ hM (lv_sub hl [1, 2, 3, 0] rfl) h
/-! Lorewick$Rules.distanceTo(LLorewick$State;I)I -/
abbrev rc_X3_distanceTo : Room := { frames := 2, cells := 0, slots := 0, locals := 50 }
def fc_X3_distanceTo_53 (σ : cS) (x2 : Int32) : Option (Int32 × cS) :=
    if x2 < 0 ∨ 12 ≤ x2.toNatClampNeg then none else
    some ((cI σ 12 10 x2.toNatClampNeg), σ)
set_option maxHeartbeats 4000000 in
set_option maxRecDepth 100000 in
theorem gc_X3_distanceTo_53 {p : Program} {l : Launch} {e : Env} {s : State} {m : MethodId} {args : Array Value} {below : List Frame} {meth : Method} {c : Code} {D : va_G} {ca : Nat → ClassId} {A : Nat → Prop} {σ0 : cS} {α : cAl} {o : Int32 × cS} (C : cC p s m args c cX3_distanceTo 4 RX3 D ca A α) (hr : meth.sig.returnType = (some FieldType.int)) (hlk : meth.locks = false) (h17 : 0 < cn σ0 17) : ∀ (σ : cS) (x2 : Int32) (H : Heap) (locs : List Loc) (ls : Array Slot), cM D ca true A s.heap σ0 α σ α H locs → lv_has ls 4 [(0, cr α 3 (some 0)), (2, .int x2)] → fc_X3_distanceTo_53 σ x2 = some o → W p l e rc_X3_distanceTo s m args below meth c H locs 0 0 (MQ below (cQ false D ca true A α σ0 (fun _ => some (.int o.1)) o.2) args s 0 0 A) (F0 m 53 ls []) := by
  have hx := C.1
  have hb := C.2.1
  intro σ x2 H locs ls hM hl h
  unfold fc_X3_distanceTo_53 at h
  refine c_aload_n (t := 3) (x := (some 0)) hx hb dX3_distanceTo_53 rfl (lv_at hl 0 rfl) ?_
  refine c_getb C hM (k := 3) (f := 1) (j := 10) (t := 12) (hM.cst 3 0 rfl) (by decide) fl_X3_9 dX3_distanceTo_54 ?_
  refine lv_iload_n hx hb dX3_distanceTo_57 rfl (lv_at hl 1 rfl) ?_
  obtain ⟨c_1, h⟩ := ko_of h
  refine c_iald C hM (hM.cst 12 10 rfl) (by rw [hM.ln 12 10 12 (by decide)]; exact c_1) dX3_distanceTo_58 ?_
  exact c_ri C hM (fun _ => rfl) hr hlk dX3_distanceTo_59 h
def fc_X3_distanceTo_20 : Nat → cS → Option Nat → Int32 → Int32 → Option (Int32 × cS)
  | 0, _, _, _, _ => none
  | n + 1, σ, x1, x2, x3 =>
    if (cI σ 2 0 6) ≤ x3 then
      fc_X3_distanceTo_53 σ x2
    else
      if x2 < 0 ∨ 12 ≤ x2.toNatClampNeg then none else
      if (cI σ 12 10 x2.toNatClampNeg) = (-1 : Int32) then
        (fc_X3_goFurther σ x1 x3).bind fun r_1 =>
        (fc_X3_distanceTo_20 n) r_1 x1 x2 (x3 + (1 : Int32))
      else
        fc_X3_distanceTo_53 σ x2
set_option maxHeartbeats 4000000 in
set_option maxRecDepth 100000 in
theorem gc_X3_distanceTo_20 {p : Program} {l : Launch} {e : Env} {s : State} {m : MethodId} {args : Array Value} {below : List Frame} {meth : Method} {c : Code} {D : va_G} {ca : Nat → ClassId} {A : Nat → Prop} {σ0 : cS} {α : cAl} {o : Int32 × cS} (C : cC p s m args c cX3_distanceTo 4 RX3 D ca A α) (hr : meth.sig.returnType = (some FieldType.int)) (hlk : meth.locks = false) (h17 : 0 < cn σ0 17) : ∀ (n : Nat) (σ : cS) (x1 : Option Nat) (x2 : Int32) (x3 : Int32) (H : Heap) (locs : List Loc) (ls : Array Slot), cM D ca true A s.heap σ0 α σ α H locs → lv_has ls 4 [(0, cr α 3 (some 0)), (1, cr α 6 x1), (2, .int x2), (3, .int x3)] → fc_X3_distanceTo_20 n σ x1 x2 x3 = some o → W p l e rc_X3_distanceTo s m args below meth c H locs 0 0 (MQ below (cQ false D ca true A α σ0 (fun _ => some (.int o.1)) o.2) args s 0 0 A) (F0 m 20 ls []) := by
  have hx := C.1
  have hb := C.2.1
  intro n
  induction n with
  | zero =>
    intro σ x1 x2 x3 H locs ls hM hl h
    cases h
  | succ n ih =>
    intro σ x1 x2 x3 H locs ls hM hl h
    rw [fc_X3_distanceTo_20] at h
    refine lv_iload_n hx hb dX3_distanceTo_20 rfl (lv_at hl 3 rfl) ?_
    refine c_aload_n (t := 3) (x := (some 0)) hx hb dX3_distanceTo_21 rfl (lv_at hl 0 rfl) ?_
    refine c_getb C hM (k := 3) (f := 0) (j := 0) (t := 2) (hM.cst 3 0 rfl) (by decide) fl_X3_15 dX3_distanceTo_22 ?_
    refine c_geti C hM (k := 2) (f := 6) (hM.cst 2 0 rfl) rfl fl_X3_105 dX3_distanceTo_25 ?_
    refine lv_icmp_ge (tgt := 53) hx hb dX3_distanceTo_28 (by decide) (fun c_1 => ?_) (fun c_1 => ?_)
    · have h := br_T c_1 h
      exact gc_X3_distanceTo_53 C hr hlk h17  _ _ _ _ _ hM (lv_sub hl [0, 2] rfl) h
    · have h := br_F c_1 h
      refine c_aload_n (t := 3) (x := (some 0)) hx hb dX3_distanceTo_31 rfl (lv_at hl 0 rfl) ?_
      refine c_getb C hM (k := 3) (f := 1) (j := 10) (t := 12) (hM.cst 3 0 rfl) (by decide) fl_X3_9 dX3_distanceTo_32 ?_
      refine lv_iload_n hx hb dX3_distanceTo_35 rfl (lv_at hl 2 rfl) ?_
      obtain ⟨c_2, h⟩ := ko_of h
      refine c_iald C hM (hM.cst 12 10 rfl) (by rw [hM.ln 12 10 12 (by decide)]; exact c_2) dX3_distanceTo_36 ?_
      refine lv_iconst (v := (-1 : Int32)) hx hb dX3_distanceTo_37 (by decide) ?_
      refine lv_icmp_ne (tgt := 53) hx hb dX3_distanceTo_38 (by decide) (fun c_3 => ?_) (fun c_3 => ?_)
      · have h := br_F c_3 h
        exact gc_X3_distanceTo_53 C hr hlk h17  _ _ _ _ _ hM (lv_sub hl [0, 2] rfl) h
      · have h := br_T c_3 h
        refine c_aload_n (t := 3) (x := (some 0)) hx hb dX3_distanceTo_41 rfl (lv_at hl 0 rfl) ?_
        refine c_aload_n (t := 6) (x := x1) hx hb dX3_distanceTo_42 rfl (lv_at hl 1 rfl) ?_
        refine lv_iload_n hx hb dX3_distanceTo_43 rfl (lv_at hl 3 rfl) ?_
        obtain ⟨r_1, hr_1, h⟩ := bd_of h
        refine c_go0 (c_rV (As := [cr α 6 x1, .int x3]) (rest := []) C hM h17 (hM.cst 3 0 rfl) (by decide) (cc_X3_goFurther l D ca A α σ x1 x3 _ hr_1) cw_X3_108 ⟨rfl, rfl⟩ ⟨Nat.le_of_ble_eq_true rfl, Nat.le_of_ble_eq_true rfl⟩ rfl rfl (cats_le _ (Nat.le_of_ble_eq_true rfl)) hl.1 dX3_distanceTo_44 ⟨Nat.le_of_ble_eq_true rfl, Nat.le_of_ble_eq_true rfl⟩) hM (fun H locs hM => ?_)
        refine W_st (st' := []) rfl ?_
        refine lv_iinc (v := (x3 + (1 : Int32))) (lv' := [(3, .int (x3 + (1 : Int32))), (0, cr α 3 (some 0)), (1, cr α 6 x1), (2, .int x2)]) hx hb dX3_distanceTo_47 hl (k := 3) rfl rfl (by decide) rfl (fun ls hl => ?_)
        refine lv_goto (tgt := 20) hx hb dX3_distanceTo_50 (by decide) ?_
        exact ih _ _ _ _ _ _ _ hM (lv_sub hl [1, 2, 3, 0] rfl) h
def fc_X3_distanceTo (σ : cS) (x1 : Option Nat) (x2 : Int32) : Option (Int32 × cS) :=
  (fc_J7_fill_53178 σ (some 10) (-1 : Int32)).bind fun r_1 =>
  (dr r_1 6 x1).bind fun i_2 =>
  if (cI r_1 6 i_2 0) < 0 ∨ 12 ≤ (cI r_1 6 i_2 0).toNatClampNeg then none else
  fc_X3_distanceTo_20 3000 (uI r_1 12 10 (cI r_1 6 i_2 0).toNatClampNeg (0 : Int32)) x1 x2 (0 : Int32)
set_option maxHeartbeats 4000000 in
set_option maxRecDepth 100000 in
theorem cc_X3_distanceTo (l : Launch) (D : va_G) (ca : Nat → ClassId) (A : Nat → Prop) (α : cAl) (σ : cS) (x1 : Option Nat) (x2 : Int32) (o : Int32 × cS) (h : fc_X3_distanceTo σ x1 x2 = some o) : cMet false l yX3_distanceTo cX3_distanceTo 4 ((some FieldType.int)) rc_X3_distanceTo 0 0 D ca true A α σ [cr α 3 (some 0), cr α 6 x1, .int x2] (fun _ => some (.int o.1)) o.2 := by
  refine Met.ofW (cc := cX3_distanceTo) (maxL := 4) (ret := (some FieldType.int)) (by decide) rfl ?_
  intro p e s m args below meth c s₁ B hml hv
  obtain ⟨rfl, hP, hK, hD0, hSh, hA, hG⟩ := hv
  have C : cC p s m _ c cX3_distanceTo 4 RX3 D ca A α := ⟨B.exec, B.bytes, hml, findClass_of_methodNamed B.named, fun w hw => atoms_spec (ws := mWs yX3_distanceTo cX3_distanceTo 4 ((some FieldType.int))) B.pre w (List.mem_cons_of_mem _ hw), hK, hG⟩
  have hM : cM D ca true A s.heap σ α σ α s.heap [] := ⟨hP, hD0, hSh, va_S.rf, hA, cX.rf⟩
  have h17 : 0 < cn σ 17 := c_17 hM
  have hr := B.returns
  have hlk := B.notSynchronized
  have hx := C.1
  have hb := C.2.1
  have hl := lv_entry ([cr α 3 (some 0), cr α 6 x1, .int x2]) (n := 4) (by simp [lg_r, lg_i, lg_l, lg_n])
  rw [lg_entry_eq]
  generalize (lg_sl ([cr α 3 (some 0), cr α 6 x1, .int x2]) ++ List.replicate (4 - (lg_sl ([cr α 3 (some 0), cr α 6 x1, .int x2])).length) Slot.unset).toArray = ls at hl ⊢
  have hl : lv_has ls 4 [(0, cr α 3 (some 0)), (1, cr α 6 x1), (2, .int x2)] := (lv_to hl (by simp only [la_r, la_i, la_l, la_n]))
  unfold fc_X3_distanceTo at h
  refine c_aload_n (t := 3) (x := (some 0)) hx hb dX3_distanceTo_0 rfl (lv_at hl 0 rfl) ?_
  refine c_getb C hM (k := 3) (f := 1) (j := 10) (t := 12) (hM.cst 3 0 rfl) (by decide) fl_X3_9 dX3_distanceTo_1 ?_
  refine lv_iconst (v := (-1 : Int32)) hx hb dX3_distanceTo_4 (by decide) ?_
  obtain ⟨r_1, hr_1, h⟩ := bd_of h
  refine c_go0 (c_rS (As := [cr α 12 (some 10), .int (-1 : Int32)]) (rest := []) C hM h17 (cc_J7_fill_53178 l D ca A α σ (some 10) (-1 : Int32) _ hr_1) cw_X3_99 ⟨rfl, rfl⟩ ⟨Nat.le_of_ble_eq_true rfl, Nat.le_of_ble_eq_true rfl⟩ rfl rfl (cats_le _ (Nat.le_of_ble_eq_true rfl)) hl.1 dX3_distanceTo_5 ⟨Nat.le_of_ble_eq_true rfl, Nat.le_of_ble_eq_true rfl⟩) hM (fun H locs hM => ?_)
  refine W_st (st' := []) rfl ?_
  refine c_aload_n (t := 3) (x := (some 0)) hx hb dX3_distanceTo_8 rfl (lv_at hl 0 rfl) ?_
  refine c_getb C hM (k := 3) (f := 1) (j := 10) (t := 12) (hM.cst 3 0 rfl) (by decide) fl_X3_9 dX3_distanceTo_9 ?_
  refine c_aload_n (t := 6) (x := x1) hx hb dX3_distanceTo_12 rfl (lv_at hl 1 rfl) ?_
  obtain ⟨i_2, hd_2, h⟩ := bd_of h
  refine c_geti C hM (k := 6) (f := 0) hd_2 rfl fl_X3_19 dX3_distanceTo_13 ?_
  refine lv_iconst (v := (0 : Int32)) hx hb dX3_distanceTo_16 (by decide) ?_
  obtain ⟨c_1, h⟩ := ko_of h
  refine c_iast C hM (hM.cst 12 10 rfl) (by rw [hM.ln 12 10 12 (by decide)]; exact c_1) dX3_distanceTo_17 (fun H locs hM => ?_)
  refine lv_iconst (v := (0 : Int32)) hx hb dX3_distanceTo_18 (by decide) ?_
  refine lv_istore_n (lv' := [(3, .int (0 : Int32)), (0, cr α 3 (some 0)), (1, cr α 6 x1), (2, .int x2)]) hx hb dX3_distanceTo_19 rfl hl (by decide) rfl (fun ls hl => ?_)
  exact gc_X3_distanceTo_20 C hr hlk h17  _ _ _ _ _ _ _ _ hM (lv_sub hl [1, 2, 3, 0] rfl) h
/-! Lorewick$Rules.move(LLorewick$State;I)Z -/
abbrev rc_X3_move : Room := { frames := 1, cells := 0, slots := 0, locals := 25 }
def fc_X3_move (σ : cS) (x1 : Option Nat) (x2 : Int32) : Option (Int32 × cS) :=
  (dr σ 6 x1).bind fun i_1 =>
  (fc_X3_roomBehind σ x1 (cI σ 6 i_1 0) x2).bind fun r_2 =>
  if r_2.1 = (-1 : Int32) then
    if (0 : Int32) &&& 1 = (0 : Int32) then some ((0 : Int32), r_2.2) else none
  else
    (dr r_2.2 6 x1).bind fun i_3 =>
    if (1 : Int32) &&& 1 = (1 : Int32) then some ((1 : Int32), (uI r_2.2 6 i_3 0 r_2.1)) else none
set_option maxHeartbeats 4000000 in
set_option maxRecDepth 100000 in
theorem cc_X3_move (l : Launch) (D : va_G) (ca : Nat → ClassId) (A : Nat → Prop) (α : cAl) (σ : cS) (x1 : Option Nat) (x2 : Int32) (o : Int32 × cS) (h : fc_X3_move σ x1 x2 = some o) : cMet false l yX3_move cX3_move 4 ((some FieldType.boolean)) rc_X3_move 0 0 D ca true A α σ [cr α 3 (some 0), cr α 6 x1, .int x2] (fun _ => some (.int o.1)) o.2 := by
  refine Met.ofW (cc := cX3_move) (maxL := 4) (ret := (some FieldType.boolean)) (by decide) rfl ?_
  intro p e s m args below meth c s₁ B hml hv
  obtain ⟨rfl, hP, hK, hD0, hSh, hA, hG⟩ := hv
  have C : cC p s m _ c cX3_move 4 RX3 D ca A α := ⟨B.exec, B.bytes, hml, findClass_of_methodNamed B.named, fun w hw => atoms_spec (ws := mWs yX3_move cX3_move 4 ((some FieldType.boolean))) B.pre w (List.mem_cons_of_mem _ hw), hK, hG⟩
  have hM : cM D ca true A s.heap σ α σ α s.heap [] := ⟨hP, hD0, hSh, va_S.rf, hA, cX.rf⟩
  have h17 : 0 < cn σ 17 := c_17 hM
  have hr := B.returns
  have hlk := B.notSynchronized
  have hx := C.1
  have hb := C.2.1
  have hl := lv_entry ([cr α 3 (some 0), cr α 6 x1, .int x2]) (n := 4) (by simp [lg_r, lg_i, lg_l, lg_n])
  rw [lg_entry_eq]
  generalize (lg_sl ([cr α 3 (some 0), cr α 6 x1, .int x2]) ++ List.replicate (4 - (lg_sl ([cr α 3 (some 0), cr α 6 x1, .int x2])).length) Slot.unset).toArray = ls at hl ⊢
  have hl : lv_has ls 4 [(0, cr α 3 (some 0)), (1, cr α 6 x1), (2, .int x2)] := (lv_to hl (by simp only [la_r, la_i, la_l, la_n]))
  unfold fc_X3_move at h
  refine c_aload_n (t := 3) (x := (some 0)) hx hb dX3_move_0 rfl (lv_at hl 0 rfl) ?_
  refine c_aload_n (t := 6) (x := x1) hx hb dX3_move_1 rfl (lv_at hl 1 rfl) ?_
  refine c_aload_n (t := 6) (x := x1) hx hb dX3_move_2 rfl (lv_at hl 1 rfl) ?_
  obtain ⟨i_1, hd_1, h⟩ := bd_of h
  refine c_geti C hM (k := 6) (f := 0) hd_1 rfl fl_X3_19 dX3_move_3 ?_
  refine lv_iload_n hx hb dX3_move_6 rfl (lv_at hl 2 rfl) ?_
  obtain ⟨r_2, hr_2, h⟩ := bd_of h
  refine c_go0 (c_rV (As := [cr α 6 x1, .int (cI σ 6 i_1 0), .int x2]) (rest := []) C hM h17 (hM.cst 3 0 rfl) (by decide) (cc_X3_roomBehind l D ca A α σ x1 (cI σ 6 i_1 0) x2 _ hr_2) cw_X3_112 ⟨rfl, rfl⟩ ⟨Nat.le_of_ble_eq_true rfl, Nat.le_of_ble_eq_true rfl⟩ rfl rfl (cats_le _ (Nat.le_of_ble_eq_true rfl)) hl.1 dX3_move_7 ⟨Nat.le_of_ble_eq_true rfl, Nat.le_of_ble_eq_true rfl⟩) hM (fun H locs hM => ?_)
  refine W_st (st' := [.int r_2.1]) rfl ?_
  refine lv_istore_n (lv' := [(3, .int r_2.1), (0, cr α 3 (some 0)), (1, cr α 6 x1), (2, .int x2)]) hx hb dX3_move_10 rfl hl (by decide) rfl (fun ls hl => ?_)
  refine lv_iload_n hx hb dX3_move_11 rfl (lv_at hl 0 rfl) ?_
  refine lv_iconst (v := (-1 : Int32)) hx hb dX3_move_12 (by decide) ?_
  refine lv_icmp_ne (tgt := 18) hx hb dX3_move_13 (by decide) (fun c_1 => ?_) (fun c_1 => ?_)
  · have h := br_F c_1 h
    refine c_aload_n (t := 6) (x := x1) hx hb dX3_move_18 rfl (lv_at hl 2 rfl) ?_
    refine lv_iload_n hx hb dX3_move_19 rfl (lv_at hl 0 rfl) ?_
    obtain ⟨i_3, hd_3, h⟩ := bd_of h
    refine c_puti C hM (k := 6) (f := 0) hd_3 rfl fl_X3_19 (Or.inl rfl) dX3_move_20 (fun H locs hM => ?_)
    refine lv_iconst (v := (1 : Int32)) hx hb dX3_move_23 (by decide) ?_
    exact c_rz C hM (fun _ => rfl) hr hlk dX3_move_24 h
  · have h := br_T c_1 h
    refine lv_iconst (v := (0 : Int32)) hx hb dX3_move_16 (by decide) ?_
    exact c_rz C hM (fun _ => rfl) hr hlk dX3_move_17 h
/-! Lorewick$World.thingOf(I)I -/
abbrev rc_X10_thingOf : Room := { frames := 0, cells := 0, slots := 0, locals := 0 }
def fc_X10_thingOf_2 : Nat → cS → Int32 → Int32 → Option (Int32 × cS)
  | 0, _, _, _ => none
  | n + 1, σ, x1, x2 =>
    if (cI σ 2 0 13) ≤ x2 then
      some ((-1 : Int32), σ)
    else
      if x2 < 0 ∨ 12 ≤ x2.toNatClampNeg then none else
      if (cI σ 12 4 x2.toNatClampNeg) = x1 then
        some (x2, σ)
      else
        (fc_X10_thingOf_2 n) σ x1 (x2 + (1 : Int32))
set_option maxHeartbeats 4000000 in
set_option maxRecDepth 100000 in
theorem gc_X10_thingOf_2 {p : Program} {l : Launch} {e : Env} {s : State} {m : MethodId} {args : Array Value} {below : List Frame} {meth : Method} {c : Code} {D : va_G} {ca : Nat → ClassId} {A : Nat → Prop} {σ0 : cS} {α : cAl} {o : Int32 × cS} (C : cC p s m args c cX10_thingOf 3 RX10 D ca A α) (hr : meth.sig.returnType = (some FieldType.int)) (hlk : meth.locks = false) (h17 : 0 < cn σ0 17) : ∀ (n : Nat) (σ : cS) (x1 : Int32) (x2 : Int32) (H : Heap) (locs : List Loc) (ls : Array Slot), cM D ca true A s.heap σ0 α σ α H locs → lv_has ls 3 [(0, cr α 2 (some 0)), (1, .int x1), (2, .int x2)] → fc_X10_thingOf_2 n σ x1 x2 = some o → W p l e rc_X10_thingOf s m args below meth c H locs 0 0 (MQ below (cQ false D ca true A α σ0 (fun _ => some (.int o.1)) o.2) args s 0 0 A) (F0 m 2 ls []) := by
  have hx := C.1
  have hb := C.2.1
  intro n
  induction n with
  | zero =>
    intro σ x1 x2 H locs ls hM hl h
    cases h
  | succ n ih =>
    intro σ x1 x2 H locs ls hM hl h
    rw [fc_X10_thingOf_2] at h
    refine lv_iload_n hx hb dX10_thingOf_2 rfl (lv_at hl 2 rfl) ?_
    refine c_aload_n (t := 2) (x := (some 0)) hx hb dX10_thingOf_3 rfl (lv_at hl 0 rfl) ?_
    refine c_geti C hM (k := 2) (f := 13) (hM.cst 2 0 rfl) rfl fl_X10_67 dX10_thingOf_4 ?_
    refine lv_icmp_ge (tgt := 28) hx hb dX10_thingOf_7 (by decide) (fun c_1 => ?_) (fun c_1 => ?_)
    · have h := br_T c_1 h
      refine lv_iconst (v := (-1 : Int32)) hx hb dX10_thingOf_28 (by decide) ?_
      exact c_ri C hM (fun _ => rfl) hr hlk dX10_thingOf_29 h
    · have h := br_F c_1 h
      refine c_aload_n (t := 2) (x := (some 0)) hx hb dX10_thingOf_10 rfl (lv_at hl 0 rfl) ?_
      refine c_getb C hM (k := 2) (f := 7) (j := 4) (t := 12) (hM.cst 2 0 rfl) (by decide) fl_X10_29 dX10_thingOf_11 ?_
      refine lv_iload_n hx hb dX10_thingOf_14 rfl (lv_at hl 2 rfl) ?_
      obtain ⟨c_2, h⟩ := ko_of h
      refine c_iald C hM (hM.cst 12 4 rfl) (by rw [hM.ln 12 4 12 (by decide)]; exact c_2) dX10_thingOf_15 ?_
      refine lv_iload_n hx hb dX10_thingOf_16 rfl (lv_at hl 1 rfl) ?_
      refine lv_icmp_ne (tgt := 22) hx hb dX10_thingOf_17 (by decide) (fun c_3 => ?_) (fun c_3 => ?_)
      · have h := br_F c_3 h
        refine lv_iinc (v := (x2 + (1 : Int32))) (lv' := [(2, .int (x2 + (1 : Int32))), (0, cr α 2 (some 0)), (1, .int x1)]) hx hb dX10_thingOf_22 hl (k := 2) rfl rfl (by decide) rfl (fun ls hl => ?_)
        refine lv_goto (tgt := 2) hx hb dX10_thingOf_25 (by decide) ?_
        exact ih _ _ _ _ _ _ hM (lv_sub hl [1, 2, 0] rfl) h
      · have h := br_T c_3 h
        refine lv_iload_n hx hb dX10_thingOf_20 rfl (lv_at hl 2 rfl) ?_
        exact c_ri C hM (fun _ => rfl) hr hlk dX10_thingOf_21 h
def fc_X10_thingOf (σ : cS) (x1 : Int32) : Option (Int32 × cS) :=
  fc_X10_thingOf_2 3000 σ x1 (0 : Int32)
set_option maxHeartbeats 4000000 in
set_option maxRecDepth 100000 in
theorem cc_X10_thingOf (l : Launch) (D : va_G) (ca : Nat → ClassId) (A : Nat → Prop) (α : cAl) (σ : cS) (x1 : Int32) (o : Int32 × cS) (h : fc_X10_thingOf σ x1 = some o) : cMet false l yX10_thingOf cX10_thingOf 3 ((some FieldType.int)) rc_X10_thingOf 0 0 D ca true A α σ [cr α 2 (some 0), .int x1] (fun _ => some (.int o.1)) o.2 := by
  refine Met.ofW (cc := cX10_thingOf) (maxL := 3) (ret := (some FieldType.int)) (by decide) rfl ?_
  intro p e s m args below meth c s₁ B hml hv
  obtain ⟨rfl, hP, hK, hD0, hSh, hA, hG⟩ := hv
  have C : cC p s m _ c cX10_thingOf 3 RX10 D ca A α := ⟨B.exec, B.bytes, hml, findClass_of_methodNamed B.named, fun w hw => atoms_spec (ws := mWs yX10_thingOf cX10_thingOf 3 ((some FieldType.int))) B.pre w (List.mem_cons_of_mem _ hw), hK, hG⟩
  have hM : cM D ca true A s.heap σ α σ α s.heap [] := ⟨hP, hD0, hSh, va_S.rf, hA, cX.rf⟩
  have h17 : 0 < cn σ 17 := c_17 hM
  have hr := B.returns
  have hlk := B.notSynchronized
  have hx := C.1
  have hb := C.2.1
  have hl := lv_entry ([cr α 2 (some 0), .int x1]) (n := 3) (Nat.le_of_ble_eq_true rfl)
  rw [lg_entry_eq]
  generalize (lg_sl ([cr α 2 (some 0), .int x1]) ++ List.replicate (3 - (lg_sl ([cr α 2 (some 0), .int x1])).length) Slot.unset).toArray = ls at hl ⊢
  have hl : lv_has ls 3 [(0, cr α 2 (some 0)), (1, .int x1)] := hl
  unfold fc_X10_thingOf at h
  refine lv_iconst (v := (0 : Int32)) hx hb dX10_thingOf_0 (by decide) ?_
  refine lv_istore_n (lv' := [(2, .int (0 : Int32)), (0, cr α 2 (some 0)), (1, .int x1)]) hx hb dX10_thingOf_1 rfl hl (by decide) rfl (fun ls hl => ?_)
  exact gc_X10_thingOf_2 C hr hlk h17  _ _ _ _ _ _ _ hM (lv_sub hl [1, 2, 0] rfl) h
/-! Lorewick$Rules.pickUp(LLorewick$State;I)Z -/
abbrev rc_X3_pickUp : Room := { frames := 2, cells := 0, slots := 0, locals := 45 }
def fc_X3_pickUp (σ : cS) (x1 : Option Nat) (x2 : Int32) : Option (Int32 × cS) :=
  (dr σ 6 x1).bind fun i_1 =>
  (dr σ 12 (cR σ 6 i_1 1)).bind fun i_2 =>
  if x2 < 0 ∨ cln σ 12 i_2 ≤ x2.toNatClampNeg then none else
  if (cI σ 12 i_2 x2.toNatClampNeg) = (100 : Int32) then
    if (0 : Int32) &&& 1 = (0 : Int32) then some ((0 : Int32), σ) else none
  else
    if x2 < 0 ∨ cln σ 12 i_2 ≤ x2.toNatClampNeg then none else
    (fc_X3_carriedWeight (uI σ 12 i_2 x2.toNatClampNeg (100 : Int32)) x1).bind fun r_3 =>
    if (12 : Int32) < r_3.1 then
      (dr r_3.2 6 x1).bind fun i_4 =>
      (dr r_3.2 12 (cR r_3.2 6 i_4 1)).bind fun i_5 =>
      if x2 < 0 ∨ cln r_3.2 12 i_5 ≤ x2.toNatClampNeg then none else
      if (0 : Int32) &&& 1 = (0 : Int32) then some ((0 : Int32), (uI r_3.2 12 i_5 x2.toNatClampNeg (cI σ 12 i_2 x2.toNatClampNeg))) else none
    else
      if (1 : Int32) &&& 1 = (1 : Int32) then some ((1 : Int32), r_3.2) else none
set_option maxHeartbeats 4000000 in
set_option maxRecDepth 100000 in
theorem cc_X3_pickUp (l : Launch) (D : va_G) (ca : Nat → ClassId) (A : Nat → Prop) (α : cAl) (σ : cS) (x1 : Option Nat) (x2 : Int32) (o : Int32 × cS) (h : fc_X3_pickUp σ x1 x2 = some o) : cMet false l yX3_pickUp cX3_pickUp 4 ((some FieldType.boolean)) rc_X3_pickUp 0 0 D ca true A α σ [cr α 3 (some 0), cr α 6 x1, .int x2] (fun _ => some (.int o.1)) o.2 := by
  refine Met.ofW (cc := cX3_pickUp) (maxL := 4) (ret := (some FieldType.boolean)) (by decide) rfl ?_
  intro p e s m args below meth c s₁ B hml hv
  obtain ⟨rfl, hP, hK, hD0, hSh, hA, hG⟩ := hv
  have C : cC p s m _ c cX3_pickUp 4 RX3 D ca A α := ⟨B.exec, B.bytes, hml, findClass_of_methodNamed B.named, fun w hw => atoms_spec (ws := mWs yX3_pickUp cX3_pickUp 4 ((some FieldType.boolean))) B.pre w (List.mem_cons_of_mem _ hw), hK, hG⟩
  have hM : cM D ca true A s.heap σ α σ α s.heap [] := ⟨hP, hD0, hSh, va_S.rf, hA, cX.rf⟩
  have h17 : 0 < cn σ 17 := c_17 hM
  have hr := B.returns
  have hlk := B.notSynchronized
  have hx := C.1
  have hb := C.2.1
  have hl := lv_entry ([cr α 3 (some 0), cr α 6 x1, .int x2]) (n := 4) (by simp [lg_r, lg_i, lg_l, lg_n])
  rw [lg_entry_eq]
  generalize (lg_sl ([cr α 3 (some 0), cr α 6 x1, .int x2]) ++ List.replicate (4 - (lg_sl ([cr α 3 (some 0), cr α 6 x1, .int x2])).length) Slot.unset).toArray = ls at hl ⊢
  have hl : lv_has ls 4 [(0, cr α 3 (some 0)), (1, cr α 6 x1), (2, .int x2)] := (lv_to hl (by simp only [la_r, la_i, la_l, la_n]))
  unfold fc_X3_pickUp at h
  refine c_aload_n (t := 6) (x := x1) hx hb dX3_pickUp_0 rfl (lv_at hl 1 rfl) ?_
  obtain ⟨i_1, hd_1, h⟩ := bd_of h
  refine c_getrt C hM (k := 6) (f := 1) (t := 12) hd_1 (by decide) fl_X3_25 dX3_pickUp_1 ?_
  refine lv_iload_n hx hb dX3_pickUp_4 rfl (lv_at hl 2 rfl) ?_
  obtain ⟨i_2, hd_2, h⟩ := bd_of h
  obtain ⟨c_1, h⟩ := ko_of h
  refine c_iald C hM hd_2 c_1 dX3_pickUp_5 ?_
  refine lv_istore_n (lv' := [(3, .int (cI σ 12 i_2 x2.toNatClampNeg)), (0, cr α 3 (some 0)), (1, cr α 6 x1), (2, .int x2)]) hx hb dX3_pickUp_6 rfl hl (by decide) rfl (fun ls hl => ?_)
  refine lv_iload_n hx hb dX3_pickUp_7 rfl (lv_at hl 0 rfl) ?_
  refine lv_bipush (v := (100 : Int32)) hx hb dX3_pickUp_8 (by decide) ?_
  refine lv_icmp_ne (tgt := 15) hx hb dX3_pickUp_10 (by decide) (fun c_2 => ?_) (fun c_2 => ?_)
  · have h := br_F c_2 h
    refine c_aload_n (t := 6) (x := x1) hx hb dX3_pickUp_15 rfl (lv_at hl 2 rfl) ?_
    refine c_getrt C hM (k := 6) (f := 1) (t := 12) hd_1 (by decide) fl_X3_25 dX3_pickUp_16 ?_
    refine lv_iload_n hx hb dX3_pickUp_19 rfl (lv_at hl 3 rfl) ?_
    refine lv_bipush (v := (100 : Int32)) hx hb dX3_pickUp_20 (by decide) ?_
    obtain ⟨c_3, h⟩ := ko_of h
    refine c_iast C hM hd_2 c_3 dX3_pickUp_22 (fun H locs hM => ?_)
    refine c_aload_n (t := 3) (x := (some 0)) hx hb dX3_pickUp_23 rfl (lv_at hl 1 rfl) ?_
    refine c_aload_n (t := 6) (x := x1) hx hb dX3_pickUp_24 rfl (lv_at hl 2 rfl) ?_
    obtain ⟨r_3, hr_3, h⟩ := bd_of h
    refine c_go0 (c_rV (As := [cr α 6 x1]) (rest := []) C hM h17 (hM.cst 3 0 rfl) (by decide) (cc_X3_carriedWeight l D ca A α (uI σ 12 i_2 x2.toNatClampNeg (100 : Int32)) x1 _ hr_3) cw_X3_169 ⟨rfl, rfl⟩ ⟨Nat.le_of_ble_eq_true rfl, Nat.le_of_ble_eq_true rfl⟩ rfl rfl (cats_le _ (Nat.le_of_ble_eq_true rfl)) hl.1 dX3_pickUp_25 ⟨Nat.le_of_ble_eq_true rfl, Nat.le_of_ble_eq_true rfl⟩) hM (fun H locs hM => ?_)
    refine W_st (st' := [.int r_3.1]) rfl ?_
    refine lv_bipush (v := (12 : Int32)) hx hb dX3_pickUp_28 (by decide) ?_
    refine lv_icmp_gt (tgt := 35) hx hb dX3_pickUp_30 (by decide) (fun c_4 => ?_) (fun c_4 => ?_)
    · have h := br_T c_4 h
      refine c_aload_n (t := 6) (x := x1) hx hb dX3_pickUp_35 rfl (lv_at hl 2 rfl) ?_
      obtain ⟨i_4, hd_4, h⟩ := bd_of h
      refine c_getrt C hM (k := 6) (f := 1) (t := 12) hd_4 (by decide) fl_X3_25 dX3_pickUp_36 ?_
      refine lv_iload_n hx hb dX3_pickUp_39 rfl (lv_at hl 3 rfl) ?_
      refine lv_iload_n hx hb dX3_pickUp_40 rfl (lv_at hl 0 rfl) ?_
      obtain ⟨i_5, hd_5, h⟩ := bd_of h
      obtain ⟨c_5, h⟩ := ko_of h
      refine c_iast C hM hd_5 c_5 dX3_pickUp_41 (fun H locs hM => ?_)
      refine lv_iconst (v := (0 : Int32)) hx hb dX3_pickUp_42 (by decide) ?_
      exact c_rz C hM (fun _ => rfl) hr hlk dX3_pickUp_43 h
    · have h := br_F c_4 h
      refine lv_iconst (v := (1 : Int32)) hx hb dX3_pickUp_33 (by decide) ?_
      exact c_rz C hM (fun _ => rfl) hr hlk dX3_pickUp_34 h
  · have h := br_T c_2 h
    refine lv_iconst (v := (0 : Int32)) hx hb dX3_pickUp_13 (by decide) ?_
    exact c_rz C hM (fun _ => rfl) hr hlk dX3_pickUp_14 h
/-! Lorewick$Rules.layDown(LLorewick$State;I)Z -/
abbrev rc_X3_layDown : Room := { frames := 0, cells := 0, slots := 0, locals := 0 }
def fc_X3_layDown (σ : cS) (x1 : Option Nat) (x2 : Int32) : Option (Int32 × cS) :=
  (dr σ 6 x1).bind fun i_1 =>
  (dr σ 12 (cR σ 6 i_1 1)).bind fun i_2 =>
  if x2 < 0 ∨ cln σ 12 i_2 ≤ x2.toNatClampNeg then none else
  if (cI σ 12 i_2 x2.toNatClampNeg) = (100 : Int32) then
    if x2 < 0 ∨ cln σ 12 i_2 ≤ x2.toNatClampNeg then none else
    if (1 : Int32) &&& 1 = (1 : Int32) then some ((1 : Int32), (uI σ 12 i_2 x2.toNatClampNeg (cI σ 6 i_1 0))) else none
  else
    if (0 : Int32) &&& 1 = (0 : Int32) then some ((0 : Int32), σ) else none
set_option maxHeartbeats 4000000 in
set_option maxRecDepth 100000 in
theorem cc_X3_layDown (l : Launch) (D : va_G) (ca : Nat → ClassId) (A : Nat → Prop) (α : cAl) (σ : cS) (x1 : Option Nat) (x2 : Int32) (o : Int32 × cS) (h : fc_X3_layDown σ x1 x2 = some o) : cMet false l yX3_layDown cX3_layDown 3 ((some FieldType.boolean)) rc_X3_layDown 0 0 D ca true A α σ [cr α 3 (some 0), cr α 6 x1, .int x2] (fun _ => some (.int o.1)) o.2 := by
  refine Met.ofW (cc := cX3_layDown) (maxL := 3) (ret := (some FieldType.boolean)) (by decide) rfl ?_
  intro p e s m args below meth c s₁ B hml hv
  obtain ⟨rfl, hP, hK, hD0, hSh, hA, hG⟩ := hv
  have C : cC p s m _ c cX3_layDown 3 RX3 D ca A α := ⟨B.exec, B.bytes, hml, findClass_of_methodNamed B.named, fun w hw => atoms_spec (ws := mWs yX3_layDown cX3_layDown 3 ((some FieldType.boolean))) B.pre w (List.mem_cons_of_mem _ hw), hK, hG⟩
  have hM : cM D ca true A s.heap σ α σ α s.heap [] := ⟨hP, hD0, hSh, va_S.rf, hA, cX.rf⟩
  have h17 : 0 < cn σ 17 := c_17 hM
  have hr := B.returns
  have hlk := B.notSynchronized
  have hx := C.1
  have hb := C.2.1
  have hl := lv_entry ([cr α 3 (some 0), cr α 6 x1, .int x2]) (n := 3) (by simp [lg_r, lg_i, lg_l, lg_n])
  rw [lg_entry_eq]
  generalize (lg_sl ([cr α 3 (some 0), cr α 6 x1, .int x2]) ++ List.replicate (3 - (lg_sl ([cr α 3 (some 0), cr α 6 x1, .int x2])).length) Slot.unset).toArray = ls at hl ⊢
  have hl : lv_has ls 3 [(0, cr α 3 (some 0)), (1, cr α 6 x1), (2, .int x2)] := (lv_to hl (by simp only [la_r, la_i, la_l, la_n]))
  unfold fc_X3_layDown at h
  refine c_aload_n (t := 6) (x := x1) hx hb dX3_layDown_0 rfl (lv_at hl 1 rfl) ?_
  obtain ⟨i_1, hd_1, h⟩ := bd_of h
  refine c_getrt C hM (k := 6) (f := 1) (t := 12) hd_1 (by decide) fl_X3_25 dX3_layDown_1 ?_
  refine lv_iload_n hx hb dX3_layDown_4 rfl (lv_at hl 2 rfl) ?_
  obtain ⟨i_2, hd_2, h⟩ := bd_of h
  obtain ⟨c_1, h⟩ := ko_of h
  refine c_iald C hM hd_2 c_1 dX3_layDown_5 ?_
  refine lv_bipush (v := (100 : Int32)) hx hb dX3_layDown_6 (by decide) ?_
  refine lv_icmp_eq (tgt := 13) hx hb dX3_layDown_8 (by decide) (fun c_2 => ?_) (fun c_2 => ?_)
  · have h := br_T c_2 h
    refine c_aload_n (t := 6) (x := x1) hx hb dX3_layDown_13 rfl (lv_at hl 1 rfl) ?_
    refine c_getrt C hM (k := 6) (f := 1) (t := 12) hd_1 (by decide) fl_X3_25 dX3_layDown_14 ?_
    refine lv_iload_n hx hb dX3_layDown_17 rfl (lv_at hl 2 rfl) ?_
    refine c_aload_n (t := 6) (x := x1) hx hb dX3_layDown_18 rfl (lv_at hl 1 rfl) ?_
    refine c_geti C hM (k := 6) (f := 0) hd_1 rfl fl_X3_19 dX3_layDown_19 ?_
    obtain ⟨c_3, h⟩ := ko_of h
    refine c_iast C hM hd_2 c_3 dX3_layDown_22 (fun H locs hM => ?_)
    refine lv_iconst (v := (1 : Int32)) hx hb dX3_layDown_23 (by decide) ?_
    exact c_rz C hM (fun _ => rfl) hr hlk dX3_layDown_24 h
  · have h := br_F c_2 h
    refine lv_iconst (v := (0 : Int32)) hx hb dX3_layDown_11 (by decide) ?_
    exact c_rz C hM (fun _ => rfl) hr hlk dX3_layDown_12 h
/-! Lorewick$Rules.turn(LLorewick$State;ICZ)Z -/
abbrev rc_X3_turn : Room := { frames := 0, cells := 0, slots := 0, locals := 0 }
def fc_X3_turn_24 (σ : cS) : Option (Int32 × cS) :=
    if (0 : Int32) &&& 1 = (0 : Int32) then some ((0 : Int32), σ) else none
set_option maxHeartbeats 4000000 in
set_option maxRecDepth 100000 in
theorem gc_X3_turn_24 {p : Program} {l : Launch} {e : Env} {s : State} {m : MethodId} {args : Array Value} {below : List Frame} {meth : Method} {c : Code} {D : va_G} {ca : Nat → ClassId} {A : Nat → Prop} {σ0 : cS} {α : cAl} {o : Int32 × cS} (C : cC p s m args c cX3_turn 5 RX3 D ca A α) (hr : meth.sig.returnType = (some FieldType.boolean)) (hlk : meth.locks = false) (h17 : 0 < cn σ0 17) : ∀ (σ : cS) (H : Heap) (locs : List Loc) (ls : Array Slot), cM D ca true A s.heap σ0 α σ α H locs → lv_has ls 5 [] → fc_X3_turn_24 σ = some o → W p l e rc_X3_turn s m args below meth c H locs 0 0 (MQ below (cQ false D ca true A α σ0 (fun _ => some (.int o.1)) o.2) args s 0 0 A) (F0 m 24 ls []) := by
  have hx := C.1
  have hb := C.2.1
  intro σ H locs ls hM hl h
  unfold fc_X3_turn_24 at h
  refine lv_iconst (v := (0 : Int32)) hx hb dX3_turn_24 (by decide) ?_
  exact c_rz C hM (fun _ => rfl) hr hlk dX3_turn_25 h
def fc_X3_turn (σ : cS) (x1 : Option Nat) (x2 : Int32) (x3 : Int32) (x4 : Int32) : Option (Int32 × cS) :=
  if x2 < 0 ∨ 12 ≤ x2.toNatClampNeg then none else
  if (cI σ 14 1 x2.toNatClampNeg) = x3 then
    (dr σ 6 x1).bind fun i_1 =>
    (dr σ 13 (cR σ 6 i_1 3)).bind fun i_2 =>
    if x2 < 0 ∨ cln σ 13 i_2 ≤ x2.toNatClampNeg then none else
    if (cI σ 13 i_2 x2.toNatClampNeg) = x4 then
      fc_X3_turn_24 σ
    else
      if x2 < 0 ∨ cln σ 13 i_2 ≤ x2.toNatClampNeg then none else
      if (1 : Int32) &&& 1 = (1 : Int32) then some ((1 : Int32), (uI σ 13 i_2 x2.toNatClampNeg (x4 &&& 1))) else none
  else
    fc_X3_turn_24 σ
set_option maxHeartbeats 4000000 in
set_option maxRecDepth 100000 in
theorem cc_X3_turn (l : Launch) (D : va_G) (ca : Nat → ClassId) (A : Nat → Prop) (α : cAl) (σ : cS) (x1 : Option Nat) (x2 : Int32) (x3 : Int32) (x4 : Int32) (o : Int32 × cS) (h : fc_X3_turn σ x1 x2 x3 x4 = some o) : cMet false l yX3_turn cX3_turn 5 ((some FieldType.boolean)) rc_X3_turn 0 0 D ca true A α σ [cr α 3 (some 0), cr α 6 x1, .int x2, .int x3, .int x4] (fun _ => some (.int o.1)) o.2 := by
  refine Met.ofW (cc := cX3_turn) (maxL := 5) (ret := (some FieldType.boolean)) (by decide) rfl ?_
  intro p e s m args below meth c s₁ B hml hv
  obtain ⟨rfl, hP, hK, hD0, hSh, hA, hG⟩ := hv
  have C : cC p s m _ c cX3_turn 5 RX3 D ca A α := ⟨B.exec, B.bytes, hml, findClass_of_methodNamed B.named, fun w hw => atoms_spec (ws := mWs yX3_turn cX3_turn 5 ((some FieldType.boolean))) B.pre w (List.mem_cons_of_mem _ hw), hK, hG⟩
  have hM : cM D ca true A s.heap σ α σ α s.heap [] := ⟨hP, hD0, hSh, va_S.rf, hA, cX.rf⟩
  have h17 : 0 < cn σ 17 := c_17 hM
  have hr := B.returns
  have hlk := B.notSynchronized
  have hx := C.1
  have hb := C.2.1
  have hl := lv_entry ([cr α 3 (some 0), cr α 6 x1, .int x2, .int x3, .int x4]) (n := 5) (by simp [lg_r, lg_i, lg_l, lg_n])
  rw [lg_entry_eq]
  generalize (lg_sl ([cr α 3 (some 0), cr α 6 x1, .int x2, .int x3, .int x4]) ++ List.replicate (5 - (lg_sl ([cr α 3 (some 0), cr α 6 x1, .int x2, .int x3, .int x4])).length) Slot.unset).toArray = ls at hl ⊢
  have hl : lv_has ls 5 [(0, cr α 3 (some 0)), (1, cr α 6 x1), (2, .int x2), (3, .int x3), (4, .int x4)] := (lv_to hl (by simp only [la_r, la_i, la_l, la_n]))
  unfold fc_X3_turn at h
  refine c_aload_n (t := 3) (x := (some 0)) hx hb dX3_turn_0 rfl (lv_at hl 0 rfl) ?_
  refine c_getb C hM (k := 3) (f := 0) (j := 0) (t := 2) (hM.cst 3 0 rfl) (by decide) fl_X3_15 dX3_turn_1 ?_
  refine c_getb C hM (k := 2) (f := 10) (j := 1) (t := 14) (hM.cst 2 0 rfl) (by decide) fl_X3_51 dX3_turn_4 ?_
  refine lv_iload_n hx hb dX3_turn_7 rfl (lv_at hl 2 rfl) ?_
  obtain ⟨c_1, h⟩ := ko_of h
  refine c_cald C hM (hM.cst 14 1 rfl) (by rw [hM.ln 14 1 12 (by decide)]; exact c_1) dX3_turn_8 ?_
  refine lv_iload_n hx hb dX3_turn_9 rfl (lv_at hl 3 rfl) ?_
  refine lv_icmp_ne (tgt := 24) hx hb dX3_turn_10 (by decide) (fun c_2 => ?_) (fun c_2 => ?_)
  · have h := br_F c_2 h
    exact gc_X3_turn_24 C hr hlk h17  _ _ _ _ hM (lv_sub hl [] rfl) h
  · have h := br_T c_2 h
    refine c_aload_n (t := 6) (x := x1) hx hb dX3_turn_13 rfl (lv_at hl 1 rfl) ?_
    obtain ⟨i_1, hd_1, h⟩ := bd_of h
    refine c_getrt C hM (k := 6) (f := 3) (t := 13) hd_1 (by decide) fl_X3_37 dX3_turn_14 ?_
    refine lv_iload_n hx hb dX3_turn_17 rfl (lv_at hl 2 rfl) ?_
    obtain ⟨i_2, hd_2, h⟩ := bd_of h
    obtain ⟨c_3, h⟩ := ko_of h
    refine c_zald C hM hd_2 c_3 dX3_turn_18 ?_
    refine lv_iload hx hb dX3_turn_19 (lv_at hl 4 rfl) ?_
    refine lv_icmp_ne (tgt := 26) hx hb dX3_turn_21 (by decide) (fun c_4 => ?_) (fun c_4 => ?_)
    · have h := br_F c_4 h
      refine c_aload_n (t := 6) (x := x1) hx hb dX3_turn_26 rfl (lv_at hl 1 rfl) ?_
      refine c_getrt C hM (k := 6) (f := 3) (t := 13) hd_1 (by decide) fl_X3_37 dX3_turn_27 ?_
      refine lv_iload_n hx hb dX3_turn_30 rfl (lv_at hl 2 rfl) ?_
      refine lv_iload hx hb dX3_turn_31 (lv_at hl 4 rfl) ?_
      obtain ⟨c_5, h⟩ := ko_of h
      refine c_zast C hM hd_2 c_5 dX3_turn_33 (fun H locs hM => ?_)
      refine lv_iconst (v := (1 : Int32)) hx hb dX3_turn_34 (by decide) ?_
      exact c_rz C hM (fun _ => rfl) hr hlk dX3_turn_35 h
    · have h := br_T c_4 h
      exact gc_X3_turn_24 C hr hlk h17  _ _ _ _ hM (lv_sub hl [] rfl) h
