/-! The class's methods: what each makes of the state (fc_..), as the bytecode has it; and that it does (cc_..). -/
theorem fl_X1_7 : Cond.fieldLink RX1 7 (cTt 8 0).1 (cTt 8 0).2.1 (cTt 8 0).2.2.1 ∈ wl := wl_in (i := 942) (by decide +kernel)
theorem fl_X1_13 : Cond.fieldLink RX1 13 (cTt 8 1).1 (cTt 8 1).2.1 (cTt 8 1).2.2.1 ∈ wl := wl_in (i := 945) (by decide +kernel)
theorem fl_X1_17 : Cond.fieldLink RX1 17 (cTt 8 2).1 (cTt 8 2).2.1 (cTt 8 2).2.2.1 ∈ wl := wl_in (i := 948) (by decide +kernel)
theorem fl_X6_22 : Cond.fieldLink RX6 22 (cTt 6 0).1 (cTt 6 0).2.1 (cTt 6 0).2.2.1 ∈ wl := wl_in (i := 265) (by decide +kernel)
theorem cw_X2_11 : cCallIN RX2 11 yX6_init "Lorewick" cX6_init 1 0 := ⟨⟨wn_in (i := 978) (by decide +kernel), wl_in (i := 261) (by decide +kernel), wl_in (i := 11) (by decide +kernel), wl_in (i := 262) (by decide +kernel)⟩, rfl, by decide, by decide, by decide +kernel⟩
theorem fl_X2_12 : Cond.fieldLink RX2 12 (cTt 7 3).1 (cTt 7 3).2.1 (cTt 7 3).2.2.1 ∈ wl := wl_in (i := 988) (by decide +kernel)
theorem fl_X2_18 : Cond.fieldLink RX2 18 (cTt 7 0).1 (cTt 7 0).2.1 (cTt 7 0).2.2.1 ∈ wl := wl_in (i := 980) (by decide +kernel)
theorem fl_X2_22 : Cond.fieldLink RX2 22 (cTt 7 1).1 (cTt 7 1).2.1 (cTt 7 1).2.2.1 ∈ wl := wl_in (i := 982) (by decide +kernel)
theorem fl_X2_26 : Cond.fieldLink RX2 26 (cTt 7 2).1 (cTt 7 2).2.1 (cTt 7 2).2.2.1 ∈ wl := wl_in (i := 985) (by decide +kernel)
theorem cw_X2_30 : cCallV RX2 30 (cRn 6) yX6_copy cX6_copy 3 ((none : Option FieldType)) 1 := ⟨⟨wl_in (i := 979) (by decide +kernel), wl_in (i := 388) (by decide +kernel), wl_in (i := 389) (by decide +kernel), wl_in (i := 11) (by decide +kernel), wl_in (i := 390) (by decide +kernel)⟩, rfl, by decide, by decide, by decide +kernel⟩
theorem fl_X2_34 : Cond.fieldLink RX2 34 (cTt 7 4).1 (cTt 7 4).2.1 (cTt 7 4).2.2.1 ∈ wl := wl_in (i := 990) (by decide +kernel)
theorem cw_X2_38 : cCallN RX2 38 yX11_includes "Lorewick" cX11_includes 3 ((some FieldType.boolean)) 2 := ⟨⟨wn_in (i := 1363) (by decide +kernel), wl_in (i := 1) (by decide +kernel), wl_in (i := 400) (by decide +kernel)⟩, by decide, by decide, by decide +kernel⟩
theorem cw_X2_42 : cCallV RX2 42 (cRn 7) yX2_isOnPathOf cX2_isOnPathOf 3 ((some FieldType.boolean)) 1 := ⟨⟨wl_in (i := 1293) (by decide +kernel), wl_in (i := 509) (by decide +kernel), wl_in (i := 510) (by decide +kernel), wl_in (i := 35) (by decide +kernel), wl_in (i := 511) (by decide +kernel)⟩, rfl, by decide, by decide, by decide +kernel⟩
theorem fl_X3_25 : Cond.fieldLink RX3 25 (cTt 6 1).1 (cTt 6 1).2.1 (cTt 6 1).2.2.1 ∈ wl := wl_in (i := 268) (by decide +kernel)
theorem fl_X3_28 : Cond.fieldLink RX3 28 (cTt 2 8).1 (cTt 2 8).2.1 (cTt 2 8).2.2.1 ∈ wl := wl_in (i := 106) (by decide +kernel)
theorem fl_X3_33 : Cond.fieldLink RX3 33 (cTt 6 2).1 (cTt 6 2).2.1 (cTt 6 2).2.2.1 ∈ wl := wl_in (i := 271) (by decide +kernel)
theorem fl_X3_36 : Cond.fieldLink RX3 36 (cTt 2 11).1 (cTt 2 11).2.1 (cTt 2 11).2.2.1 ∈ wl := wl_in (i := 115) (by decide +kernel)
theorem fl_X3_37 : Cond.fieldLink RX3 37 (cTt 6 3).1 (cTt 6 3).2.1 (cTt 6 3).2.2.1 ∈ wl := wl_in (i := 274) (by decide +kernel)
theorem fl_X3_19 : Cond.fieldLink RX3 19 (cTt 6 0).1 (cTt 6 0).2.1 (cTt 6 0).2.2.1 ∈ wl := wl_in (i := 264) (by decide +kernel)
theorem fl_X3_41 : Cond.fieldLink RX3 41 (cTt 2 13).1 (cTt 2 13).2.1 (cTt 2 13).2.2.1 ∈ wl := wl_in (i := 119) (by decide +kernel)
theorem cw_X3_44 : cCallV RX3 44 (cRn 3) yX3_openBoxOf cX3_openBoxOf 4 ((some FieldType.int)) 2 := ⟨⟨wl_in (i := 430) (by decide +kernel), wl_in (i := 431) (by decide +kernel), wl_in (i := 432) (by decide +kernel), wl_in (i := 5) (by decide +kernel), wl_in (i := 433) (by decide +kernel)⟩, rfl, by decide, by decide, by decide +kernel⟩
theorem fl_X3_51 : Cond.fieldLink RX3 51 (cTt 2 10).1 (cTt 2 10).2.1 (cTt 2 10).2.2.1 ∈ wl := wl_in (i := 112) (by decide +kernel)
theorem cw_X3_55 : cCallV RX3 55 (cRn 3) yX3_isAtHand cX3_isAtHand 5 ((some FieldType.boolean)) 2 := ⟨⟨wl_in (i := 426) (by decide +kernel), wl_in (i := 427) (by decide +kernel), wl_in (i := 428) (by decide +kernel), wl_in (i := 5) (by decide +kernel), wl_in (i := 429) (by decide +kernel)⟩, rfl, by decide, by decide, by decide +kernel⟩
theorem fl_X3_48 : Cond.fieldLink RX3 48 (cTt 2 2).1 (cTt 2 2).2.1 (cTt 2 2).2.2.1 ∈ wl := wl_in (i := 88) (by decide +kernel)
theorem cw_X3_59 : cCallV RX3 59 (cRn 3) yX3_isHeld cX3_isHeld 4 ((some FieldType.boolean)) 2 := ⟨⟨wl_in (i := 468) (by decide +kernel), wl_in (i := 469) (by decide +kernel), wl_in (i := 470) (by decide +kernel), wl_in (i := 5) (by decide +kernel), wl_in (i := 471) (by decide +kernel)⟩, rfl, by decide, by decide, by decide +kernel⟩
/-! Lorewick$Command.<init>(LLorewick$Verb;II)V -/
abbrev rc_X1_init : Room := { frames := 1, cells := 0, slots := 0, locals := 20 }
def fc_X1_init (σ : cS) (x0 : Option Nat) (x1 : Option Nat) (x2 : Int32) (x3 : Int32) : Option (cS) :=
  (dr σ 8 x0).bind fun i_1 =>
  if ¬ (lvq σ 18 x1 = true) then none else
  some (uI (uI (uR σ 8 i_1 0 x1) 8 i_1 1 x2) 8 i_1 2 x3)
set_option maxHeartbeats 4000000 in
set_option maxRecDepth 100000 in
theorem cc_X1_init (l : Launch) (D : va_G) (ca : Nat → ClassId) (A : Nat → Prop) (α : cAl) (σ : cS) (x0 : Option Nat) (x1 : Option Nat) (x2 : Int32) (x3 : Int32) (o : cS) (h : fc_X1_init σ x0 x1 x2 x3 = some o) : cMet false l yX1_init cX1_init 4 ((none : Option FieldType)) rc_X1_init 0 0 D ca true A α σ [cr α 8 x0, cr α 18 x1, .int x2, .int x3] (fun _ => none) o := by
  refine Met.ofW (cc := cX1_init) (maxL := 4) (ret := (none : Option FieldType)) (by decide) rfl ?_
  intro p e s m args below meth c s₁ B hml hv
  obtain ⟨rfl, hP, hK, hD0, hSh, hA, hG⟩ := hv
  have C : cC p s m _ c cX1_init 4 RX1 D ca A α := ⟨B.exec, B.bytes, hml, findClass_of_methodNamed B.named, fun w hw => atoms_spec (ws := mWs yX1_init cX1_init 4 ((none : Option FieldType))) B.pre w (List.mem_cons_of_mem _ hw), hK, hG⟩
  have hM : cM D ca true A s.heap σ α σ α s.heap [] := ⟨hP, hD0, hSh, va_S.rf, hA, cX.rf⟩
  have h17 : 0 < cn σ 17 := c_17 hM
  have hr := B.returns
  have hlk := B.notSynchronized
  have hnm : meth.name = "<init>" := (name_of_methodNamed B.named B.method).1
  have hx := C.1
  have hb := C.2.1
  have hl := lv_entry ([cr α 8 x0, cr α 18 x1, .int x2, .int x3]) (n := 4) (by simp [lg_r, lg_i, lg_l, lg_n])
  rw [lg_entry_eq]
  generalize (lg_sl ([cr α 8 x0, cr α 18 x1, .int x2, .int x3]) ++ List.replicate (4 - (lg_sl ([cr α 8 x0, cr α 18 x1, .int x2, .int x3])).length) Slot.unset).toArray = ls at hl ⊢
  have hl : lv_has ls 4 [(0, cr α 8 x0), (1, cr α 18 x1), (2, .int x2), (3, .int x3)] := (lv_to hl (by simp only [la_r, la_i, la_l, la_n]))
  unfold fc_X1_init at h
  refine c_aload_n (t := 8) (x := x0) hx hb dX1_init_0 rfl (lv_at hl 0 rfl) ?_
  obtain ⟨i_1, hd_1, h⟩ := bd_of h
  refine c_oinit C hd_1 (wl_in (i := 941) (by decide +kernel)) hl.1 dX1_init_1 (cats_le _ (Nat.le_of_ble_eq_true rfl)) (Nat.le_of_ble_eq_true rfl) (Nat.le_of_ble_eq_true rfl) ?_
  refine c_aload_n (t := 8) (x := x0) hx hb dX1_init_4 rfl (lv_at hl 0 rfl) ?_
  refine c_aload_n (t := 18) (x := x1) hx hb dX1_init_5 rfl (lv_at hl 1 rfl) ?_
  obtain ⟨c_1, h⟩ := ko_of h
  refine c_putr C hM (k := 8) (f := 0) (t := 18) (v := x1) hd_1 (by decide) (fun _ => Or.inl (by decide)) (Classical.not_not.mp c_1) fl_X1_7 (Or.inr ⟨rfl, hnm⟩) dX1_init_6 (fun H locs hM => ?_)
  refine c_aload_n (t := 8) (x := x0) hx hb dX1_init_9 rfl (lv_at hl 0 rfl) ?_
  refine lv_iload_n hx hb dX1_init_10 rfl (lv_at hl 2 rfl) ?_
  refine c_puti C hM (k := 8) (f := 1) hd_1 rfl fl_X1_13 (Or.inr ⟨rfl, hnm⟩) dX1_init_11 (fun H locs hM => ?_)
  refine c_aload_n (t := 8) (x := x0) hx hb dX1_init_14 rfl (lv_at hl 0 rfl) ?_
  refine lv_iload_n hx hb dX1_init_15 rfl (lv_at hl 3 rfl) ?_
  refine c_puti C hM (k := 8) (f := 2) hd_1 rfl fl_X1_17 (Or.inr ⟨rfl, hnm⟩) dX1_init_16 (fun H locs hM => ?_)
  exact c_rv C hM (fun _ => rfl) hr hlk dX1_init_19 h
/-! Lorewick$Command.isSame(LLorewick$Command;)Z -/
abbrev rc_X1_isSame : Room := { frames := 0, cells := 0, slots := 0, locals := 0 }
def fc_X1_isSame_38 (σ : cS) (s0 : Int32) : Option (Int32 × cS) :=
    if s0 &&& 1 = s0 then some (s0, σ) else none
set_option maxHeartbeats 4000000 in
set_option maxRecDepth 100000 in
theorem gc_X1_isSame_38 {p : Program} {l : Launch} {e : Env} {s : State} {m : MethodId} {args : Array Value} {below : List Frame} {meth : Method} {c : Code} {D : va_G} {ca : Nat → ClassId} {A : Nat → Prop} {σ0 : cS} {α : cAl} {o : Int32 × cS} (C : cC p s m args c cX1_isSame 2 RX1 D ca A α) (hr : meth.sig.returnType = (some FieldType.boolean)) (hlk : meth.locks = false) (h17 : 0 < cn σ0 17) : ∀ (σ : cS) (s0 : Int32) (H : Heap) (locs : List Loc) (ls : Array Slot), cM D ca true A s.heap σ0 α σ α H locs → lv_has ls 2 [] → fc_X1_isSame_38 σ s0 = some o → W p l e rc_X1_isSame s m args below meth c H locs 0 0 (MQ below (cQ false D ca true A α σ0 (fun _ => some (.int o.1)) o.2) args s 0 0 A) (F0 m 38 ls [.int s0]) := by
  have hx := C.1
  have hb := C.2.1
  intro σ s0 H locs ls hM hl h
  unfold fc_X1_isSame_38 at h
  exact c_rz C hM (fun _ => rfl) hr hlk dX1_isSame_38 h
def fc_X1_isSame_37 (σ : cS) : Option (Int32 × cS) :=
    fc_X1_isSame_38 σ (0 : Int32)
set_option maxHeartbeats 4000000 in
set_option maxRecDepth 100000 in
theorem gc_X1_isSame_37 {p : Program} {l : Launch} {e : Env} {s : State} {m : MethodId} {args : Array Value} {below : List Frame} {meth : Method} {c : Code} {D : va_G} {ca : Nat → ClassId} {A : Nat → Prop} {σ0 : cS} {α : cAl} {o : Int32 × cS} (C : cC p s m args c cX1_isSame 2 RX1 D ca A α) (hr : meth.sig.returnType = (some FieldType.boolean)) (hlk : meth.locks = false) (h17 : 0 < cn σ0 17) : ∀ (σ : cS) (H : Heap) (locs : List Loc) (ls : Array Slot), cM D ca true A s.heap σ0 α σ α H locs → lv_has ls 2 [] → fc_X1_isSame_37 σ = some o → W p l e rc_X1_isSame s m args below meth c H locs 0 0 (MQ below (cQ false D ca true A α σ0 (fun _ => some (.int o.1)) o.2) args s 0 0 A) (F0 m 37 ls []) := by
  have hx := C.1
  have hb := C.2.1
  intro σ H locs ls hM hl h
  unfold fc_X1_isSame_37 at h
  refine lv_iconst (v := (0 : Int32)) hx hb dX1_isSame_37 (by decide) ?_
  exact gc_X1_isSame_38 C hr hlk h17  _ _ _ _ _ hM (lv_sub hl [] rfl) h
def fc_X1_isSame (σ : cS) (x0 : Option Nat) (x1 : Option Nat) : Option (Int32 × cS) :=
  (dr σ 8 x0).bind fun i_1 =>
  (dr σ 8 x1).bind fun i_2 =>
  if ¬ (lvv (cR σ 8 i_1 0) = true) then none else
  if ¬ (lvv (cR σ 8 i_2 0) = true) then none else
  if (cR σ 8 i_1 0) = (cR σ 8 i_2 0) then
    if (cI σ 8 i_1 1) = (cI σ 8 i_2 1) then
      if (cI σ 8 i_1 2) = (cI σ 8 i_2 2) then
        fc_X1_isSame_38 σ (1 : Int32)
      else
        fc_X1_isSame_37 σ
    else
      fc_X1_isSame_37 σ
  else
    fc_X1_isSame_37 σ
set_option maxHeartbeats 4000000 in
set_option maxRecDepth 100000 in
theorem cc_X1_isSame (l : Launch) (D : va_G) (ca : Nat → ClassId) (A : Nat → Prop) (α : cAl) (σ : cS) (x0 : Option Nat) (x1 : Option Nat) (o : Int32 × cS) (h : fc_X1_isSame σ x0 x1 = some o) : cMet false l yX1_isSame cX1_isSame 2 ((some FieldType.boolean)) rc_X1_isSame 0 0 D ca true A α σ [cr α 8 x0, cr α 8 x1] (fun _ => some (.int o.1)) o.2 := by
  refine Met.ofW (cc := cX1_isSame) (maxL := 2) (ret := (some FieldType.boolean)) (by decide) rfl ?_
  intro p e s m args below meth c s₁ B hml hv
  obtain ⟨rfl, hP, hK, hD0, hSh, hA, hG⟩ := hv
  have C : cC p s m _ c cX1_isSame 2 RX1 D ca A α := ⟨B.exec, B.bytes, hml, findClass_of_methodNamed B.named, fun w hw => atoms_spec (ws := mWs yX1_isSame cX1_isSame 2 ((some FieldType.boolean))) B.pre w (List.mem_cons_of_mem _ hw), hK, hG⟩
  have hM : cM D ca true A s.heap σ α σ α s.heap [] := ⟨hP, hD0, hSh, va_S.rf, hA, cX.rf⟩
  have h17 : 0 < cn σ 17 := c_17 hM
  have hr := B.returns
  have hlk := B.notSynchronized
  have hx := C.1
  have hb := C.2.1
  have hl := lv_entry ([cr α 8 x0, cr α 8 x1]) (n := 2) (by simp [lg_r, lg_i, lg_l, lg_n])
  rw [lg_entry_eq]
  generalize (lg_sl ([cr α 8 x0, cr α 8 x1]) ++ List.replicate (2 - (lg_sl ([cr α 8 x0, cr α 8 x1])).length) Slot.unset).toArray = ls at hl ⊢
  have hl : lv_has ls 2 [(0, cr α 8 x0), (1, cr α 8 x1)] := (lv_to hl (by simp only [la_r, la_i, la_l, la_n]))
  unfold fc_X1_isSame at h
  refine c_aload_n (t := 8) (x := x0) hx hb dX1_isSame_0 rfl (lv_at hl 0 rfl) ?_
  obtain ⟨i_1, hd_1, h⟩ := bd_of h
  refine c_getrt C hM (k := 8) (f := 0) (t := 18) hd_1 (by decide) fl_X1_7 dX1_isSame_1 ?_
  refine c_aload_n (t := 8) (x := x1) hx hb dX1_isSame_4 rfl (lv_at hl 1 rfl) ?_
  obtain ⟨i_2, hd_2, h⟩ := bd_of h
  refine c_getrt C hM (k := 8) (f := 0) (t := 18) hd_2 (by decide) fl_X1_7 dX1_isSame_5 ?_
  obtain ⟨c_1, h⟩ := ko_of h
  obtain ⟨c_2, h⟩ := ko_of h
  refine c_vcmp_ne (tgt := 37) C hM (Classical.not_not.mp c_1) (Classical.not_not.mp c_2) dX1_isSame_8 (by decide) (fun c_3 => ?_) (fun c_3 => ?_)
  · have h := br_F c_3 h
    exact gc_X1_isSame_37 C hr hlk h17  _ _ _ _ hM (lv_sub hl [] rfl) h
  · have h := br_T c_3 h
    refine c_aload_n (t := 8) (x := x0) hx hb dX1_isSame_11 rfl (lv_at hl 0 rfl) ?_
    refine c_geti C hM (k := 8) (f := 1) hd_1 rfl fl_X1_13 dX1_isSame_12 ?_
    refine c_aload_n (t := 8) (x := x1) hx hb dX1_isSame_15 rfl (lv_at hl 1 rfl) ?_
    refine c_geti C hM (k := 8) (f := 1) hd_2 rfl fl_X1_13 dX1_isSame_16 ?_
    refine lv_icmp_ne (tgt := 37) hx hb dX1_isSame_19 (by decide) (fun c_4 => ?_) (fun c_4 => ?_)
    · have h := br_F c_4 h
      exact gc_X1_isSame_37 C hr hlk h17  _ _ _ _ hM (lv_sub hl [] rfl) h
    · have h := br_T c_4 h
      refine c_aload_n (t := 8) (x := x0) hx hb dX1_isSame_22 rfl (lv_at hl 0 rfl) ?_
      refine c_geti C hM (k := 8) (f := 2) hd_1 rfl fl_X1_17 dX1_isSame_23 ?_
      refine c_aload_n (t := 8) (x := x1) hx hb dX1_isSame_26 rfl (lv_at hl 1 rfl) ?_
      refine c_geti C hM (k := 8) (f := 2) hd_2 rfl fl_X1_17 dX1_isSame_27 ?_
      refine lv_icmp_ne (tgt := 37) hx hb dX1_isSame_30 (by decide) (fun c_5 => ?_) (fun c_5 => ?_)
      · have h := br_F c_5 h
        exact gc_X1_isSame_37 C hr hlk h17  _ _ _ _ hM (lv_sub hl [] rfl) h
      · have h := br_T c_5 h
        refine lv_iconst (v := (1 : Int32)) hx hb dX1_isSame_33 (by decide) ?_
        refine lv_goto (tgt := 38) hx hb dX1_isSame_34 (by decide) ?_
        exact gc_X1_isSame_38 C hr hlk h17  _ _ _ _ _ hM (lv_sub hl [] rfl) h
/-! Lorewick$State.<init>()V -/
abbrev rc_X6_init : Room := { frames := 1, cells := 3, slots := 36, locals := 20 }
def fc_X6_init (σ : cS) (x0 : Option Nat) : Option (cS) :=
  (dr σ 6 x0).bind fun i_1 =>
  if ¬ (lvq σ 6 x0 = true) then none else
  (dr (uN σ 12 12 0) 6 x0).bind fun i_4 =>
  if ¬ (i_4 ≠ 0) then none else
  if ¬ (lvq (uN σ 12 12 0) 12 (some (cn σ 12)) = true) then none else
  if ¬ (lvq (uR (uN σ 12 12 0) 6 i_4 1 (some (cn σ 12))) 6 x0 = true) then none else
  (dr (uN (uR (uN σ 12 12 0) 6 i_4 1 (some (cn σ 12))) 12 12 0) 6 x0).bind fun i_7 =>
  if ¬ (i_7 ≠ 0) then none else
  if ¬ (lvq (uN (uR (uN σ 12 12 0) 6 i_4 1 (some (cn σ 12))) 12 12 0) 12 (some (cn (uR (uN σ 12 12 0) 6 i_4 1 (some (cn σ 12))) 12)) = true) then none else
  if ¬ (lvq (uR (uN (uR (uN σ 12 12 0) 6 i_4 1 (some (cn σ 12))) 12 12 0) 6 i_7 2 (some (cn (uR (uN σ 12 12 0) 6 i_4 1 (some (cn σ 12))) 12))) 6 x0 = true) then none else
  (dr (uN (uR (uN (uR (uN σ 12 12 0) 6 i_4 1 (some (cn σ 12))) 12 12 0) 6 i_7 2 (some (cn (uR (uN σ 12 12 0) 6 i_4 1 (some (cn σ 12))) 12))) 13 12 0) 6 x0).bind fun i_10 =>
  if ¬ (i_10 ≠ 0) then none else
  if ¬ (lvq (uN (uR (uN (uR (uN σ 12 12 0) 6 i_4 1 (some (cn σ 12))) 12 12 0) 6 i_7 2 (some (cn (uR (uN σ 12 12 0) 6 i_4 1 (some (cn σ 12))) 12))) 13 12 0) 13 (some (cn (uR (uN (uR (uN σ 12 12 0) 6 i_4 1 (some (cn σ 12))) 12 12 0) 6 i_7 2 (some (cn (uR (uN σ 12 12 0) 6 i_4 1 (some (cn σ 12))) 12))) 13)) = true) then none else
  some (uR (uN (uR (uN (uR (uN σ 12 12 0) 6 i_4 1 (some (cn σ 12))) 12 12 0) 6 i_7 2 (some (cn (uR (uN σ 12 12 0) 6 i_4 1 (some (cn σ 12))) 12))) 13 12 0) 6 i_10 3 (some (cn (uR (uN (uR (uN σ 12 12 0) 6 i_4 1 (some (cn σ 12))) 12 12 0) 6 i_7 2 (some (cn (uR (uN σ 12 12 0) 6 i_4 1 (some (cn σ 12))) 12))) 13)))
set_option maxHeartbeats 4000000 in
set_option maxRecDepth 100000 in
theorem cc_X6_init (l : Launch) (D : va_G) (ca : Nat → ClassId) (A : Nat → Prop) (α : cAl) (σ : cS) (x0 : Option Nat) (o : cS) (h : fc_X6_init σ x0 = some o) : cMet true l yX6_init cX6_init 1 ((none : Option FieldType)) rc_X6_init 3 36 D ca true A α σ [cr α 6 x0] (fun _ => none) o := by
  refine Met.ofW (cc := cX6_init) (maxL := 1) (ret := (none : Option FieldType)) (by decide) rfl ?_
  intro p e s m args below meth c s₁ B hml hv
  obtain ⟨rfl, hP, hK, hD0, hSh, hA, hG⟩ := hv
  have C : cC p s m _ c cX6_init 1 RX6 D ca A α := ⟨B.exec, B.bytes, hml, findClass_of_methodNamed B.named, fun w hw => atoms_spec (ws := mWs yX6_init cX6_init 1 ((none : Option FieldType))) B.pre w (List.mem_cons_of_mem _ hw), hK, hG⟩
  have hM : cM D ca true A s.heap σ α σ α s.heap [] := ⟨hP, hD0, hSh, va_S.rf, hA, cX.rf⟩
  have h17 : 0 < cn σ 17 := c_17 hM
  have hr := B.returns
  have hlk := B.notSynchronized
  have hnm : meth.name = "<init>" := (name_of_methodNamed B.named B.method).1
  have hx := C.1
  have hb := C.2.1
  have hl := lv_entry ([cr α 6 x0]) (n := 1) (by simp [lg_r, lg_i, lg_l, lg_n])
  rw [lg_entry_eq]
  generalize (lg_sl ([cr α 6 x0]) ++ List.replicate (1 - (lg_sl ([cr α 6 x0])).length) Slot.unset).toArray = ls at hl ⊢
  have hl : lv_has ls 1 [(0, cr α 6 x0)] := (lv_to hl (by simp only [la_r, la_i, la_l, la_n]))
  unfold fc_X6_init at h
  refine c_aload_n (t := 6) (x := x0) hx hb dX6_init_0 rfl (lv_at hl 0 rfl) ?_
  obtain ⟨i_1, hd_1, h⟩ := bd_of h
  refine c_oinit C hd_1 (wl_in (i := 263) (by decide +kernel)) hl.1 dX6_init_1 (cats_le _ (Nat.le_of_ble_eq_true rfl)) (Nat.le_of_ble_eq_true rfl) (Nat.le_of_ble_eq_true rfl) ?_
  refine c_aload_n (t := 6) (x := x0) hx hb dX6_init_4 rfl (lv_at hl 0 rfl) ?_
  refine lv_bipush (v := (12 : Int32)) hx hb dX6_init_5 (by decide) ?_
  obtain ⟨c_1, h⟩ := ko_of h
  have hlv_3 := (Classical.not_not.mp c_1)
  refine c_newA (k := 12) (N := 12) C hM ⟨⟨by decide, rfl⟩, rfl⟩ (wl_in (i := 73) (by decide +kernel)) (by decide) (by decide) (by decide) (Nat.le_of_ble_eq_true rfl) (Nat.le_of_ble_eq_true rfl) dX6_init_7 (fun H α_1 hX_2 hM => ?_)
  have e_3 : cr α 6 x0 = cr α_1 6 x0 := cr_to hX_2 hlv_3
  have hl := lv_to (lv_sub hl [0] rfl) (show ([(0, cr α 6 x0)] : List (Nat × Value)) = [(0, cr α_1 6 x0)] by rw [e_3])
  refine W_st (st' := [cr α_1 12 (some (cn σ 12)), cr α_1 6 x0]) (show ([cr α_1 12 (some (cn σ 12)), cr α 6 x0] : List Value) = _ by rw [e_3]) ?_
  obtain ⟨i_4, hd_4, h⟩ := bd_of h
  obtain ⟨c_2, h⟩ := ko_of h
  obtain ⟨c_3, h⟩ := ko_of h
  refine c_putr C hM (k := 6) (f := 1) (t := 12) (v := (some (cn σ 12))) hd_4 (by decide) (fun _ => Or.inr (Classical.not_not.mp c_2)) (Classical.not_not.mp c_3) fl_X6_9 (Or.inr ⟨rfl, hnm⟩) dX6_init_9 (fun H locs hM => ?_)
  refine c_aload_n (t := 6) (x := x0) hx hb dX6_init_12 rfl (lv_at hl 0 rfl) ?_
  refine lv_bipush (v := (12 : Int32)) hx hb dX6_init_13 (by decide) ?_
  obtain ⟨c_4, h⟩ := ko_of h
  have hlv_6 := (Classical.not_not.mp c_4)
  refine c_newA (k := 12) (N := 12) C hM ⟨⟨by decide, rfl⟩, rfl⟩ (wl_in (i := 73) (by decide +kernel)) (by decide) (by decide) (by decide) (Nat.le_of_ble_eq_true rfl) (Nat.le_of_ble_eq_true rfl) dX6_init_15 (fun H α_2 hX_5 hM => ?_)
  have e_6 : cr α_1 6 x0 = cr α_2 6 x0 := cr_to hX_5 hlv_6
  have hl := lv_to (lv_sub hl [0] rfl) (show ([(0, cr α_1 6 x0)] : List (Nat × Value)) = [(0, cr α_2 6 x0)] by rw [e_6])
  refine W_st (st' := [cr α_2 12 (some (cn (uR (uN σ 12 12 0) 6 i_4 1 (some (cn σ 12))) 12)), cr α_2 6 x0]) (show ([cr α_2 12 (some (cn (uR (uN σ 12 12 0) 6 i_4 1 (some (cn σ 12))) 12)), cr α_1 6 x0] : List Value) = _ by rw [e_6]) ?_
  obtain ⟨i_7, hd_7, h⟩ := bd_of h
  obtain ⟨c_5, h⟩ := ko_of h
  obtain ⟨c_6, h⟩ := ko_of h
  refine c_putr C hM (k := 6) (f := 2) (t := 12) (v := (some (cn (uR (uN σ 12 12 0) 6 i_4 1 (some (cn σ 12))) 12))) hd_7 (by decide) (fun _ => Or.inr (Classical.not_not.mp c_5)) (Classical.not_not.mp c_6) fl_X6_15 (Or.inr ⟨rfl, hnm⟩) dX6_init_17 (fun H locs hM => ?_)
  refine c_aload_n (t := 6) (x := x0) hx hb dX6_init_20 rfl (lv_at hl 0 rfl) ?_
  refine lv_bipush (v := (12 : Int32)) hx hb dX6_init_21 (by decide) ?_
  obtain ⟨c_7, h⟩ := ko_of h
  have hlv_9 := (Classical.not_not.mp c_7)
  refine c_newA (k := 13) (N := 12) C hM ⟨⟨by decide, rfl⟩, rfl⟩ (wl_in (i := 166) (by decide +kernel)) (by decide) (by decide) (by decide) (Nat.le_of_ble_eq_true rfl) (Nat.le_of_ble_eq_true rfl) dX6_init_23 (fun H α_3 hX_8 hM => ?_)
  have e_9 : cr α_2 6 x0 = cr α_3 6 x0 := cr_to hX_8 hlv_9
  have hl := lv_to (lv_sub hl [] rfl) (show ([] : List (Nat × Value)) = [] by rfl)
  refine W_st (st' := [cr α_3 13 (some (cn (uR (uN (uR (uN σ 12 12 0) 6 i_4 1 (some (cn σ 12))) 12 12 0) 6 i_7 2 (some (cn (uR (uN σ 12 12 0) 6 i_4 1 (some (cn σ 12))) 12))) 13)), cr α_3 6 x0]) (show ([cr α_3 13 (some (cn (uR (uN (uR (uN σ 12 12 0) 6 i_4 1 (some (cn σ 12))) 12 12 0) 6 i_7 2 (some (cn (uR (uN σ 12 12 0) 6 i_4 1 (some (cn σ 12))) 12))) 13)), cr α_2 6 x0] : List Value) = _ by rw [e_9]) ?_
  obtain ⟨i_10, hd_10, h⟩ := bd_of h
  obtain ⟨c_8, h⟩ := ko_of h
  obtain ⟨c_9, h⟩ := ko_of h
  refine c_putr C hM (k := 6) (f := 3) (t := 13) (v := (some (cn (uR (uN (uR (uN σ 12 12 0) 6 i_4 1 (some (cn σ 12))) 12 12 0) 6 i_7 2 (some (cn (uR (uN σ 12 12 0) 6 i_4 1 (some (cn σ 12))) 12))) 13))) hd_10 (by decide) (fun _ => Or.inr (Classical.not_not.mp c_8)) (Classical.not_not.mp c_9) fl_X6_18 (Or.inr ⟨rfl, hnm⟩) dX6_init_25 (fun H locs hM => ?_)
  exact c_rv C hM (fun h => by cases h) hr hlk dX6_init_28 h
/-! Lorewick$State.copy(LLorewick$State;)V -/
abbrev rc_X6_copy : Room := { frames := 0, cells := 0, slots := 0, locals := 0 }
def fc_X6_copy_10 : Nat → cS → Option Nat → Option Nat → Int32 → Option (cS)
  | 0, _, _, _, _ => none
  | n + 1, σ, x0, x1, x2 =>
    if (12 : Int32) ≤ x2 then
      some σ
    else
      (dr σ 6 x0).bind fun i_1 =>
      (dr σ 6 x1).bind fun i_2 =>
      (dr σ 12 (cR σ 6 i_2 1)).bind fun i_3 =>
      if x2 < 0 ∨ cln σ 12 i_3 ≤ x2.toNatClampNeg then none else
      (dr σ 12 (cR σ 6 i_1 1)).bind fun i_4 =>
      if x2 < 0 ∨ cln σ 12 i_4 ≤ x2.toNatClampNeg then none else
      (dr (uI σ 12 i_4 x2.toNatClampNeg (cI σ 12 i_3 x2.toNatClampNeg)) 12 (cR (uI σ 12 i_4 x2.toNatClampNeg (cI σ 12 i_3 x2.toNatClampNeg)) 6 i_2 2)).bind fun i_5 =>
      if x2 < 0 ∨ cln (uI σ 12 i_4 x2.toNatClampNeg (cI σ 12 i_3 x2.toNatClampNeg)) 12 i_5 ≤ x2.toNatClampNeg then none else
      (dr (uI σ 12 i_4 x2.toNatClampNeg (cI σ 12 i_3 x2.toNatClampNeg)) 12 (cR (uI σ 12 i_4 x2.toNatClampNeg (cI σ 12 i_3 x2.toNatClampNeg)) 6 i_1 2)).bind fun i_6 =>
      if x2 < 0 ∨ cln (uI σ 12 i_4 x2.toNatClampNeg (cI σ 12 i_3 x2.toNatClampNeg)) 12 i_6 ≤ x2.toNatClampNeg then none else
      (dr (uI (uI σ 12 i_4 x2.toNatClampNeg (cI σ 12 i_3 x2.toNatClampNeg)) 12 i_6 x2.toNatClampNeg (cI (uI σ 12 i_4 x2.toNatClampNeg (cI σ 12 i_3 x2.toNatClampNeg)) 12 i_5 x2.toNatClampNeg)) 13 (cR (uI (uI σ 12 i_4 x2.toNatClampNeg (cI σ 12 i_3 x2.toNatClampNeg)) 12 i_6 x2.toNatClampNeg (cI (uI σ 12 i_4 x2.toNatClampNeg (cI σ 12 i_3 x2.toNatClampNeg)) 12 i_5 x2.toNatClampNeg)) 6 i_2 3)).bind fun i_7 =>
      if x2 < 0 ∨ cln (uI (uI σ 12 i_4 x2.toNatClampNeg (cI σ 12 i_3 x2.toNatClampNeg)) 12 i_6 x2.toNatClampNeg (cI (uI σ 12 i_4 x2.toNatClampNeg (cI σ 12 i_3 x2.toNatClampNeg)) 12 i_5 x2.toNatClampNeg)) 13 i_7 ≤ x2.toNatClampNeg then none else
      (dr (uI (uI σ 12 i_4 x2.toNatClampNeg (cI σ 12 i_3 x2.toNatClampNeg)) 12 i_6 x2.toNatClampNeg (cI (uI σ 12 i_4 x2.toNatClampNeg (cI σ 12 i_3 x2.toNatClampNeg)) 12 i_5 x2.toNatClampNeg)) 13 (cR (uI (uI σ 12 i_4 x2.toNatClampNeg (cI σ 12 i_3 x2.toNatClampNeg)) 12 i_6 x2.toNatClampNeg (cI (uI σ 12 i_4 x2.toNatClampNeg (cI σ 12 i_3 x2.toNatClampNeg)) 12 i_5 x2.toNatClampNeg)) 6 i_1 3)).bind fun i_8 =>
      if x2 < 0 ∨ cln (uI (uI σ 12 i_4 x2.toNatClampNeg (cI σ 12 i_3 x2.toNatClampNeg)) 12 i_6 x2.toNatClampNeg (cI (uI σ 12 i_4 x2.toNatClampNeg (cI σ 12 i_3 x2.toNatClampNeg)) 12 i_5 x2.toNatClampNeg)) 13 i_8 ≤ x2.toNatClampNeg then none else
      (fc_X6_copy_10 n) (uI (uI (uI σ 12 i_4 x2.toNatClampNeg (cI σ 12 i_3 x2.toNatClampNeg)) 12 i_6 x2.toNatClampNeg (cI (uI σ 12 i_4 x2.toNatClampNeg (cI σ 12 i_3 x2.toNatClampNeg)) 12 i_5 x2.toNatClampNeg)) 13 i_8 x2.toNatClampNeg ((cI (uI (uI σ 12 i_4 x2.toNatClampNeg (cI σ 12 i_3 x2.toNatClampNeg)) 12 i_6 x2.toNatClampNeg (cI (uI σ 12 i_4 x2.toNatClampNeg (cI σ 12 i_3 x2.toNatClampNeg)) 12 i_5 x2.toNatClampNeg)) 13 i_7 x2.toNatClampNeg) &&& 1)) x0 x1 (x2 + (1 : Int32))
set_option maxHeartbeats 4000000 in
set_option maxRecDepth 100000 in
theorem gc_X6_copy_10 {p : Program} {l : Launch} {e : Env} {s : State} {m : MethodId} {args : Array Value} {below : List Frame} {meth : Method} {c : Code} {D : va_G} {ca : Nat → ClassId} {A : Nat → Prop} {σ0 : cS} {α : cAl} {o : cS} (C : cC p s m args c cX6_copy 3 RX6 D ca A α) (hr : meth.sig.returnType = (none : Option FieldType)) (hlk : meth.locks = false) (h17 : 0 < cn σ0 17) : ∀ (n : Nat) (σ : cS) (x0 : Option Nat) (x1 : Option Nat) (x2 : Int32) (H : Heap) (locs : List Loc) (ls : Array Slot), cM D ca true A s.heap σ0 α σ α H locs → lv_has ls 3 [(0, cr α 6 x0), (1, cr α 6 x1), (2, .int x2)] → fc_X6_copy_10 n σ x0 x1 x2 = some o → W p l e rc_X6_copy s m args below meth c H locs 0 0 (MQ below (cQ false D ca true A α σ0 (fun _ => none) o) args s 0 0 A) (F0 m 10 ls []) := by
  have hx := C.1
  have hb := C.2.1
  intro n
  induction n with
  | zero =>
    intro σ x0 x1 x2 H locs ls hM hl h
    cases h
  | succ n ih =>
    intro σ x0 x1 x2 H locs ls hM hl h
    rw [fc_X6_copy_10] at h
    refine lv_iload_n hx hb dX6_copy_10 rfl (lv_at hl 2 rfl) ?_
    refine lv_bipush (v := (12 : Int32)) hx hb dX6_copy_11 (by decide) ?_
    refine lv_icmp_ge (tgt := 58) hx hb dX6_copy_13 (by decide) (fun c_1 => ?_) (fun c_1 => ?_)
    · have h := br_T c_1 h
      exact c_rv C hM (fun _ => rfl) hr hlk dX6_copy_58 h
    · have h := br_F c_1 h
      refine c_aload_n (t := 6) (x := x0) hx hb dX6_copy_16 rfl (lv_at hl 0 rfl) ?_
      obtain ⟨i_1, hd_1, h⟩ := bd_of h
      refine c_getrt C hM (k := 6) (f := 1) (t := 12) hd_1 (by decide) fl_X6_9 dX6_copy_17 ?_
      refine lv_iload_n hx hb dX6_copy_20 rfl (lv_at hl 2 rfl) ?_
      refine c_aload_n (t := 6) (x := x1) hx hb dX6_copy_21 rfl (lv_at hl 1 rfl) ?_
      obtain ⟨i_2, hd_2, h⟩ := bd_of h
      refine c_getrt C hM (k := 6) (f := 1) (t := 12) hd_2 (by decide) fl_X6_9 dX6_copy_22 ?_
      refine lv_iload_n hx hb dX6_copy_25 rfl (lv_at hl 2 rfl) ?_
      obtain ⟨i_3, hd_3, h⟩ := bd_of h
      obtain ⟨c_2, h⟩ := ko_of h
      refine c_iald C hM hd_3 c_2 dX6_copy_26 ?_
      obtain ⟨i_4, hd_4, h⟩ := bd_of h
      obtain ⟨c_3, h⟩ := ko_of h
      refine c_iast C hM hd_4 c_3 dX6_copy_27 (fun H locs hM => ?_)
      refine c_aload_n (t := 6) (x := x0) hx hb dX6_copy_28 rfl (lv_at hl 0 rfl) ?_
      refine c_getrt C hM (k := 6) (f := 2) (t := 12) hd_1 (by decide) fl_X6_15 dX6_copy_29 ?_
      refine lv_iload_n hx hb dX6_copy_32 rfl (lv_at hl 2 rfl) ?_
      refine c_aload_n (t := 6) (x := x1) hx hb dX6_copy_33 rfl (lv_at hl 1 rfl) ?_
      refine c_getrt C hM (k := 6) (f := 2) (t := 12) hd_2 (by decide) fl_X6_15 dX6_copy_34 ?_
      refine lv_iload_n hx hb dX6_copy_37 rfl (lv_at hl 2 rfl) ?_
      obtain ⟨i_5, hd_5, h⟩ := bd_of h
      obtain ⟨c_4, h⟩ := ko_of h
      refine c_iald C hM hd_5 c_4 dX6_copy_38 ?_
      obtain ⟨i_6, hd_6, h⟩ := bd_of h
      obtain ⟨c_5, h⟩ := ko_of h
      refine c_iast C hM hd_6 c_5 dX6_copy_39 (fun H locs hM => ?_)
      refine c_aload_n (t := 6) (x := x0) hx hb dX6_copy_40 rfl (lv_at hl 0 rfl) ?_
      refine c_getrt C hM (k := 6) (f := 3) (t := 13) hd_1 (by decide) fl_X6_18 dX6_copy_41 ?_
      refine lv_iload_n hx hb dX6_copy_44 rfl (lv_at hl 2 rfl) ?_
      refine c_aload_n (t := 6) (x := x1) hx hb dX6_copy_45 rfl (lv_at hl 1 rfl) ?_
      refine c_getrt C hM (k := 6) (f := 3) (t := 13) hd_2 (by decide) fl_X6_18 dX6_copy_46 ?_
      refine lv_iload_n hx hb dX6_copy_49 rfl (lv_at hl 2 rfl) ?_
      obtain ⟨i_7, hd_7, h⟩ := bd_of h
      obtain ⟨c_6, h⟩ := ko_of h
      refine c_zald C hM hd_7 c_6 dX6_copy_50 ?_
      obtain ⟨i_8, hd_8, h⟩ := bd_of h
      obtain ⟨c_7, h⟩ := ko_of h
      refine c_zast C hM hd_8 c_7 dX6_copy_51 (fun H locs hM => ?_)
      refine lv_iinc (v := (x2 + (1 : Int32))) (lv' := [(2, .int (x2 + (1 : Int32))), (0, cr α 6 x0), (1, cr α 6 x1)]) hx hb dX6_copy_52 hl (k := 2) rfl rfl (by decide) (by first | rfl | (simp only [List.filter, cr_cat]; rfl)) (fun ls hl => ?_)
      refine lv_goto (tgt := 10) hx hb dX6_copy_55 (by decide) ?_
      exact ih _ _ _ _ _ _ _ hM (lv_sub hl [1, 2, 0] rfl) h
def fc_X6_copy (σ : cS) (x0 : Option Nat) (x1 : Option Nat) : Option (cS) :=
  (dr σ 6 x1).bind fun i_1 =>
  (dr σ 6 x0).bind fun i_2 =>
  fc_X6_copy_10 3000 (uI σ 6 i_2 0 (cI σ 6 i_1 0)) x0 x1 (0 : Int32)
set_option maxHeartbeats 4000000 in
set_option maxRecDepth 100000 in
theorem cc_X6_copy (l : Launch) (D : va_G) (ca : Nat → ClassId) (A : Nat → Prop) (α : cAl) (σ : cS) (x0 : Option Nat) (x1 : Option Nat) (o : cS) (h : fc_X6_copy σ x0 x1 = some o) : cMet false l yX6_copy cX6_copy 3 ((none : Option FieldType)) rc_X6_copy 0 0 D ca true A α σ [cr α 6 x0, cr α 6 x1] (fun _ => none) o := by
  refine Met.ofW (cc := cX6_copy) (maxL := 3) (ret := (none : Option FieldType)) (by decide) rfl ?_
  intro p e s m args below meth c s₁ B hml hv
  obtain ⟨rfl, hP, hK, hD0, hSh, hA, hG⟩ := hv
  have C : cC p s m _ c cX6_copy 3 RX6 D ca A α := ⟨B.exec, B.bytes, hml, findClass_of_methodNamed B.named, fun w hw => atoms_spec (ws := mWs yX6_copy cX6_copy 3 ((none : Option FieldType))) B.pre w (List.mem_cons_of_mem _ hw), hK, hG⟩
  have hM : cM D ca true A s.heap σ α σ α s.heap [] := ⟨hP, hD0, hSh, va_S.rf, hA, cX.rf⟩
  have h17 : 0 < cn σ 17 := c_17 hM
  have hr := B.returns
  have hlk := B.notSynchronized
  have hx := C.1
  have hb := C.2.1
  have hl := lv_entry ([cr α 6 x0, cr α 6 x1]) (n := 3) (by simp [lg_r, lg_i, lg_l, lg_n])
  rw [lg_entry_eq]
  generalize (lg_sl ([cr α 6 x0, cr α 6 x1]) ++ List.replicate (3 - (lg_sl ([cr α 6 x0, cr α 6 x1])).length) Slot.unset).toArray = ls at hl ⊢
  have hl : lv_has ls 3 [(0, cr α 6 x0), (1, cr α 6 x1)] := (lv_to hl (by simp only [la_r, la_i, la_l, la_n]))
  unfold fc_X6_copy at h
  refine c_aload_n (t := 6) (x := x0) hx hb dX6_copy_0 rfl (lv_at hl 0 rfl) ?_
  refine c_aload_n (t := 6) (x := x1) hx hb dX6_copy_1 rfl (lv_at hl 1 rfl) ?_
  obtain ⟨i_1, hd_1, h⟩ := bd_of h
  refine c_geti C hM (k := 6) (f := 0) hd_1 rfl fl_X6_22 dX6_copy_2 ?_
  obtain ⟨i_2, hd_2, h⟩ := bd_of h
  refine c_puti C hM (k := 6) (f := 0) hd_2 rfl fl_X6_22 (Or.inl rfl) dX6_copy_5 (fun H locs hM => ?_)
  refine lv_iconst (v := (0 : Int32)) hx hb dX6_copy_8 (by decide) ?_
  refine lv_istore_n (lv' := [(2, .int (0 : Int32)), (0, cr α 6 x0), (1, cr α 6 x1)]) hx hb dX6_copy_9 rfl hl (by decide) (by first | rfl | (simp only [List.filter, cr_cat]; rfl)) (fun ls hl => ?_)
  exact gc_X6_copy_10 C hr hlk h17  _ _ _ _ _ _ _ _ hM (lv_sub hl [1, 2, 0] rfl) h
/-! Lorewick$Node.<init>(ILLorewick$Node;LLorewick$Command;LLorewick$State;J)V -/
abbrev rc_X2_init : Room := { frames := 2, cells := 4, slots := 40, locals := 40 }
def fc_X2_init (σ : cS) (x0 : Option Nat) (x1 : Int32) (x2 : Option Nat) (x3 : Option Nat) (x4 : Option Nat) (x5 : Int64) : Option (cS) :=
  (dr σ 7 x0).bind fun i_1 =>
  if ¬ (lvq σ 7 x0 = true) then none else
  if ¬ (lvq σ 7 x2 = true) then none else
  if ¬ (lvq σ 8 x3 = true) then none else
  if ¬ (lvq σ 6 x4 = true) then none else
  (dr (uN σ 6 0 0) 6 (some (cn σ 6))).bind fun i_8 =>
  if ¬ (lvq (uN σ 6 0 0) 7 x0 = true) then none else
  if ¬ (lvq (uN σ 6 0 0) 7 x2 = true) then none else
  if ¬ (lvq (uN σ 6 0 0) 8 x3 = true) then none else
  if ¬ (lvq (uN σ 6 0 0) 6 x4 = true) then none else
  if ¬ (lvq (uN σ 6 0 0) 6 (some (cn σ 6)) = true) then none else
  (fc_X6_init (uN σ 6 0 0) (some (cn σ 6))).bind fun r_7 =>
  (dr r_7 7 x0).bind fun i_14 =>
  if ¬ (lvq r_7 6 (some (cn σ 6)) = true) then none else
  if ¬ (lvq (uI (uR r_7 7 i_14 3 (some (cn σ 6))) 7 i_14 0 x1) 7 x2 = true) then none else
  if ¬ (lvq (uR (uI (uR r_7 7 i_14 3 (some (cn σ 6))) 7 i_14 0 x1) 7 i_14 1 x2) 8 x3 = true) then none else
  (dr (uR (uR (uI (uR r_7 7 i_14 3 (some (cn σ 6))) 7 i_14 0 x1) 7 i_14 1 x2) 7 i_14 2 x3) 6 (cR (uR (uR (uI (uR r_7 7 i_14 3 (some (cn σ 6))) 7 i_14 0 x1) 7 i_14 1 x2) 7 i_14 2 x3) 7 i_14 3)).bind fun i_15 =>
  (fc_X6_copy (uR (uR (uI (uR r_7 7 i_14 3 (some (cn σ 6))) 7 i_14 0 x1) 7 i_14 1 x2) 7 i_14 2 x3) (cR (uR (uR (uI (uR r_7 7 i_14 3 (some (cn σ 6))) 7 i_14 0 x1) 7 i_14 1 x2) 7 i_14 2 x3) 7 i_14 3) x4).bind fun r_16 =>
  (dr r_16 7 x0).bind fun i_17 =>
  some (uJ r_16 7 i_17 4 x5)
set_option maxHeartbeats 4000000 in
set_option maxRecDepth 100000 in
theorem cc_X2_init (l : Launch) (D : va_G) (ca : Nat → ClassId) (A : Nat → Prop) (α : cAl) (σ : cS) (x0 : Option Nat) (x1 : Int32) (x2 : Option Nat) (x3 : Option Nat) (x4 : Option Nat) (x5 : Int64) (o : cS) (h : fc_X2_init σ x0 x1 x2 x3 x4 x5 = some o) : cMet true l yX2_init cX2_init 7 ((none : Option FieldType)) rc_X2_init 4 40 D ca true A α σ [cr α 7 x0, .int x1, cr α 7 x2, cr α 8 x3, cr α 6 x4, .long x5] (fun _ => none) o := by
  refine Met.ofW (cc := cX2_init) (maxL := 7) (ret := (none : Option FieldType)) (by decide) rfl ?_
  intro p e s m args below meth c s₁ B hml hv
  obtain ⟨rfl, hP, hK, hD0, hSh, hA, hG⟩ := hv
  have C : cC p s m _ c cX2_init 7 RX2 D ca A α := ⟨B.exec, B.bytes, hml, findClass_of_methodNamed B.named, fun w hw => atoms_spec (ws := mWs yX2_init cX2_init 7 ((none : Option FieldType))) B.pre w (List.mem_cons_of_mem _ hw), hK, hG⟩
  have hM : cM D ca true A s.heap σ α σ α s.heap [] := ⟨hP, hD0, hSh, va_S.rf, hA, cX.rf⟩
  have h17 : 0 < cn σ 17 := c_17 hM
  have hr := B.returns
  have hlk := B.notSynchronized
  have hnm : meth.name = "<init>" := (name_of_methodNamed B.named B.method).1
  have hx := C.1
  have hb := C.2.1
  have hl := lv_entry ([cr α 7 x0, .int x1, cr α 7 x2, cr α 8 x3, cr α 6 x4, .long x5]) (n := 7) (by simp [lg_r, lg_i, lg_l, lg_n])
  rw [lg_entry_eq]
  generalize (lg_sl ([cr α 7 x0, .int x1, cr α 7 x2, cr α 8 x3, cr α 6 x4, .long x5]) ++ List.replicate (7 - (lg_sl ([cr α 7 x0, .int x1, cr α 7 x2, cr α 8 x3, cr α 6 x4, .long x5])).length) Slot.unset).toArray = ls at hl ⊢
  have hl : lv_has ls 7 [(0, cr α 7 x0), (1, .int x1), (2, cr α 7 x2), (3, cr α 8 x3), (4, cr α 6 x4), (5, .long x5)] := (lv_to hl (by simp only [la_r, la_i, la_l, la_n]))
  unfold fc_X2_init at h
  refine c_aload_n (t := 7) (x := x0) hx hb dX2_init_0 rfl (lv_at hl 0 rfl) ?_
  obtain ⟨i_1, hd_1, h⟩ := bd_of h
  refine c_oinit C hd_1 (wl_in (i := 976) (by decide +kernel)) hl.1 dX2_init_1 (cats_le _ (Nat.le_of_ble_eq_true rfl)) (Nat.le_of_ble_eq_true rfl) (Nat.le_of_ble_eq_true rfl) ?_
  refine c_aload_n (t := 7) (x := x0) hx hb dX2_init_4 rfl (lv_at hl 0 rfl) ?_
  obtain ⟨c_1, h⟩ := ko_of h
  have hlv_3 := (Classical.not_not.mp c_1)
  obtain ⟨c_2, h⟩ := ko_of h
  have hlv_4 := (Classical.not_not.mp c_2)
  obtain ⟨c_3, h⟩ := ko_of h
  have hlv_5 := (Classical.not_not.mp c_3)
  obtain ⟨c_4, h⟩ := ko_of h
  have hlv_6 := (Classical.not_not.mp c_4)
  refine c_new (k := 6) C hM (by decide) ⟨⟨wl_in (i := 977) (by decide +kernel), wl_in (i := 259) (by decide +kernel)⟩, wl_in (i := 11) (by decide +kernel)⟩ (Nat.le_of_ble_eq_true rfl) (Nat.le_of_ble_eq_true rfl) dX2_init_5 (fun H α_1 hX_2 hM => ?_)
  have e_3 : cr α 7 x0 = cr α_1 7 x0 := cr_to hX_2 hlv_3
  have e_4 : cr α 7 x2 = cr α_1 7 x2 := cr_to hX_2 hlv_4
  have e_5 : cr α 8 x3 = cr α_1 8 x3 := cr_to hX_2 hlv_5
  have e_6 : cr α 6 x4 = cr α_1 6 x4 := cr_to hX_2 hlv_6
  have hl := lv_to (lv_sub hl [0, 1, 2, 3, 4, 5] rfl) (show ([(0, cr α 7 x0), (1, .int x1), (2, cr α 7 x2), (3, cr α 8 x3), (4, cr α 6 x4), (5, .long x5)] : List (Nat × Value)) = [(0, cr α_1 7 x0), (1, .int x1), (2, cr α_1 7 x2), (3, cr α_1 8 x3), (4, cr α_1 6 x4), (5, .long x5)] by rw [e_3, e_4, e_5, e_6])
  refine W_st (st' := [cr α_1 6 (some (cn σ 6)), cr α_1 7 x0]) (show ([cr α_1 6 (some (cn σ 6)), cr α 7 x0] : List Value) = _ by rw [e_3]) ?_
  refine lv_dup hx hb dX2_init_8 cr_cat ?_
  obtain ⟨i_8, hd_8, h⟩ := bd_of h
  obtain ⟨c_5, h⟩ := ko_of h
  have hlv_9 := (Classical.not_not.mp c_5)
  obtain ⟨c_6, h⟩ := ko_of h
  have hlv_10 := (Classical.not_not.mp c_6)
  obtain ⟨c_7, h⟩ := ko_of h
  have hlv_11 := (Classical.not_not.mp c_7)
  obtain ⟨c_8, h⟩ := ko_of h
  have hlv_12 := (Classical.not_not.mp c_8)
  obtain ⟨c_9, h⟩ := ko_of h
  have hlv_13 := (Classical.not_not.mp c_9)
  obtain ⟨r_7, hr_7, h⟩ := bd_of h
  refine c_go1 (c_rIN (As := []) (rest := [cr α_1 6 (some (cn σ 6)), cr α_1 7 x0]) C hM h17 hd_8 (cc_X6_init l D ca A α_1 (uN σ 6 0 0) (some (cn σ 6)) _ hr_7) cw_X2_11 ⟨rfl, rfl⟩ ⟨Nat.le_of_ble_eq_true rfl, Nat.le_of_ble_eq_true rfl⟩ rfl rfl (cats_le _ (Nat.le_of_ble_eq_true rfl)) hl.1 dX2_init_9 ⟨Nat.le_of_ble_eq_true rfl, Nat.le_of_ble_eq_true rfl⟩) hM (fun H locs α_2 hX_7 hM => ?_)
  have e_9 : cr α_1 7 x0 = cr α_2 7 x0 := cr_to hX_7 hlv_9
  have e_10 : cr α_1 7 x2 = cr α_2 7 x2 := cr_to hX_7 hlv_10
  have e_11 : cr α_1 8 x3 = cr α_2 8 x3 := cr_to hX_7 hlv_11
  have e_12 : cr α_1 6 x4 = cr α_2 6 x4 := cr_to hX_7 hlv_12
  have e_13 : cr α_1 6 (some (cn σ 6)) = cr α_2 6 (some (cn σ 6)) := cr_to hX_7 hlv_13
  have hl := lv_to (lv_sub hl [0, 1, 2, 3, 4, 5] rfl) (show ([(0, cr α_1 7 x0), (1, .int x1), (2, cr α_1 7 x2), (3, cr α_1 8 x3), (4, cr α_1 6 x4), (5, .long x5)] : List (Nat × Value)) = [(0, cr α_2 7 x0), (1, .int x1), (2, cr α_2 7 x2), (3, cr α_2 8 x3), (4, cr α_2 6 x4), (5, .long x5)] by rw [e_9, e_10, e_11, e_12])
  refine W_st (st' := [cr α_2 6 (some (cn σ 6)), cr α_2 7 x0]) (show ([cr α_1 6 (some (cn σ 6)), cr α_1 7 x0] : List Value) = _ by rw [e_13, e_9]) ?_
  obtain ⟨i_14, hd_14, h⟩ := bd_of h
  obtain ⟨c_10, h⟩ := ko_of h
  refine c_putr C hM (k := 7) (f := 3) (t := 6) (v := (some (cn σ 6))) hd_14 (by decide) (fun _ => Or.inl (by decide)) (Classical.not_not.mp c_10) fl_X2_12 (Or.inr ⟨rfl, hnm⟩) dX2_init_12 (fun H locs hM => ?_)
  refine c_aload_n (t := 7) (x := x0) hx hb dX2_init_15 rfl (lv_at hl 0 rfl) ?_
  refine lv_iload_n hx hb dX2_init_16 rfl (lv_at hl 1 rfl) ?_
  refine c_puti C hM (k := 7) (f := 0) hd_14 rfl fl_X2_18 (Or.inr ⟨rfl, hnm⟩) dX2_init_17 (fun H locs hM => ?_)
  refine c_aload_n (t := 7) (x := x0) hx hb dX2_init_20 rfl (lv_at hl 0 rfl) ?_
  refine c_aload_n (t := 7) (x := x2) hx hb dX2_init_21 rfl (lv_at hl 2 rfl) ?_
  obtain ⟨c_11, h⟩ := ko_of h
  refine c_putr C hM (k := 7) (f := 1) (t := 7) (v := x2) hd_14 (by decide) (fun _ => Or.inl (by decide)) (Classical.not_not.mp c_11) fl_X2_22 (Or.inr ⟨rfl, hnm⟩) dX2_init_22 (fun H locs hM => ?_)
  refine c_aload_n (t := 7) (x := x0) hx hb dX2_init_25 rfl (lv_at hl 0 rfl) ?_
  refine c_aload_n (t := 8) (x := x3) hx hb dX2_init_26 rfl (lv_at hl 3 rfl) ?_
  obtain ⟨c_12, h⟩ := ko_of h
  refine c_putr C hM (k := 7) (f := 2) (t := 8) (v := x3) hd_14 (by decide) (fun _ => Or.inl (by decide)) (Classical.not_not.mp c_12) fl_X2_26 (Or.inr ⟨rfl, hnm⟩) dX2_init_27 (fun H locs hM => ?_)
  refine c_aload_n (t := 7) (x := x0) hx hb dX2_init_30 rfl (lv_at hl 0 rfl) ?_
  refine c_getrt C hM (k := 7) (f := 3) (t := 6) hd_14 (by decide) fl_X2_12 dX2_init_31 ?_
  refine c_aload (t := 6) (x := x4) hx hb dX2_init_34 (lv_at hl 4 rfl) ?_
  obtain ⟨i_15, hd_15, h⟩ := bd_of h
  obtain ⟨r_16, hr_16, h⟩ := bd_of h
  refine c_go0 (c_rV (As := [cr α_2 6 x4]) (rest := []) C hM h17 hd_15 (by decide) (cc_X6_copy l D ca A α_2 (uR (uR (uI (uR r_7 7 i_14 3 (some (cn σ 6))) 7 i_14 0 x1) 7 i_14 1 x2) 7 i_14 2 x3) (cR (uR (uR (uI (uR r_7 7 i_14 3 (some (cn σ 6))) 7 i_14 0 x1) 7 i_14 1 x2) 7 i_14 2 x3) 7 i_14 3) x4 _ hr_16) cw_X2_30 ⟨rfl, rfl⟩ ⟨Nat.le_of_ble_eq_true rfl, Nat.le_of_ble_eq_true rfl⟩ rfl rfl (cats_le _ (Nat.le_of_ble_eq_true rfl)) hl.1 dX2_init_36 ⟨Nat.le_of_ble_eq_true rfl, Nat.le_of_ble_eq_true rfl⟩) hM (fun H locs hM => ?_)
  refine W_st (st' := []) rfl ?_
  refine c_aload_n (t := 7) (x := x0) hx hb dX2_init_39 rfl (lv_at hl 0 rfl) ?_
  refine lv_lload hx hb dX2_init_40 (lv_at hl 5 rfl) ?_
  obtain ⟨i_17, hd_17, h⟩ := bd_of h
  refine c_putl C hM (k := 7) (f := 4) hd_17 rfl fl_X2_34 (Or.inr ⟨rfl, hnm⟩) dX2_init_42 (fun H locs hM => ?_)
  exact c_rv C hM (fun h => by cases h) hr hlk dX2_init_45 h
/-! Lorewick$Node.isOnPathOf(LLorewick$Node;)Z -/
abbrev rc_X2_isOnPathOf : Room := { frames := 0, cells := 0, slots := 0, locals := 0 }
def fc_X2_isOnPathOf_2 : Nat → cS → Option Nat → Option Nat → Option (Int32 × cS)
  | 0, _, _, _ => none
  | n + 1, σ, x0, x2 =>
    if x2 = none then
      if (0 : Int32) &&& 1 = (0 : Int32) then some ((0 : Int32), σ) else none
    else
      if ¬ (lvq σ 7 x2 = true) then none else
      if ¬ (lvq σ 7 x0 = true) then none else
      if x2 = x0 then
        if (1 : Int32) &&& 1 = (1 : Int32) then some ((1 : Int32), σ) else none
      else
        (dr σ 7 x2).bind fun i_1 =>
        (fc_X2_isOnPathOf_2 n) σ x0 (cR σ 7 i_1 1)
set_option maxHeartbeats 4000000 in
set_option maxRecDepth 100000 in
theorem gc_X2_isOnPathOf_2 {p : Program} {l : Launch} {e : Env} {s : State} {m : MethodId} {args : Array Value} {below : List Frame} {meth : Method} {c : Code} {D : va_G} {ca : Nat → ClassId} {A : Nat → Prop} {σ0 : cS} {α : cAl} {o : Int32 × cS} (C : cC p s m args c cX2_isOnPathOf 3 RX2 D ca A α) (hr : meth.sig.returnType = (some FieldType.boolean)) (hlk : meth.locks = false) (h17 : 0 < cn σ0 17) : ∀ (n : Nat) (σ : cS) (x0 : Option Nat) (x2 : Option Nat) (H : Heap) (locs : List Loc) (ls : Array Slot), cM D ca true A s.heap σ0 α σ α H locs → lv_has ls 3 [(0, cr α 7 x0), (2, cr α 7 x2)] → fc_X2_isOnPathOf_2 n σ x0 x2 = some o → W p l e rc_X2_isOnPathOf s m args below meth c H locs 0 0 (MQ below (cQ false D ca true A α σ0 (fun _ => some (.int o.1)) o.2) args s 0 0 A) (F0 m 2 ls []) := by
  have hx := C.1
  have hb := C.2.1
  intro n
  induction n with
  | zero =>
    intro σ x0 x2 H locs ls hM hl h
    cases h
  | succ n ih =>
    intro σ x0 x2 H locs ls hM hl h
    rw [fc_X2_isOnPathOf_2] at h
    refine c_aload_n (t := 7) (x := x2) hx hb dX2_isOnPathOf_2 rfl (lv_at hl 1 rfl) ?_
    refine c_ifnull (tgt := 21) hx hb dX2_isOnPathOf_3 (by decide) (fun c_1 => ?_) (fun c_1 => ?_)
    · have h := br_T c_1 h
      refine lv_iconst (v := (0 : Int32)) hx hb dX2_isOnPathOf_21 (by decide) ?_
      exact c_rz C hM (fun _ => rfl) hr hlk dX2_isOnPathOf_22 h
    · have h := br_F c_1 h
      refine c_aload_n (t := 7) (x := x2) hx hb dX2_isOnPathOf_6 rfl (lv_at hl 1 rfl) ?_
      refine c_aload_n (t := 7) (x := x0) hx hb dX2_isOnPathOf_7 rfl (lv_at hl 0 rfl) ?_
      obtain ⟨c_2, h⟩ := ko_of h
      obtain ⟨c_3, h⟩ := ko_of h
      refine c_acmp_ne (tgt := 13) hx hb hM (by decide) (Classical.not_not.mp c_2) (Classical.not_not.mp c_3) dX2_isOnPathOf_8 (by decide) (fun c_4 => ?_) (fun c_4 => ?_)
      · have h := br_F c_4 h
        refine c_aload_n (t := 7) (x := x2) hx hb dX2_isOnPathOf_13 rfl (lv_at hl 1 rfl) ?_
        obtain ⟨i_1, hd_1, h⟩ := bd_of h
        refine c_getrt C hM (k := 7) (f := 1) (t := 7) hd_1 (by decide) fl_X2_22 dX2_isOnPathOf_14 ?_
        refine c_astore_n (t := 7) (x := (cR σ 7 i_1 1)) (lv' := [(2, cr α 7 (cR σ 7 i_1 1)), (0, cr α 7 x0)]) hx hb dX2_isOnPathOf_17 rfl hl (by decide) rfl (fun ls hl => ?_)
        refine lv_goto (tgt := 2) hx hb dX2_isOnPathOf_18 (by decide) ?_
        exact ih _ _ _ _ _ _ hM (lv_sub hl [1, 0] rfl) h
      · have h := br_T c_4 h
        refine lv_iconst (v := (1 : Int32)) hx hb dX2_isOnPathOf_11 (by decide) ?_
        exact c_rz C hM (fun _ => rfl) hr hlk dX2_isOnPathOf_12 h
def fc_X2_isOnPathOf (σ : cS) (x0 : Option Nat) (x1 : Option Nat) : Option (Int32 × cS) :=
  fc_X2_isOnPathOf_2 3000 σ x0 x1
set_option maxHeartbeats 4000000 in
set_option maxRecDepth 100000 in
theorem cc_X2_isOnPathOf (l : Launch) (D : va_G) (ca : Nat → ClassId) (A : Nat → Prop) (α : cAl) (σ : cS) (x0 : Option Nat) (x1 : Option Nat) (o : Int32 × cS) (h : fc_X2_isOnPathOf σ x0 x1 = some o) : cMet false l yX2_isOnPathOf cX2_isOnPathOf 3 ((some FieldType.boolean)) rc_X2_isOnPathOf 0 0 D ca true A α σ [cr α 7 x0, cr α 7 x1] (fun _ => some (.int o.1)) o.2 := by
  refine Met.ofW (cc := cX2_isOnPathOf) (maxL := 3) (ret := (some FieldType.boolean)) (by decide) rfl ?_
  intro p e s m args below meth c s₁ B hml hv
  obtain ⟨rfl, hP, hK, hD0, hSh, hA, hG⟩ := hv
  have C : cC p s m _ c cX2_isOnPathOf 3 RX2 D ca A α := ⟨B.exec, B.bytes, hml, findClass_of_methodNamed B.named, fun w hw => atoms_spec (ws := mWs yX2_isOnPathOf cX2_isOnPathOf 3 ((some FieldType.boolean))) B.pre w (List.mem_cons_of_mem _ hw), hK, hG⟩
  have hM : cM D ca true A s.heap σ α σ α s.heap [] := ⟨hP, hD0, hSh, va_S.rf, hA, cX.rf⟩
  have h17 : 0 < cn σ 17 := c_17 hM
  have hr := B.returns
  have hlk := B.notSynchronized
  have hx := C.1
  have hb := C.2.1
  have hl := lv_entry ([cr α 7 x0, cr α 7 x1]) (n := 3) (by simp [lg_r, lg_i, lg_l, lg_n])
  rw [lg_entry_eq]
  generalize (lg_sl ([cr α 7 x0, cr α 7 x1]) ++ List.replicate (3 - (lg_sl ([cr α 7 x0, cr α 7 x1])).length) Slot.unset).toArray = ls at hl ⊢
  have hl : lv_has ls 3 [(0, cr α 7 x0), (1, cr α 7 x1)] := (lv_to hl (by simp only [la_r, la_i, la_l, la_n]))
  unfold fc_X2_isOnPathOf at h
  refine c_aload_n (t := 7) (x := x1) hx hb dX2_isOnPathOf_0 rfl (lv_at hl 1 rfl) ?_
  refine c_astore_n (t := 7) (x := x1) (lv' := [(2, cr α 7 x1), (0, cr α 7 x0), (1, cr α 7 x1)]) hx hb dX2_isOnPathOf_1 rfl hl (by decide) (by first | rfl | (simp only [List.filter, cr_cat]; rfl)) (fun ls hl => ?_)
  exact gc_X2_isOnPathOf_2 C hr hlk h17  _ _ _ _ _ _ _ hM (lv_sub hl [1, 0] rfl) h
/-! Lorewick$Node.pathLength()I -/
abbrev rc_X2_pathLength : Room := { frames := 0, cells := 0, slots := 0, locals := 0 }
def fc_X2_pathLength_7 : Nat → cS → Int32 → Option Nat → Option (Int32 × cS)
  | 0, _, _, _ => none
  | n + 1, σ, x1, x2 =>
    if x2 = none then
      some (x1, σ)
    else
      (dr σ 7 x2).bind fun i_1 =>
      (fc_X2_pathLength_7 n) σ (x1 + (1 : Int32)) (cR σ 7 i_1 1)
set_option maxHeartbeats 4000000 in
set_option maxRecDepth 100000 in
theorem gc_X2_pathLength_7 {p : Program} {l : Launch} {e : Env} {s : State} {m : MethodId} {args : Array Value} {below : List Frame} {meth : Method} {c : Code} {D : va_G} {ca : Nat → ClassId} {A : Nat → Prop} {σ0 : cS} {α : cAl} {o : Int32 × cS} (C : cC p s m args c cX2_pathLength 3 RX2 D ca A α) (hr : meth.sig.returnType = (some FieldType.int)) (hlk : meth.locks = false) (h17 : 0 < cn σ0 17) : ∀ (n : Nat) (σ : cS) (x1 : Int32) (x2 : Option Nat) (H : Heap) (locs : List Loc) (ls : Array Slot), cM D ca true A s.heap σ0 α σ α H locs → lv_has ls 3 [(1, .int x1), (2, cr α 7 x2)] → fc_X2_pathLength_7 n σ x1 x2 = some o → W p l e rc_X2_pathLength s m args below meth c H locs 0 0 (MQ below (cQ false D ca true A α σ0 (fun _ => some (.int o.1)) o.2) args s 0 0 A) (F0 m 7 ls []) := by
  have hx := C.1
  have hb := C.2.1
  intro n
  induction n with
  | zero =>
    intro σ x1 x2 H locs ls hM hl h
    cases h
  | succ n ih =>
    intro σ x1 x2 H locs ls hM hl h
    rw [fc_X2_pathLength_7] at h
    refine c_aload_n (t := 7) (x := x2) hx hb dX2_pathLength_7 rfl (lv_at hl 1 rfl) ?_
    refine c_ifnull (tgt := 22) hx hb dX2_pathLength_8 (by decide) (fun c_1 => ?_) (fun c_1 => ?_)
    · have h := br_T c_1 h
      refine lv_iload_n hx hb dX2_pathLength_22 rfl (lv_at hl 0 rfl) ?_
      exact c_ri C hM (fun _ => rfl) hr hlk dX2_pathLength_23 h
    · have h := br_F c_1 h
      refine lv_iinc (v := (x1 + (1 : Int32))) (lv' := [(1, .int (x1 + (1 : Int32))), (2, cr α 7 x2)]) hx hb dX2_pathLength_11 hl (k := 0) rfl rfl (by decide) rfl (fun ls hl => ?_)
      refine c_aload_n (t := 7) (x := x2) hx hb dX2_pathLength_14 rfl (lv_at hl 1 rfl) ?_
      obtain ⟨i_1, hd_1, h⟩ := bd_of h
      refine c_getrt C hM (k := 7) (f := 1) (t := 7) hd_1 (by decide) fl_X2_22 dX2_pathLength_15 ?_
      refine c_astore_n (t := 7) (x := (cR σ 7 i_1 1)) (lv' := [(2, cr α 7 (cR σ 7 i_1 1)), (1, .int (x1 + (1 : Int32)))]) hx hb dX2_pathLength_18 rfl hl (by decide) rfl (fun ls hl => ?_)
      refine lv_goto (tgt := 7) hx hb dX2_pathLength_19 (by decide) ?_
      exact ih _ _ _ _ _ _ hM (lv_sub hl [1, 0] rfl) h
def fc_X2_pathLength (σ : cS) (x0 : Option Nat) : Option (Int32 × cS) :=
  (dr σ 7 x0).bind fun i_1 =>
  fc_X2_pathLength_7 3000 σ (0 : Int32) (cR σ 7 i_1 1)
set_option maxHeartbeats 4000000 in
set_option maxRecDepth 100000 in
theorem cc_X2_pathLength (l : Launch) (D : va_G) (ca : Nat → ClassId) (A : Nat → Prop) (α : cAl) (σ : cS) (x0 : Option Nat) (o : Int32 × cS) (h : fc_X2_pathLength σ x0 = some o) : cMet false l yX2_pathLength cX2_pathLength 3 ((some FieldType.int)) rc_X2_pathLength 0 0 D ca true A α σ [cr α 7 x0] (fun _ => some (.int o.1)) o.2 := by
  refine Met.ofW (cc := cX2_pathLength) (maxL := 3) (ret := (some FieldType.int)) (by decide) rfl ?_
  intro p e s m args below meth c s₁ B hml hv
  obtain ⟨rfl, hP, hK, hD0, hSh, hA, hG⟩ := hv
  have C : cC p s m _ c cX2_pathLength 3 RX2 D ca A α := ⟨B.exec, B.bytes, hml, findClass_of_methodNamed B.named, fun w hw => atoms_spec (ws := mWs yX2_pathLength cX2_pathLength 3 ((some FieldType.int))) B.pre w (List.mem_cons_of_mem _ hw), hK, hG⟩
  have hM : cM D ca true A s.heap σ α σ α s.heap [] := ⟨hP, hD0, hSh, va_S.rf, hA, cX.rf⟩
  have h17 : 0 < cn σ 17 := c_17 hM
  have hr := B.returns
  have hlk := B.notSynchronized
  have hx := C.1
  have hb := C.2.1
  have hl := lv_entry ([cr α 7 x0]) (n := 3) (by simp [lg_r, lg_i, lg_l, lg_n])
  rw [lg_entry_eq]
  generalize (lg_sl ([cr α 7 x0]) ++ List.replicate (3 - (lg_sl ([cr α 7 x0])).length) Slot.unset).toArray = ls at hl ⊢
  have hl : lv_has ls 3 [(0, cr α 7 x0)] := (lv_to hl (by simp only [la_r, la_i, la_l, la_n]))
  unfold fc_X2_pathLength at h
  refine lv_iconst (v := (0 : Int32)) hx hb dX2_pathLength_0 (by decide) ?_
  refine lv_istore_n (lv' := [(1, .int (0 : Int32)), (0, cr α 7 x0)]) hx hb dX2_pathLength_1 rfl hl (by decide) (by first | rfl | (simp only [List.filter, cr_cat]; rfl)) (fun ls hl => ?_)
  refine c_aload_n (t := 7) (x := x0) hx hb dX2_pathLength_2 rfl (lv_at hl 1 rfl) ?_
  obtain ⟨i_1, hd_1, h⟩ := bd_of h
  refine c_getrt C hM (k := 7) (f := 1) (t := 7) hd_1 (by decide) fl_X2_22 dX2_pathLength_3 ?_
  refine c_astore_n (t := 7) (x := (cR σ 7 i_1 1)) (lv' := [(2, cr α 7 (cR σ 7 i_1 1)), (1, .int (0 : Int32)), (0, cr α 7 x0)]) hx hb dX2_pathLength_6 rfl hl (by decide) rfl (fun ls hl => ?_)
  exact gc_X2_pathLength_7 C hr hlk h17  _ _ _ _ _ _ _ hM (lv_sub hl [1, 0] rfl) h
/-! Lorewick$Node.wordsOfPath()J -/
abbrev rc_X2_wordsOfPath : Room := { frames := 0, cells := 0, slots := 0, locals := 0 }
def fc_X2_wordsOfPath_4 : Nat → cS → Int64 → Option Nat → Option (Int64 × cS)
  | 0, _, _, _ => none
  | n + 1, σ, x1, x3 =>
    if x3 = none then
      some (x1, σ)
    else
      (dr σ 7 x3).bind fun i_1 =>
      (fc_X2_wordsOfPath_4 n) σ (x1 ||| (cJ σ 7 i_1 4)) (cR σ 7 i_1 1)
set_option maxHeartbeats 4000000 in
set_option maxRecDepth 100000 in
theorem gc_X2_wordsOfPath_4 {p : Program} {l : Launch} {e : Env} {s : State} {m : MethodId} {args : Array Value} {below : List Frame} {meth : Method} {c : Code} {D : va_G} {ca : Nat → ClassId} {A : Nat → Prop} {σ0 : cS} {α : cAl} {o : Int64 × cS} (C : cC p s m args c cX2_wordsOfPath 4 RX2 D ca A α) (hr : meth.sig.returnType = (some FieldType.long)) (hlk : meth.locks = false) (h17 : 0 < cn σ0 17) : ∀ (n : Nat) (σ : cS) (x1 : Int64) (x3 : Option Nat) (H : Heap) (locs : List Loc) (ls : Array Slot), cM D ca true A s.heap σ0 α σ α H locs → lv_has ls 4 [(1, .long x1), (3, cr α 7 x3)] → fc_X2_wordsOfPath_4 n σ x1 x3 = some o → W p l e rc_X2_wordsOfPath s m args below meth c H locs 0 0 (MQ below (cQ false D ca true A α σ0 (fun _ => some (.long o.1)) o.2) args s 0 0 A) (F0 m 4 ls []) := by
  have hx := C.1
  have hb := C.2.1
  intro n
  induction n with
  | zero =>
    intro σ x1 x3 H locs ls hM hl h
    cases h
  | succ n ih =>
    intro σ x1 x3 H locs ls hM hl h
    rw [fc_X2_wordsOfPath_4] at h
    refine c_aload_n (t := 7) (x := x3) hx hb dX2_wordsOfPath_4 rfl (lv_at hl 1 rfl) ?_
    refine c_ifnull (tgt := 23) hx hb dX2_wordsOfPath_5 (by decide) (fun c_1 => ?_) (fun c_1 => ?_)
    · have h := br_T c_1 h
      refine lv_lload_n hx hb dX2_wordsOfPath_23 rfl (lv_at hl 0 rfl) ?_
      exact c_rl C hM (fun _ => rfl) hr hlk dX2_wordsOfPath_24 h
    · have h := br_F c_1 h
      refine lv_lload_n hx hb dX2_wordsOfPath_8 rfl (lv_at hl 0 rfl) ?_
      refine c_aload_n (t := 7) (x := x3) hx hb dX2_wordsOfPath_9 rfl (lv_at hl 1 rfl) ?_
      obtain ⟨i_1, hd_1, h⟩ := bd_of h
      refine c_getl C hM (k := 7) (f := 4) hd_1 rfl fl_X2_34 dX2_wordsOfPath_10 ?_
      refine lv_lor hx hb dX2_wordsOfPath_13 ?_
      refine lv_lstore_n (lv' := [(1, .long (x1 ||| (cJ σ 7 i_1 4))), (3, cr α 7 x3)]) hx hb dX2_wordsOfPath_14 rfl hl (by decide) rfl (fun ls hl => ?_)
      refine c_aload_n (t := 7) (x := x3) hx hb dX2_wordsOfPath_15 rfl (lv_at hl 1 rfl) ?_
      refine c_getrt C hM (k := 7) (f := 1) (t := 7) hd_1 (by decide) fl_X2_22 dX2_wordsOfPath_16 ?_
      refine c_astore_n (t := 7) (x := (cR σ 7 i_1 1)) (lv' := [(3, cr α 7 (cR σ 7 i_1 1)), (1, .long (x1 ||| (cJ σ 7 i_1 4)))]) hx hb dX2_wordsOfPath_19 rfl hl (by decide) rfl (fun ls hl => ?_)
      refine lv_goto (tgt := 4) hx hb dX2_wordsOfPath_20 (by decide) ?_
      exact ih _ _ _ _ _ _ hM (lv_sub hl [1, 0] rfl) h
def fc_X2_wordsOfPath (σ : cS) (x0 : Option Nat) : Option (Int64 × cS) :=
  fc_X2_wordsOfPath_4 3000 σ (0 : Int64) x0
set_option maxHeartbeats 4000000 in
set_option maxRecDepth 100000 in
theorem cc_X2_wordsOfPath (l : Launch) (D : va_G) (ca : Nat → ClassId) (A : Nat → Prop) (α : cAl) (σ : cS) (x0 : Option Nat) (o : Int64 × cS) (h : fc_X2_wordsOfPath σ x0 = some o) : cMet false l yX2_wordsOfPath cX2_wordsOfPath 4 ((some FieldType.long)) rc_X2_wordsOfPath 0 0 D ca true A α σ [cr α 7 x0] (fun _ => some (.long o.1)) o.2 := by
  refine Met.ofW (cc := cX2_wordsOfPath) (maxL := 4) (ret := (some FieldType.long)) (by decide) rfl ?_
  intro p e s m args below meth c s₁ B hml hv
  obtain ⟨rfl, hP, hK, hD0, hSh, hA, hG⟩ := hv
  have C : cC p s m _ c cX2_wordsOfPath 4 RX2 D ca A α := ⟨B.exec, B.bytes, hml, findClass_of_methodNamed B.named, fun w hw => atoms_spec (ws := mWs yX2_wordsOfPath cX2_wordsOfPath 4 ((some FieldType.long))) B.pre w (List.mem_cons_of_mem _ hw), hK, hG⟩
  have hM : cM D ca true A s.heap σ α σ α s.heap [] := ⟨hP, hD0, hSh, va_S.rf, hA, cX.rf⟩
  have h17 : 0 < cn σ 17 := c_17 hM
  have hr := B.returns
  have hlk := B.notSynchronized
  have hx := C.1
  have hb := C.2.1
  have hl := lv_entry ([cr α 7 x0]) (n := 4) (by simp [lg_r, lg_i, lg_l, lg_n])
  rw [lg_entry_eq]
  generalize (lg_sl ([cr α 7 x0]) ++ List.replicate (4 - (lg_sl ([cr α 7 x0])).length) Slot.unset).toArray = ls at hl ⊢
  have hl : lv_has ls 4 [(0, cr α 7 x0)] := (lv_to hl (by simp only [la_r, la_i, la_l, la_n]))
  unfold fc_X2_wordsOfPath at h
  refine lv_lconst (v := (0 : Int64)) hx hb dX2_wordsOfPath_0 (by decide) ?_
  refine lv_lstore_n (lv' := [(1, .long (0 : Int64)), (0, cr α 7 x0)]) hx hb dX2_wordsOfPath_1 rfl hl (by decide) (by first | rfl | (simp only [List.filter, cr_cat]; rfl)) (fun ls hl => ?_)
  refine c_aload_n (t := 7) (x := x0) hx hb dX2_wordsOfPath_2 rfl (lv_at hl 1 rfl) ?_
  refine c_astore_n (t := 7) (x := x0) (lv' := [(3, cr α 7 x0), (1, .long (0 : Int64)), (0, cr α 7 x0)]) hx hb dX2_wordsOfPath_3 rfl hl (by decide) rfl (fun ls hl => ?_)
  exact gc_X2_wordsOfPath_4 C hr hlk h17  _ _ _ _ _ _ _ hM (lv_sub hl [1, 0] rfl) h
/-! Lorewick.includes(JI)Z -/
abbrev rc_X11_includes : Room := { frames := 0, cells := 0, slots := 0, locals := 0 }
def fc_X11_includes_25 (σ : cS) (s0 : Int32) : Option (Int32 × cS) :=
    if s0 &&& 1 = s0 then some (s0, σ) else none
set_option maxHeartbeats 4000000 in
set_option maxRecDepth 100000 in
theorem gc_X11_includes_25 {p : Program} {l : Launch} {e : Env} {s : State} {m : MethodId} {args : Array Value} {below : List Frame} {meth : Method} {c : Code} {D : va_G} {ca : Nat → ClassId} {A : Nat → Prop} {σ0 : cS} {α : cAl} {o : Int32 × cS} (C : cC p s m args c cX11_includes 3 RX11 D ca A α) (hr : meth.sig.returnType = (some FieldType.boolean)) (hlk : meth.locks = false) (h17 : 0 < cn σ0 17) : ∀ (σ : cS) (s0 : Int32) (H : Heap) (locs : List Loc) (ls : Array Slot), cM D ca true A s.heap σ0 α σ α H locs → lv_has ls 3 [] → fc_X11_includes_25 σ s0 = some o → W p l e rc_X11_includes s m args below meth c H locs 0 0 (MQ below (cQ false D ca true A α σ0 (fun _ => some (.int o.1)) o.2) args s 0 0 A) (F0 m 25 ls [.int s0]) := by
  have hx := C.1
  have hb := C.2.1
  intro σ s0 H locs ls hM hl h
  unfold fc_X11_includes_25 at h
  exact c_rz C hM (fun _ => rfl) hr hlk dX11_includes_25 h
def fc_X11_includes_24 (σ : cS) : Option (Int32 × cS) :=
    fc_X11_includes_25 σ (0 : Int32)
set_option maxHeartbeats 4000000 in
set_option maxRecDepth 100000 in
theorem gc_X11_includes_24 {p : Program} {l : Launch} {e : Env} {s : State} {m : MethodId} {args : Array Value} {below : List Frame} {meth : Method} {c : Code} {D : va_G} {ca : Nat → ClassId} {A : Nat → Prop} {σ0 : cS} {α : cAl} {o : Int32 × cS} (C : cC p s m args c cX11_includes 3 RX11 D ca A α) (hr : meth.sig.returnType = (some FieldType.boolean)) (hlk : meth.locks = false) (h17 : 0 < cn σ0 17) : ∀ (σ : cS) (H : Heap) (locs : List Loc) (ls : Array Slot), cM D ca true A s.heap σ0 α σ α H locs → lv_has ls 3 [] → fc_X11_includes_24 σ = some o → W p l e rc_X11_includes s m args below meth c H locs 0 0 (MQ below (cQ false D ca true A α σ0 (fun _ => some (.int o.1)) o.2) args s 0 0 A) (F0 m 24 ls []) := by
  have hx := C.1
  have hb := C.2.1
  intro σ H locs ls hM hl h
  unfold fc_X11_includes_24 at h
  refine lv_iconst (v := (0 : Int32)) hx hb dX11_includes_24 (by decide) ?_
  exact gc_X11_includes_25 C hr hlk h17  _ _ _ _ _ hM (lv_sub hl [] rfl) h
def fc_X11_includes (σ : cS) (x0 : Int64) (x2 : Int32) : Option (Int32 × cS) :=
  if x2 < 0 then
    fc_X11_includes_24 σ
  else
    if (40 : Int32) ≤ x2 then
      fc_X11_includes_24 σ
    else
      if (lg_cmp ((x0 >>> (x2.toInt64 &&& 63)) &&& (1 : Int64)) (1 : Int64)) = 0 then
        fc_X11_includes_25 σ (1 : Int32)
      else
        fc_X11_includes_24 σ
set_option maxHeartbeats 4000000 in
set_option maxRecDepth 100000 in
theorem cc_X11_includes (l : Launch) (D : va_G) (ca : Nat → ClassId) (A : Nat → Prop) (α : cAl) (σ : cS) (x0 : Int64) (x2 : Int32) (o : Int32 × cS) (h : fc_X11_includes σ x0 x2 = some o) : cMet false l yX11_includes cX11_includes 3 ((some FieldType.boolean)) rc_X11_includes 0 0 D ca true A α σ [.long x0, .int x2] (fun _ => some (.int o.1)) o.2 := by
  refine Met.ofW (cc := cX11_includes) (maxL := 3) (ret := (some FieldType.boolean)) (by decide) rfl ?_
  intro p e s m args below meth c s₁ B hml hv
  obtain ⟨rfl, hP, hK, hD0, hSh, hA, hG⟩ := hv
  have C : cC p s m _ c cX11_includes 3 RX11 D ca A α := ⟨B.exec, B.bytes, hml, findClass_of_methodNamed B.named, fun w hw => atoms_spec (ws := mWs yX11_includes cX11_includes 3 ((some FieldType.boolean))) B.pre w (List.mem_cons_of_mem _ hw), hK, hG⟩
  have hM : cM D ca true A s.heap σ α σ α s.heap [] := ⟨hP, hD0, hSh, va_S.rf, hA, cX.rf⟩
  have h17 : 0 < cn σ 17 := c_17 hM
  have hr := B.returns
  have hlk := B.notSynchronized
  have hx := C.1
  have hb := C.2.1
  have hl := lv_entry ([.long x0, .int x2]) (n := 3) (Nat.le_of_ble_eq_true rfl)
  rw [lg_entry_eq]
  generalize (lg_sl ([.long x0, .int x2]) ++ List.replicate (3 - (lg_sl ([.long x0, .int x2])).length) Slot.unset).toArray = ls at hl ⊢
  have hl : lv_has ls 3 [(0, .long x0), (2, .int x2)] := hl
  unfold fc_X11_includes at h
  refine lv_iload_n hx hb dX11_includes_0 rfl (lv_at hl 1 rfl) ?_
  refine lv_if_lt (tgt := 24) hx hb dX11_includes_1 (by decide) (fun c_1 => ?_) (fun c_1 => ?_)
  · have h := br_T c_1 h
    exact gc_X11_includes_24 C hr hlk h17  _ _ _ _ hM (lv_sub hl [] rfl) h
  · have h := br_F c_1 h
    refine lv_iload_n hx hb dX11_includes_4 rfl (lv_at hl 1 rfl) ?_
    refine lv_bipush (v := (40 : Int32)) hx hb dX11_includes_5 (by decide) ?_
    refine lv_icmp_ge (tgt := 24) hx hb dX11_includes_7 (by decide) (fun c_2 => ?_) (fun c_2 => ?_)
    · have h := br_T c_2 h
      exact gc_X11_includes_24 C hr hlk h17  _ _ _ _ hM (lv_sub hl [] rfl) h
    · have h := br_F c_2 h
      refine lv_lload_n hx hb dX11_includes_10 rfl (lv_at hl 0 rfl) ?_
      refine lv_iload_n hx hb dX11_includes_11 rfl (lv_at hl 1 rfl) ?_
      refine lv_lshr (v := (x0 >>> (x2.toInt64 &&& 63))) hx hb dX11_includes_12 rfl ?_
      refine lv_lconst (v := (1 : Int64)) hx hb dX11_includes_13 (by decide) ?_
      refine lv_land hx hb dX11_includes_14 ?_
      refine lv_lconst (v := (1 : Int64)) hx hb dX11_includes_15 (by decide) ?_
      refine W.lcmp hx hb dX11_includes_16 ?_
      refine lv_if_ne (tgt := 24) hx hb dX11_includes_17 (by decide) (fun c_3 => ?_) (fun c_3 => ?_)
      · have h := br_F c_3 h
        exact gc_X11_includes_24 C hr hlk h17  _ _ _ _ hM (lv_sub hl [] rfl) h
      · have h := br_T c_3 h
        refine lv_iconst (v := (1 : Int32)) hx hb dX11_includes_20 (by decide) ?_
        refine lv_goto (tgt := 25) hx hb dX11_includes_21 (by decide) ?_
        exact gc_X11_includes_25 C hr hlk h17  _ _ _ _ _ hM (lv_sub hl [] rfl) h
/-! Lorewick$Node.firstToShow(I)I -/
abbrev rc_X2_firstToShow : Room := { frames := 1, cells := 0, slots := 0, locals := 22 }
def fc_X2_firstToShow_24 (k_4 : cS → Int32 → Int32 → Option Nat → Option (Int32 × cS)) (σ : cS) (x1 : Int32) (x2 : Int32) (x3 : Option Nat) : Option (Int32 × cS) :=
    (dr σ 7 x3).bind fun i_1 =>
    k_4 σ x1 x2 (cR σ 7 i_1 1)
set_option maxHeartbeats 4000000 in
set_option maxRecDepth 100000 in
theorem gc_X2_firstToShow_24 {p : Program} {l : Launch} {e : Env} {s : State} {m : MethodId} {args : Array Value} {below : List Frame} {meth : Method} {c : Code} {D : va_G} {ca : Nat → ClassId} {A : Nat → Prop} {σ0 : cS} {α : cAl} {o : Int32 × cS} {k_4 : cS → Int32 → Int32 → Option Nat → Option (Int32 × cS)} (C : cC p s m args c cX2_firstToShow 4 RX2 D ca A α) (hr : meth.sig.returnType = (some FieldType.int)) (hlk : meth.locks = false) (h17 : 0 < cn σ0 17) (hk_4 : ∀ (σ : cS) (x1 : Int32) (x2 : Int32) (x3 : Option Nat) (H : Heap) (locs : List Loc) (ls : Array Slot), cM D ca true A s.heap σ0 α σ α H locs → lv_has ls 4 [(1, .int x1), (2, .int x2), (3, cr α 7 x3)] → k_4 σ x1 x2 x3 = some o → W p l e rc_X2_firstToShow s m args below meth c H locs 0 0 (MQ below (cQ false D ca true A α σ0 (fun _ => some (.int o.1)) o.2) args s 0 0 A) (F0 m 4 ls [])) : ∀ (σ : cS) (x1 : Int32) (x2 : Int32) (x3 : Option Nat) (H : Heap) (locs : List Loc) (ls : Array Slot), cM D ca true A s.heap σ0 α σ α H locs → lv_has ls 4 [(1, .int x1), (2, .int x2), (3, cr α 7 x3)] → fc_X2_firstToShow_24 k_4 σ x1 x2 x3 = some o → W p l e rc_X2_firstToShow s m args below meth c H locs 0 0 (MQ below (cQ false D ca true A α σ0 (fun _ => some (.int o.1)) o.2) args s 0 0 A) (F0 m 24 ls []) := by
  have hx := C.1
  have hb := C.2.1
  intro σ x1 x2 x3 H locs ls hM hl h
  unfold fc_X2_firstToShow_24 at h
  refine c_aload_n (t := 7) (x := x3) hx hb dX2_firstToShow_24 rfl (lv_at hl 2 rfl) ?_
  obtain ⟨i_1, hd_1, h⟩ := bd_of h
  refine c_getrt C hM (k := 7) (f := 1) (t := 7) hd_1 (by decide) fl_X2_22 dX2_firstToShow_25 ?_
  refine c_astore_n (t := 7) (x := (cR σ 7 i_1 1)) (lv' := [(3, cr α 7 (cR σ 7 i_1 1)), (1, .int x1), (2, .int x2)]) hx hb dX2_firstToShow_28 rfl hl (by decide) rfl (fun ls hl => ?_)
  refine lv_goto (tgt := 4) hx hb dX2_firstToShow_29 (by decide) ?_
  exact hk_4 _ _ _ _ _ _ _ hM (lv_sub hl [1, 2, 0] rfl) h
def fc_X2_firstToShow_4 : Nat → cS → Int32 → Int32 → Option Nat → Option (Int32 × cS)
  | 0, _, _, _, _ => none
  | n + 1, σ, x1, x2, x3 =>
    if x3 = none then
      some (x2, σ)
    else
      (dr σ 7 x3).bind fun i_1 =>
      (fc_X11_includes σ (cJ σ 7 i_1 4) x1).bind fun r_2 =>
      if r_2.1 = 0 then
        fc_X2_firstToShow_24 (fc_X2_firstToShow_4 n) r_2.2 x1 x2 x3
      else
        (dr r_2.2 7 x3).bind fun i_3 =>
        fc_X2_firstToShow_24 (fc_X2_firstToShow_4 n) r_2.2 x1 (cI r_2.2 7 i_3 0) x3
set_option maxHeartbeats 4000000 in
set_option maxRecDepth 100000 in
theorem gc_X2_firstToShow_4 {p : Program} {l : Launch} {e : Env} {s : State} {m : MethodId} {args : Array Value} {below : List Frame} {meth : Method} {c : Code} {D : va_G} {ca : Nat → ClassId} {A : Nat → Prop} {σ0 : cS} {α : cAl} {o : Int32 × cS} (C : cC p s m args c cX2_firstToShow 4 RX2 D ca A α) (hr : meth.sig.returnType = (some FieldType.int)) (hlk : meth.locks = false) (h17 : 0 < cn σ0 17) : ∀ (n : Nat) (σ : cS) (x1 : Int32) (x2 : Int32) (x3 : Option Nat) (H : Heap) (locs : List Loc) (ls : Array Slot), cM D ca true A s.heap σ0 α σ α H locs → lv_has ls 4 [(1, .int x1), (2, .int x2), (3, cr α 7 x3)] → fc_X2_firstToShow_4 n σ x1 x2 x3 = some o → W p l e rc_X2_firstToShow s m args below meth c H locs 0 0 (MQ below (cQ false D ca true A α σ0 (fun _ => some (.int o.1)) o.2) args s 0 0 A) (F0 m 4 ls []) := by
  have hx := C.1
  have hb := C.2.1
  intro n
  induction n with
  | zero =>
    intro σ x1 x2 x3 H locs ls hM hl h
    cases h
  | succ n ih =>
    intro σ x1 x2 x3 H locs ls hM hl h
    rw [fc_X2_firstToShow_4] at h
    refine c_aload_n (t := 7) (x := x3) hx hb dX2_firstToShow_4 rfl (lv_at hl 2 rfl) ?_
    refine c_ifnull (tgt := 32) hx hb dX2_firstToShow_5 (by decide) (fun c_1 => ?_) (fun c_1 => ?_)
    · have h := br_T c_1 h
      refine lv_iload_n hx hb dX2_firstToShow_32 rfl (lv_at hl 1 rfl) ?_
      exact c_ri C hM (fun _ => rfl) hr hlk dX2_firstToShow_33 h
    · have h := br_F c_1 h
      refine c_aload_n (t := 7) (x := x3) hx hb dX2_firstToShow_8 rfl (lv_at hl 2 rfl) ?_
      obtain ⟨i_1, hd_1, h⟩ := bd_of h
      refine c_getl C hM (k := 7) (f := 4) hd_1 rfl fl_X2_34 dX2_firstToShow_9 ?_
      refine lv_iload_n hx hb dX2_firstToShow_12 rfl (lv_at hl 0 rfl) ?_
      obtain ⟨r_2, hr_2, h⟩ := bd_of h
      refine c_go0 (c_rSN (As := [.long (cJ σ 7 i_1 4), .int x1]) (rest := []) C hM h17 (cc_X11_includes l D ca A α σ (cJ σ 7 i_1 4) x1 _ hr_2) cw_X2_38 (wl_in (i := 399) (by decide +kernel)) ⟨rfl, rfl⟩ ⟨Nat.le_of_ble_eq_true rfl, Nat.le_of_ble_eq_true rfl⟩ rfl rfl (cats_le _ (Nat.le_of_ble_eq_true rfl)) hl.1 dX2_firstToShow_13 ⟨Nat.le_of_ble_eq_true rfl, Nat.le_of_ble_eq_true rfl⟩) hM (fun H locs hM => ?_)
      refine W_st (st' := [.int r_2.1]) rfl ?_
      refine lv_if_eq (tgt := 24) hx hb dX2_firstToShow_16 (by decide) (fun c_2 => ?_) (fun c_2 => ?_)
      · have h := br_T c_2 h
        exact gc_X2_firstToShow_24 C hr hlk h17 ih _ _ _ _ _ _ _ hM (lv_sub hl [0, 1, 2] rfl) h
      · have h := br_F c_2 h
        refine c_aload_n (t := 7) (x := x3) hx hb dX2_firstToShow_19 rfl (lv_at hl 2 rfl) ?_
        obtain ⟨i_3, hd_3, h⟩ := bd_of h
        refine c_geti C hM (k := 7) (f := 0) hd_3 rfl fl_X2_18 dX2_firstToShow_20 ?_
        refine lv_istore_n (lv' := [(2, .int (cI r_2.2 7 i_3 0)), (1, .int x1), (3, cr α 7 x3)]) hx hb dX2_firstToShow_23 rfl hl (by decide) rfl (fun ls hl => ?_)
        exact gc_X2_firstToShow_24 C hr hlk h17 ih _ _ _ _ _ _ _ hM (lv_sub hl [1, 0, 2] rfl) h
def fc_X2_firstToShow (σ : cS) (x0 : Option Nat) (x1 : Int32) : Option (Int32 × cS) :=
  fc_X2_firstToShow_4 3000 σ x1 (-1 : Int32) x0
set_option maxHeartbeats 4000000 in
set_option maxRecDepth 100000 in
theorem cc_X2_firstToShow (l : Launch) (D : va_G) (ca : Nat → ClassId) (A : Nat → Prop) (α : cAl) (σ : cS) (x0 : Option Nat) (x1 : Int32) (o : Int32 × cS) (h : fc_X2_firstToShow σ x0 x1 = some o) : cMet false l yX2_firstToShow cX2_firstToShow 4 ((some FieldType.int)) rc_X2_firstToShow 0 0 D ca true A α σ [cr α 7 x0, .int x1] (fun _ => some (.int o.1)) o.2 := by
  refine Met.ofW (cc := cX2_firstToShow) (maxL := 4) (ret := (some FieldType.int)) (by decide) rfl ?_
  intro p e s m args below meth c s₁ B hml hv
  obtain ⟨rfl, hP, hK, hD0, hSh, hA, hG⟩ := hv
  have C : cC p s m _ c cX2_firstToShow 4 RX2 D ca A α := ⟨B.exec, B.bytes, hml, findClass_of_methodNamed B.named, fun w hw => atoms_spec (ws := mWs yX2_firstToShow cX2_firstToShow 4 ((some FieldType.int))) B.pre w (List.mem_cons_of_mem _ hw), hK, hG⟩
  have hM : cM D ca true A s.heap σ α σ α s.heap [] := ⟨hP, hD0, hSh, va_S.rf, hA, cX.rf⟩
  have h17 : 0 < cn σ 17 := c_17 hM
  have hr := B.returns
  have hlk := B.notSynchronized
  have hx := C.1
  have hb := C.2.1
  have hl := lv_entry ([cr α 7 x0, .int x1]) (n := 4) (by simp [lg_r, lg_i, lg_l, lg_n])
  rw [lg_entry_eq]
  generalize (lg_sl ([cr α 7 x0, .int x1]) ++ List.replicate (4 - (lg_sl ([cr α 7 x0, .int x1])).length) Slot.unset).toArray = ls at hl ⊢
  have hl : lv_has ls 4 [(0, cr α 7 x0), (1, .int x1)] := (lv_to hl (by simp only [la_r, la_i, la_l, la_n]))
  unfold fc_X2_firstToShow at h
  refine lv_iconst (v := (-1 : Int32)) hx hb dX2_firstToShow_0 (by decide) ?_
  refine lv_istore_n (lv' := [(2, .int (-1 : Int32)), (0, cr α 7 x0), (1, .int x1)]) hx hb dX2_firstToShow_1 rfl hl (by decide) rfl (fun ls hl => ?_)
  refine c_aload_n (t := 7) (x := x0) hx hb dX2_firstToShow_2 rfl (lv_at hl 1 rfl) ?_
  refine c_astore_n (t := 7) (x := x0) (lv' := [(3, cr α 7 x0), (2, .int (-1 : Int32)), (0, cr α 7 x0), (1, .int x1)]) hx hb dX2_firstToShow_3 rfl hl (by decide) rfl (fun ls hl => ?_)
  exact gc_X2_firstToShow_4 C hr hlk h17  _ _ _ _ _ _ _ _ hM (lv_sub hl [3, 1, 0] rfl) h
/-! Lorewick$Node.lastInCommon(LLorewick$Node;)I -/
abbrev rc_X2_lastInCommon : Room := { frames := 1, cells := 0, slots := 0, locals := 22 }
def fc_X2_lastInCommon_2 : Nat → cS → Option Nat → Option Nat → Option (Int32 × cS)
  | 0, _, _, _ => none
  | n + 1, σ, x1, x2 =>
    if x2 = none then
      some ((-1 : Int32), σ)
    else
      (dr σ 7 x2).bind fun i_1 =>
      (fc_X2_isOnPathOf σ x2 x1).bind fun r_2 =>
      if r_2.1 = 0 then
        (dr r_2.2 7 x2).bind fun i_3 =>
        (fc_X2_lastInCommon_2 n) r_2.2 x1 (cR r_2.2 7 i_3 1)
      else
        (dr r_2.2 7 x2).bind fun i_4 =>
        some ((cI r_2.2 7 i_4 0), r_2.2)
set_option maxHeartbeats 4000000 in
set_option maxRecDepth 100000 in
theorem gc_X2_lastInCommon_2 {p : Program} {l : Launch} {e : Env} {s : State} {m : MethodId} {args : Array Value} {below : List Frame} {meth : Method} {c : Code} {D : va_G} {ca : Nat → ClassId} {A : Nat → Prop} {σ0 : cS} {α : cAl} {o : Int32 × cS} (C : cC p s m args c cX2_lastInCommon 3 RX2 D ca A α) (hr : meth.sig.returnType = (some FieldType.int)) (hlk : meth.locks = false) (h17 : 0 < cn σ0 17) : ∀ (n : Nat) (σ : cS) (x1 : Option Nat) (x2 : Option Nat) (H : Heap) (locs : List Loc) (ls : Array Slot), cM D ca true A s.heap σ0 α σ α H locs → lv_has ls 3 [(1, cr α 7 x1), (2, cr α 7 x2)] → fc_X2_lastInCommon_2 n σ x1 x2 = some o → W p l e rc_X2_lastInCommon s m args below meth c H locs 0 0 (MQ below (cQ false D ca true A α σ0 (fun _ => some (.int o.1)) o.2) args s 0 0 A) (F0 m 2 ls []) := by
  have hx := C.1
  have hb := C.2.1
  intro n
  induction n with
  | zero =>
    intro σ x1 x2 H locs ls hM hl h
    cases h
  | succ n ih =>
    intro σ x1 x2 H locs ls hM hl h
    rw [fc_X2_lastInCommon_2] at h
    refine c_aload_n (t := 7) (x := x2) hx hb dX2_lastInCommon_2 rfl (lv_at hl 1 rfl) ?_
    refine c_ifnull (tgt := 27) hx hb dX2_lastInCommon_3 (by decide) (fun c_1 => ?_) (fun c_1 => ?_)
    · have h := br_T c_1 h
      refine lv_iconst (v := (-1 : Int32)) hx hb dX2_lastInCommon_27 (by decide) ?_
      exact c_ri C hM (fun _ => rfl) hr hlk dX2_lastInCommon_28 h
    · have h := br_F c_1 h
      refine c_aload_n (t := 7) (x := x2) hx hb dX2_lastInCommon_6 rfl (lv_at hl 1 rfl) ?_
      refine c_aload_n (t := 7) (x := x1) hx hb dX2_lastInCommon_7 rfl (lv_at hl 0 rfl) ?_
      obtain ⟨i_1, hd_1, h⟩ := bd_of h
      obtain ⟨r_2, hr_2, h⟩ := bd_of h
      refine c_go0 (c_rV (As := [cr α 7 x1]) (rest := []) C hM h17 hd_1 (by decide) (cc_X2_isOnPathOf l D ca A α σ x2 x1 _ hr_2) cw_X2_42 ⟨rfl, rfl⟩ ⟨Nat.le_of_ble_eq_true rfl, Nat.le_of_ble_eq_true rfl⟩ rfl rfl (cats_le _ (Nat.le_of_ble_eq_true rfl)) hl.1 dX2_lastInCommon_8 ⟨Nat.le_of_ble_eq_true rfl, Nat.le_of_ble_eq_true rfl⟩) hM (fun H locs hM => ?_)
      refine W_st (st' := [.int r_2.1]) rfl ?_
      refine lv_if_eq (tgt := 19) hx hb dX2_lastInCommon_11 (by decide) (fun c_2 => ?_) (fun c_2 => ?_)
      · have h := br_T c_2 h
        refine c_aload_n (t := 7) (x := x2) hx hb dX2_lastInCommon_19 rfl (lv_at hl 1 rfl) ?_
        obtain ⟨i_3, hd_3, h⟩ := bd_of h
        refine c_getrt C hM (k := 7) (f := 1) (t := 7) hd_3 (by decide) fl_X2_22 dX2_lastInCommon_20 ?_
        refine c_astore_n (t := 7) (x := (cR r_2.2 7 i_3 1)) (lv' := [(2, cr α 7 (cR r_2.2 7 i_3 1)), (1, cr α 7 x1)]) hx hb dX2_lastInCommon_23 rfl hl (by decide) (by first | rfl | (simp only [List.filter, cr_cat]; rfl)) (fun ls hl => ?_)
        refine lv_goto (tgt := 2) hx hb dX2_lastInCommon_24 (by decide) ?_
        exact ih _ _ _ _ _ _ hM (lv_sub hl [1, 0] rfl) h
      · have h := br_F c_2 h
        refine c_aload_n (t := 7) (x := x2) hx hb dX2_lastInCommon_14 rfl (lv_at hl 1 rfl) ?_
        obtain ⟨i_4, hd_4, h⟩ := bd_of h
        refine c_geti C hM (k := 7) (f := 0) hd_4 rfl fl_X2_18 dX2_lastInCommon_15 ?_
        exact c_ri C hM (fun _ => rfl) hr hlk dX2_lastInCommon_18 h
def fc_X2_lastInCommon (σ : cS) (x0 : Option Nat) (x1 : Option Nat) : Option (Int32 × cS) :=
  fc_X2_lastInCommon_2 3000 σ x1 x0
set_option maxHeartbeats 4000000 in
set_option maxRecDepth 100000 in
theorem cc_X2_lastInCommon (l : Launch) (D : va_G) (ca : Nat → ClassId) (A : Nat → Prop) (α : cAl) (σ : cS) (x0 : Option Nat) (x1 : Option Nat) (o : Int32 × cS) (h : fc_X2_lastInCommon σ x0 x1 = some o) : cMet false l yX2_lastInCommon cX2_lastInCommon 3 ((some FieldType.int)) rc_X2_lastInCommon 0 0 D ca true A α σ [cr α 7 x0, cr α 7 x1] (fun _ => some (.int o.1)) o.2 := by
  refine Met.ofW (cc := cX2_lastInCommon) (maxL := 3) (ret := (some FieldType.int)) (by decide) rfl ?_
  intro p e s m args below meth c s₁ B hml hv
  obtain ⟨rfl, hP, hK, hD0, hSh, hA, hG⟩ := hv
  have C : cC p s m _ c cX2_lastInCommon 3 RX2 D ca A α := ⟨B.exec, B.bytes, hml, findClass_of_methodNamed B.named, fun w hw => atoms_spec (ws := mWs yX2_lastInCommon cX2_lastInCommon 3 ((some FieldType.int))) B.pre w (List.mem_cons_of_mem _ hw), hK, hG⟩
  have hM : cM D ca true A s.heap σ α σ α s.heap [] := ⟨hP, hD0, hSh, va_S.rf, hA, cX.rf⟩
  have h17 : 0 < cn σ 17 := c_17 hM
  have hr := B.returns
  have hlk := B.notSynchronized
  have hx := C.1
  have hb := C.2.1
  have hl := lv_entry ([cr α 7 x0, cr α 7 x1]) (n := 3) (by simp [lg_r, lg_i, lg_l, lg_n])
  rw [lg_entry_eq]
  generalize (lg_sl ([cr α 7 x0, cr α 7 x1]) ++ List.replicate (3 - (lg_sl ([cr α 7 x0, cr α 7 x1])).length) Slot.unset).toArray = ls at hl ⊢
  have hl : lv_has ls 3 [(0, cr α 7 x0), (1, cr α 7 x1)] := (lv_to hl (by simp only [la_r, la_i, la_l, la_n]))
  unfold fc_X2_lastInCommon at h
  refine c_aload_n (t := 7) (x := x0) hx hb dX2_lastInCommon_0 rfl (lv_at hl 0 rfl) ?_
  refine c_astore_n (t := 7) (x := x0) (lv' := [(2, cr α 7 x0), (0, cr α 7 x0), (1, cr α 7 x1)]) hx hb dX2_lastInCommon_1 rfl hl (by decide) (by first | rfl | (simp only [List.filter, cr_cat]; rfl)) (fun ls hl => ?_)
  exact gc_X2_lastInCommon_2 C hr hlk h17  _ _ _ _ _ _ _ hM (lv_sub hl [2, 0] rfl) h
/-! Lorewick$Rules.setUp(LLorewick$State;I)V -/
abbrev rc_X3_setUp : Room := { frames := 0, cells := 0, slots := 0, locals := 0 }
def fc_X3_setUp_7 : Nat → cS → Option Nat → Int32 → Option (cS)
  | 0, _, _, _ => none
  | n + 1, σ, x1, x3 =>
    if (12 : Int32) ≤ x3 then
      some σ
    else
      (dr σ 6 x1).bind fun i_1 =>
      if x3 < 0 ∨ 12 ≤ x3.toNatClampNeg then none else
      (dr σ 12 (cR σ 6 i_1 1)).bind fun i_2 =>
      if x3 < 0 ∨ cln σ 12 i_2 ≤ x3.toNatClampNeg then none else
      if x3 < 0 ∨ 12 ≤ x3.toNatClampNeg then none else
      (dr (uI σ 12 i_2 x3.toNatClampNeg (cI σ 12 5 x3.toNatClampNeg)) 12 (cR (uI σ 12 i_2 x3.toNatClampNeg (cI σ 12 5 x3.toNatClampNeg)) 6 i_1 2)).bind fun i_3 =>
      if x3 < 0 ∨ cln (uI σ 12 i_2 x3.toNatClampNeg (cI σ 12 5 x3.toNatClampNeg)) 12 i_3 ≤ x3.toNatClampNeg then none else
      (dr (uI (uI σ 12 i_2 x3.toNatClampNeg (cI σ 12 5 x3.toNatClampNeg)) 12 i_3 x3.toNatClampNeg (cI (uI σ 12 i_2 x3.toNatClampNeg (cI σ 12 5 x3.toNatClampNeg)) 12 7 x3.toNatClampNeg)) 13 (cR (uI (uI σ 12 i_2 x3.toNatClampNeg (cI σ 12 5 x3.toNatClampNeg)) 12 i_3 x3.toNatClampNeg (cI (uI σ 12 i_2 x3.toNatClampNeg (cI σ 12 5 x3.toNatClampNeg)) 12 7 x3.toNatClampNeg)) 6 i_1 3)).bind fun i_4 =>
      if x3 < 0 ∨ cln (uI (uI σ 12 i_2 x3.toNatClampNeg (cI σ 12 5 x3.toNatClampNeg)) 12 i_3 x3.toNatClampNeg (cI (uI σ 12 i_2 x3.toNatClampNeg (cI σ 12 5 x3.toNatClampNeg)) 12 7 x3.toNatClampNeg)) 13 i_4 ≤ x3.toNatClampNeg then none else
      (fc_X3_setUp_7 n) (uI (uI (uI σ 12 i_2 x3.toNatClampNeg (cI σ 12 5 x3.toNatClampNeg)) 12 i_3 x3.toNatClampNeg (cI (uI σ 12 i_2 x3.toNatClampNeg (cI σ 12 5 x3.toNatClampNeg)) 12 7 x3.toNatClampNeg)) 13 i_4 x3.toNatClampNeg ((0 : Int32) &&& 1)) x1 (x3 + (1 : Int32))
set_option maxHeartbeats 4000000 in
set_option maxRecDepth 100000 in
theorem gc_X3_setUp_7 {p : Program} {l : Launch} {e : Env} {s : State} {m : MethodId} {args : Array Value} {below : List Frame} {meth : Method} {c : Code} {D : va_G} {ca : Nat → ClassId} {A : Nat → Prop} {σ0 : cS} {α : cAl} {o : cS} (C : cC p s m args c cX3_setUp 4 RX3 D ca A α) (hr : meth.sig.returnType = (none : Option FieldType)) (hlk : meth.locks = false) (h17 : 0 < cn σ0 17) : ∀ (n : Nat) (σ : cS) (x1 : Option Nat) (x3 : Int32) (H : Heap) (locs : List Loc) (ls : Array Slot), cM D ca true A s.heap σ0 α σ α H locs → lv_has ls 4 [(0, cr α 3 (some 0)), (1, cr α 6 x1), (3, .int x3)] → fc_X3_setUp_7 n σ x1 x3 = some o → W p l e rc_X3_setUp s m args below meth c H locs 0 0 (MQ below (cQ false D ca true A α σ0 (fun _ => none) o) args s 0 0 A) (F0 m 7 ls []) := by
  have hx := C.1
  have hb := C.2.1
  intro n
  induction n with
  | zero =>
    intro σ x1 x3 H locs ls hM hl h
    cases h
  | succ n ih =>
    intro σ x1 x3 H locs ls hM hl h
    rw [fc_X3_setUp_7] at h
    refine lv_iload_n hx hb dX3_setUp_7 rfl (lv_at hl 2 rfl) ?_
    refine lv_bipush (v := (12 : Int32)) hx hb dX3_setUp_8 (by decide) ?_
    refine lv_icmp_ge (tgt := 56) hx hb dX3_setUp_10 (by decide) (fun c_1 => ?_) (fun c_1 => ?_)
    · have h := br_T c_1 h
      exact c_rv C hM (fun _ => rfl) hr hlk dX3_setUp_56 h
    · have h := br_F c_1 h
      refine c_aload_n (t := 6) (x := x1) hx hb dX3_setUp_13 rfl (lv_at hl 1 rfl) ?_
      obtain ⟨i_1, hd_1, h⟩ := bd_of h
      refine c_getrt C hM (k := 6) (f := 1) (t := 12) hd_1 (by decide) fl_X3_25 dX3_setUp_14 ?_
      refine lv_iload_n hx hb dX3_setUp_17 rfl (lv_at hl 2 rfl) ?_
      refine c_aload_n (t := 3) (x := (some 0)) hx hb dX3_setUp_18 rfl (lv_at hl 0 rfl) ?_
      refine c_getb C hM (k := 3) (f := 0) (j := 0) (t := 2) (hM.cst 3 0 rfl) (by decide) fl_X3_15 dX3_setUp_19 ?_
      refine c_getb C hM (k := 2) (f := 8) (j := 5) (t := 12) (hM.cst 2 0 rfl) (by decide) fl_X3_28 dX3_setUp_22 ?_
      refine lv_iload_n hx hb dX3_setUp_25 rfl (lv_at hl 2 rfl) ?_
      obtain ⟨c_2, h⟩ := ko_of h
      refine c_iald C hM (hM.cst 12 5 rfl) (by rw [hM.ln 12 5 12 (by decide)]; exact c_2) dX3_setUp_26 ?_
      obtain ⟨i_2, hd_2, h⟩ := bd_of h
      obtain ⟨c_3, h⟩ := ko_of h
      refine c_iast C hM hd_2 c_3 dX3_setUp_27 (fun H locs hM => ?_)
      refine c_aload_n (t := 6) (x := x1) hx hb dX3_setUp_28 rfl (lv_at hl 1 rfl) ?_
      refine c_getrt C hM (k := 6) (f := 2) (t := 12) hd_1 (by decide) fl_X3_33 dX3_setUp_29 ?_
      refine lv_iload_n hx hb dX3_setUp_32 rfl (lv_at hl 2 rfl) ?_
      refine c_aload_n (t := 3) (x := (some 0)) hx hb dX3_setUp_33 rfl (lv_at hl 0 rfl) ?_
      refine c_getb C hM (k := 3) (f := 0) (j := 0) (t := 2) (hM.cst 3 0 rfl) (by decide) fl_X3_15 dX3_setUp_34 ?_
      refine c_getb C hM (k := 2) (f := 11) (j := 7) (t := 12) (hM.cst 2 0 rfl) (by decide) fl_X3_36 dX3_setUp_37 ?_
      refine lv_iload_n hx hb dX3_setUp_40 rfl (lv_at hl 2 rfl) ?_
      obtain ⟨c_4, h⟩ := ko_of h
      refine c_iald C hM (hM.cst 12 7 rfl) (by rw [hM.ln 12 7 12 (by decide)]; exact c_4) dX3_setUp_41 ?_
      obtain ⟨i_3, hd_3, h⟩ := bd_of h
      obtain ⟨c_5, h⟩ := ko_of h
      refine c_iast C hM hd_3 c_5 dX3_setUp_42 (fun H locs hM => ?_)
      refine c_aload_n (t := 6) (x := x1) hx hb dX3_setUp_43 rfl (lv_at hl 1 rfl) ?_
      refine c_getrt C hM (k := 6) (f := 3) (t := 13) hd_1 (by decide) fl_X3_37 dX3_setUp_44 ?_
      refine lv_iload_n hx hb dX3_setUp_47 rfl (lv_at hl 2 rfl) ?_
      refine lv_iconst (v := (0 : Int32)) hx hb dX3_setUp_48 (by decide) ?_
      obtain ⟨i_4, hd_4, h⟩ := bd_of h
      obtain ⟨c_6, h⟩ := ko_of h
      refine c_zast C hM hd_4 c_6 dX3_setUp_49 (fun H locs hM => ?_)
      refine lv_iinc (v := (x3 + (1 : Int32))) (lv' := [(3, .int (x3 + (1 : Int32))), (0, cr α 3 (some 0)), (1, cr α 6 x1)]) hx hb dX3_setUp_50 hl (k := 2) rfl rfl (by decide) rfl (fun ls hl => ?_)
      refine lv_goto (tgt := 7) hx hb dX3_setUp_53 (by decide) ?_
      exact ih _ _ _ _ _ _ hM (lv_sub hl [1, 2, 0] rfl) h
def fc_X3_setUp (σ : cS) (x1 : Option Nat) (x2 : Int32) : Option (cS) :=
  (dr σ 6 x1).bind fun i_1 =>
  fc_X3_setUp_7 3000 (uI σ 6 i_1 0 x2) x1 (0 : Int32)
set_option maxHeartbeats 4000000 in
set_option maxRecDepth 100000 in
theorem cc_X3_setUp (l : Launch) (D : va_G) (ca : Nat → ClassId) (A : Nat → Prop) (α : cAl) (σ : cS) (x1 : Option Nat) (x2 : Int32) (o : cS) (h : fc_X3_setUp σ x1 x2 = some o) : cMet false l yX3_setUp cX3_setUp 4 ((none : Option FieldType)) rc_X3_setUp 0 0 D ca true A α σ [cr α 3 (some 0), cr α 6 x1, .int x2] (fun _ => none) o := by
  refine Met.ofW (cc := cX3_setUp) (maxL := 4) (ret := (none : Option FieldType)) (by decide) rfl ?_
  intro p e s m args below meth c s₁ B hml hv
  obtain ⟨rfl, hP, hK, hD0, hSh, hA, hG⟩ := hv
  have C : cC p s m _ c cX3_setUp 4 RX3 D ca A α := ⟨B.exec, B.bytes, hml, findClass_of_methodNamed B.named, fun w hw => atoms_spec (ws := mWs yX3_setUp cX3_setUp 4 ((none : Option FieldType))) B.pre w (List.mem_cons_of_mem _ hw), hK, hG⟩
  have hM : cM D ca true A s.heap σ α σ α s.heap [] := ⟨hP, hD0, hSh, va_S.rf, hA, cX.rf⟩
  have h17 : 0 < cn σ 17 := c_17 hM
  have hr := B.returns
  have hlk := B.notSynchronized
  have hx := C.1
  have hb := C.2.1
  have hl := lv_entry ([cr α 3 (some 0), cr α 6 x1, .int x2]) (n := 4) (by simp [lg_r, lg_i, lg_l, lg_n])
  rw [lg_entry_eq]
  generalize (lg_sl ([cr α 3 (some 0), cr α 6 x1, .int x2]) ++ List.replicate (4 - (lg_sl ([cr α 3 (some 0), cr α 6 x1, .int x2])).length) Slot.unset).toArray = ls at hl ⊢
  have hl : lv_has ls 4 [(0, cr α 3 (some 0)), (1, cr α 6 x1), (2, .int x2)] := (lv_to hl (by simp only [la_r, la_i, la_l, la_n]))
  unfold fc_X3_setUp at h
  refine c_aload_n (t := 6) (x := x1) hx hb dX3_setUp_0 rfl (lv_at hl 1 rfl) ?_
  refine lv_iload_n hx hb dX3_setUp_1 rfl (lv_at hl 2 rfl) ?_
  obtain ⟨i_1, hd_1, h⟩ := bd_of h
  refine c_puti C hM (k := 6) (f := 0) hd_1 rfl fl_X3_19 (Or.inl rfl) dX3_setUp_2 (fun H locs hM => ?_)
  refine lv_iconst (v := (0 : Int32)) hx hb dX3_setUp_5 (by decide) ?_
  refine lv_istore_n (lv' := [(3, .int (0 : Int32)), (0, cr α 3 (some 0)), (1, cr α 6 x1), (2, .int x2)]) hx hb dX3_setUp_6 rfl hl (by decide) rfl (fun ls hl => ?_)
  exact gc_X3_setUp_7 C hr hlk h17  _ _ _ _ _ _ _ hM (lv_sub hl [1, 2, 0] rfl) h
/-! Lorewick$Rules.openBoxOf(LLorewick$State;I)I -/
abbrev rc_X3_openBoxOf : Room := { frames := 0, cells := 0, slots := 0, locals := 0 }
def fc_X3_openBoxOf_40 (σ : cS) (s0 : Int32) : Option (Int32 × cS) :=
    some (s0, σ)
set_option maxHeartbeats 4000000 in
set_option maxRecDepth 100000 in
theorem gc_X3_openBoxOf_40 {p : Program} {l : Launch} {e : Env} {s : State} {m : MethodId} {args : Array Value} {below : List Frame} {meth : Method} {c : Code} {D : va_G} {ca : Nat → ClassId} {A : Nat → Prop} {σ0 : cS} {α : cAl} {o : Int32 × cS} (C : cC p s m args c cX3_openBoxOf 4 RX3 D ca A α) (hr : meth.sig.returnType = (some FieldType.int)) (hlk : meth.locks = false) (h17 : 0 < cn σ0 17) : ∀ (σ : cS) (s0 : Int32) (H : Heap) (locs : List Loc) (ls : Array Slot), cM D ca true A s.heap σ0 α σ α H locs → lv_has ls 4 [] → fc_X3_openBoxOf_40 σ s0 = some o → W p l e rc_X3_openBoxOf s m args below meth c H locs 0 0 (MQ below (cQ false D ca true A α σ0 (fun _ => some (.int o.1)) o.2) args s 0 0 A) (F0 m 40 ls [.int s0]) := by
  have hx := C.1
  have hb := C.2.1
  intro σ s0 H locs ls hM hl h
  unfold fc_X3_openBoxOf_40 at h
  exact c_ri C hM (fun _ => rfl) hr hlk dX3_openBoxOf_40 h
def fc_X3_openBoxOf_39 (σ : cS) : Option (Int32 × cS) :=
    fc_X3_openBoxOf_40 σ (-1 : Int32)
set_option maxHeartbeats 4000000 in
set_option maxRecDepth 100000 in
theorem gc_X3_openBoxOf_39 {p : Program} {l : Launch} {e : Env} {s : State} {m : MethodId} {args : Array Value} {below : List Frame} {meth : Method} {c : Code} {D : va_G} {ca : Nat → ClassId} {A : Nat → Prop} {σ0 : cS} {α : cAl} {o : Int32 × cS} (C : cC p s m args c cX3_openBoxOf 4 RX3 D ca A α) (hr : meth.sig.returnType = (some FieldType.int)) (hlk : meth.locks = false) (h17 : 0 < cn σ0 17) : ∀ (σ : cS) (H : Heap) (locs : List Loc) (ls : Array Slot), cM D ca true A s.heap σ0 α σ α H locs → lv_has ls 4 [] → fc_X3_openBoxOf_39 σ = some o → W p l e rc_X3_openBoxOf s m args below meth c H locs 0 0 (MQ below (cQ false D ca true A α σ0 (fun _ => some (.int o.1)) o.2) args s 0 0 A) (F0 m 39 ls []) := by
  have hx := C.1
  have hb := C.2.1
  intro σ H locs ls hM hl h
  unfold fc_X3_openBoxOf_39 at h
  refine lv_iconst (v := (-1 : Int32)) hx hb dX3_openBoxOf_39 (by decide) ?_
  exact gc_X3_openBoxOf_40 C hr hlk h17  _ _ _ _ _ hM (lv_sub hl [] rfl) h
def fc_X3_openBoxOf (σ : cS) (x1 : Option Nat) (x2 : Int32) : Option (Int32 × cS) :=
  (dr σ 6 x1).bind fun i_1 =>
  (dr σ 12 (cR σ 6 i_1 1)).bind fun i_2 =>
  if x2 < 0 ∨ cln σ 12 i_2 ≤ x2.toNatClampNeg then none else
  if ((cI σ 12 i_2 x2.toNatClampNeg) - (200 : Int32)) < 0 then
    fc_X3_openBoxOf_39 σ
  else
    if (cI σ 2 0 13) ≤ ((cI σ 12 i_2 x2.toNatClampNeg) - (200 : Int32)) then
      fc_X3_openBoxOf_39 σ
    else
      (dr σ 13 (cR σ 6 i_1 3)).bind fun i_3 =>
      if ((cI σ 12 i_2 x2.toNatClampNeg) - (200 : Int32)) < 0 ∨ cln σ 13 i_3 ≤ ((cI σ 12 i_2 x2.toNatClampNeg) - (200 : Int32)).toNatClampNeg then none else
      if (cI σ 13 i_3 ((cI σ 12 i_2 x2.toNatClampNeg) - (200 : Int32)).toNatClampNeg) = 0 then
        fc_X3_openBoxOf_39 σ
      else
        fc_X3_openBoxOf_40 σ ((cI σ 12 i_2 x2.toNatClampNeg) - (200 : Int32))
set_option maxHeartbeats 4000000 in
set_option maxRecDepth 100000 in
theorem cc_X3_openBoxOf (l : Launch) (D : va_G) (ca : Nat → ClassId) (A : Nat → Prop) (α : cAl) (σ : cS) (x1 : Option Nat) (x2 : Int32) (o : Int32 × cS) (h : fc_X3_openBoxOf σ x1 x2 = some o) : cMet false l yX3_openBoxOf cX3_openBoxOf 4 ((some FieldType.int)) rc_X3_openBoxOf 0 0 D ca true A α σ [cr α 3 (some 0), cr α 6 x1, .int x2] (fun _ => some (.int o.1)) o.2 := by
  refine Met.ofW (cc := cX3_openBoxOf) (maxL := 4) (ret := (some FieldType.int)) (by decide) rfl ?_
  intro p e s m args below meth c s₁ B hml hv
  obtain ⟨rfl, hP, hK, hD0, hSh, hA, hG⟩ := hv
  have C : cC p s m _ c cX3_openBoxOf 4 RX3 D ca A α := ⟨B.exec, B.bytes, hml, findClass_of_methodNamed B.named, fun w hw => atoms_spec (ws := mWs yX3_openBoxOf cX3_openBoxOf 4 ((some FieldType.int))) B.pre w (List.mem_cons_of_mem _ hw), hK, hG⟩
  have hM : cM D ca true A s.heap σ α σ α s.heap [] := ⟨hP, hD0, hSh, va_S.rf, hA, cX.rf⟩
  have h17 : 0 < cn σ 17 := c_17 hM
  have hr := B.returns
  have hlk := B.notSynchronized
  have hx := C.1
  have hb := C.2.1
  have hl := lv_entry ([cr α 3 (some 0), cr α 6 x1, .int x2]) (n := 4) (by simp [lg_r, lg_i, lg_l, lg_n])
  rw [lg_entry_eq]
  generalize (lg_sl ([cr α 3 (some 0), cr α 6 x1, .int x2]) ++ List.replicate (4 - (lg_sl ([cr α 3 (some 0), cr α 6 x1, .int x2])).length) Slot.unset).toArray = ls at hl ⊢
  have hl : lv_has ls 4 [(0, cr α 3 (some 0)), (1, cr α 6 x1), (2, .int x2)] := (lv_to hl (by simp only [la_r, la_i, la_l, la_n]))
  unfold fc_X3_openBoxOf at h
  refine c_aload_n (t := 6) (x := x1) hx hb dX3_openBoxOf_0 rfl (lv_at hl 1 rfl) ?_
  obtain ⟨i_1, hd_1, h⟩ := bd_of h
  refine c_getrt C hM (k := 6) (f := 1) (t := 12) hd_1 (by decide) fl_X3_25 dX3_openBoxOf_1 ?_
  refine lv_iload_n hx hb dX3_openBoxOf_4 rfl (lv_at hl 2 rfl) ?_
  obtain ⟨i_2, hd_2, h⟩ := bd_of h
  obtain ⟨c_1, h⟩ := ko_of h
  refine c_iald C hM hd_2 c_1 dX3_openBoxOf_5 ?_
  refine lv_sipush (v := (200 : Int32)) hx hb dX3_openBoxOf_6 (by decide) ?_
  refine lv_isub hx hb dX3_openBoxOf_9 ?_
  refine lv_istore_n (lv' := [(3, .int ((cI σ 12 i_2 x2.toNatClampNeg) - (200 : Int32))), (0, cr α 3 (some 0)), (1, cr α 6 x1), (2, .int x2)]) hx hb dX3_openBoxOf_10 rfl hl (by decide) rfl (fun ls hl => ?_)
  refine lv_iload_n hx hb dX3_openBoxOf_11 rfl (lv_at hl 0 rfl) ?_
  refine lv_if_lt (tgt := 39) hx hb dX3_openBoxOf_12 (by decide) (fun c_2 => ?_) (fun c_2 => ?_)
  · have h := br_T c_2 h
    exact gc_X3_openBoxOf_39 C hr hlk h17  _ _ _ _ hM (lv_sub hl [] rfl) h
  · have h := br_F c_2 h
    refine lv_iload_n hx hb dX3_openBoxOf_15 rfl (lv_at hl 0 rfl) ?_
    refine c_aload_n (t := 3) (x := (some 0)) hx hb dX3_openBoxOf_16 rfl (lv_at hl 1 rfl) ?_
    refine c_getb C hM (k := 3) (f := 0) (j := 0) (t := 2) (hM.cst 3 0 rfl) (by decide) fl_X3_15 dX3_openBoxOf_17 ?_
    refine c_geti C hM (k := 2) (f := 13) (hM.cst 2 0 rfl) rfl fl_X3_41 dX3_openBoxOf_20 ?_
    refine lv_icmp_ge (tgt := 39) hx hb dX3_openBoxOf_23 (by decide) (fun c_3 => ?_) (fun c_3 => ?_)
    · have h := br_T c_3 h
      exact gc_X3_openBoxOf_39 C hr hlk h17  _ _ _ _ hM (lv_sub hl [] rfl) h
    · have h := br_F c_3 h
      refine c_aload_n (t := 6) (x := x1) hx hb dX3_openBoxOf_26 rfl (lv_at hl 2 rfl) ?_
      refine c_getrt C hM (k := 6) (f := 3) (t := 13) hd_1 (by decide) fl_X3_37 dX3_openBoxOf_27 ?_
      refine lv_iload_n hx hb dX3_openBoxOf_30 rfl (lv_at hl 0 rfl) ?_
      obtain ⟨i_3, hd_3, h⟩ := bd_of h
      obtain ⟨c_4, h⟩ := ko_of h
      refine c_zald C hM hd_3 c_4 dX3_openBoxOf_31 ?_
      refine lv_if_eq (tgt := 39) hx hb dX3_openBoxOf_32 (by decide) (fun c_5 => ?_) (fun c_5 => ?_)
      · have h := br_T c_5 h
        exact gc_X3_openBoxOf_39 C hr hlk h17  _ _ _ _ hM (lv_sub hl [] rfl) h
      · have h := br_F c_5 h
        refine lv_iload_n hx hb dX3_openBoxOf_35 rfl (lv_at hl 0 rfl) ?_
        refine lv_goto (tgt := 40) hx hb dX3_openBoxOf_36 (by decide) ?_
        exact gc_X3_openBoxOf_40 C hr hlk h17  _ _ _ _ _ hM (lv_sub hl [] rfl) h
/-! Lorewick$Rules.isHeld(LLorewick$State;I)Z -/
abbrev rc_X3_isHeld : Room := { frames := 1, cells := 0, slots := 0, locals := 23 }
def fc_X3_isHeld_32 (σ : cS) (s0 : Int32) : Option (Int32 × cS) :=
    if s0 &&& 1 = s0 then some (s0, σ) else none
set_option maxHeartbeats 4000000 in
set_option maxRecDepth 100000 in
theorem gc_X3_isHeld_32 {p : Program} {l : Launch} {e : Env} {s : State} {m : MethodId} {args : Array Value} {below : List Frame} {meth : Method} {c : Code} {D : va_G} {ca : Nat → ClassId} {A : Nat → Prop} {σ0 : cS} {α : cAl} {o : Int32 × cS} (C : cC p s m args c cX3_isHeld 4 RX3 D ca A α) (hr : meth.sig.returnType = (some FieldType.boolean)) (hlk : meth.locks = false) (h17 : 0 < cn σ0 17) : ∀ (σ : cS) (s0 : Int32) (H : Heap) (locs : List Loc) (ls : Array Slot), cM D ca true A s.heap σ0 α σ α H locs → lv_has ls 4 [] → fc_X3_isHeld_32 σ s0 = some o → W p l e rc_X3_isHeld s m args below meth c H locs 0 0 (MQ below (cQ false D ca true A α σ0 (fun _ => some (.int o.1)) o.2) args s 0 0 A) (F0 m 32 ls [.int s0]) := by
  have hx := C.1
  have hb := C.2.1
  intro σ s0 H locs ls hM hl h
  unfold fc_X3_isHeld_32 at h
  exact c_rz C hM (fun _ => rfl) hr hlk dX3_isHeld_32 h
def fc_X3_isHeld_21 (σ : cS) (s0 : Int32) (s1 : Option Nat) : Option (Int32 × cS) :=
    (dr σ 12 s1).bind fun i_1 =>
    if s0 < 0 ∨ cln σ 12 i_1 ≤ s0.toNatClampNeg then none else
    if (cI σ 12 i_1 s0.toNatClampNeg) = (100 : Int32) then
      fc_X3_isHeld_32 σ (1 : Int32)
    else
      fc_X3_isHeld_32 σ (0 : Int32)
set_option maxHeartbeats 4000000 in
set_option maxRecDepth 100000 in
theorem gc_X3_isHeld_21 {p : Program} {l : Launch} {e : Env} {s : State} {m : MethodId} {args : Array Value} {below : List Frame} {meth : Method} {c : Code} {D : va_G} {ca : Nat → ClassId} {A : Nat → Prop} {σ0 : cS} {α : cAl} {o : Int32 × cS} (C : cC p s m args c cX3_isHeld 4 RX3 D ca A α) (hr : meth.sig.returnType = (some FieldType.boolean)) (hlk : meth.locks = false) (h17 : 0 < cn σ0 17) : ∀ (σ : cS) (s0 : Int32) (s1 : Option Nat) (H : Heap) (locs : List Loc) (ls : Array Slot), cM D ca true A s.heap σ0 α σ α H locs → lv_has ls 4 [] → fc_X3_isHeld_21 σ s0 s1 = some o → W p l e rc_X3_isHeld s m args below meth c H locs 0 0 (MQ below (cQ false D ca true A α σ0 (fun _ => some (.int o.1)) o.2) args s 0 0 A) (F0 m 21 ls [.int s0, cr α 12 s1]) := by
  have hx := C.1
  have hb := C.2.1
  intro σ s0 s1 H locs ls hM hl h
  unfold fc_X3_isHeld_21 at h
  obtain ⟨i_1, hd_1, h⟩ := bd_of h
  obtain ⟨c_1, h⟩ := ko_of h
  refine c_iald C hM hd_1 c_1 dX3_isHeld_21 ?_
  refine lv_bipush (v := (100 : Int32)) hx hb dX3_isHeld_22 (by decide) ?_
  refine lv_icmp_ne (tgt := 31) hx hb dX3_isHeld_24 (by decide) (fun c_2 => ?_) (fun c_2 => ?_)
  · have h := br_F c_2 h
    refine lv_iconst (v := (0 : Int32)) hx hb dX3_isHeld_31 (by decide) ?_
    exact gc_X3_isHeld_32 C hr hlk h17  _ _ _ _ _ hM (lv_sub hl [] rfl) h
  · have h := br_T c_2 h
    refine lv_iconst (v := (1 : Int32)) hx hb dX3_isHeld_27 (by decide) ?_
    refine lv_goto (tgt := 32) hx hb dX3_isHeld_28 (by decide) ?_
    exact gc_X3_isHeld_32 C hr hlk h17  _ _ _ _ _ hM (lv_sub hl [] rfl) h
def fc_X3_isHeld (σ : cS) (x1 : Option Nat) (x2 : Int32) : Option (Int32 × cS) :=
  (fc_X3_openBoxOf σ x1 x2).bind fun r_1 =>
  (dr r_1.2 6 x1).bind fun i_2 =>
  if r_1.1 = (-1 : Int32) then
    fc_X3_isHeld_21 r_1.2 x2 (cR r_1.2 6 i_2 1)
  else
    fc_X3_isHeld_21 r_1.2 r_1.1 (cR r_1.2 6 i_2 1)
set_option maxHeartbeats 4000000 in
set_option maxRecDepth 100000 in
theorem cc_X3_isHeld (l : Launch) (D : va_G) (ca : Nat → ClassId) (A : Nat → Prop) (α : cAl) (σ : cS) (x1 : Option Nat) (x2 : Int32) (o : Int32 × cS) (h : fc_X3_isHeld σ x1 x2 = some o) : cMet false l yX3_isHeld cX3_isHeld 4 ((some FieldType.boolean)) rc_X3_isHeld 0 0 D ca true A α σ [cr α 3 (some 0), cr α 6 x1, .int x2] (fun _ => some (.int o.1)) o.2 := by
  refine Met.ofW (cc := cX3_isHeld) (maxL := 4) (ret := (some FieldType.boolean)) (by decide) rfl ?_
  intro p e s m args below meth c s₁ B hml hv
  obtain ⟨rfl, hP, hK, hD0, hSh, hA, hG⟩ := hv
  have C : cC p s m _ c cX3_isHeld 4 RX3 D ca A α := ⟨B.exec, B.bytes, hml, findClass_of_methodNamed B.named, fun w hw => atoms_spec (ws := mWs yX3_isHeld cX3_isHeld 4 ((some FieldType.boolean))) B.pre w (List.mem_cons_of_mem _ hw), hK, hG⟩
  have hM : cM D ca true A s.heap σ α σ α s.heap [] := ⟨hP, hD0, hSh, va_S.rf, hA, cX.rf⟩
  have h17 : 0 < cn σ 17 := c_17 hM
  have hr := B.returns
  have hlk := B.notSynchronized
  have hx := C.1
  have hb := C.2.1
  have hl := lv_entry ([cr α 3 (some 0), cr α 6 x1, .int x2]) (n := 4) (by simp [lg_r, lg_i, lg_l, lg_n])
  rw [lg_entry_eq]
  generalize (lg_sl ([cr α 3 (some 0), cr α 6 x1, .int x2]) ++ List.replicate (4 - (lg_sl ([cr α 3 (some 0), cr α 6 x1, .int x2])).length) Slot.unset).toArray = ls at hl ⊢
  have hl : lv_has ls 4 [(0, cr α 3 (some 0)), (1, cr α 6 x1), (2, .int x2)] := (lv_to hl (by simp only [la_r, la_i, la_l, la_n]))
  unfold fc_X3_isHeld at h
  refine c_aload_n (t := 3) (x := (some 0)) hx hb dX3_isHeld_0 rfl (lv_at hl 0 rfl) ?_
  refine c_aload_n (t := 6) (x := x1) hx hb dX3_isHeld_1 rfl (lv_at hl 1 rfl) ?_
  refine lv_iload_n hx hb dX3_isHeld_2 rfl (lv_at hl 2 rfl) ?_
  obtain ⟨r_1, hr_1, h⟩ := bd_of h
  refine c_go0 (c_rV (As := [cr α 6 x1, .int x2]) (rest := []) C hM h17 (hM.cst 3 0 rfl) (by decide) (cc_X3_openBoxOf l D ca A α σ x1 x2 _ hr_1) cw_X3_44 ⟨rfl, rfl⟩ ⟨Nat.le_of_ble_eq_true rfl, Nat.le_of_ble_eq_true rfl⟩ rfl rfl (cats_le _ (Nat.le_of_ble_eq_true rfl)) hl.1 dX3_isHeld_3 ⟨Nat.le_of_ble_eq_true rfl, Nat.le_of_ble_eq_true rfl⟩) hM (fun H locs hM => ?_)
  refine W_st (st' := [.int r_1.1]) rfl ?_
  refine lv_istore_n (lv' := [(3, .int r_1.1), (0, cr α 3 (some 0)), (1, cr α 6 x1), (2, .int x2)]) hx hb dX3_isHeld_6 rfl hl (by decide) rfl (fun ls hl => ?_)
  refine c_aload_n (t := 6) (x := x1) hx hb dX3_isHeld_7 rfl (lv_at hl 2 rfl) ?_
  obtain ⟨i_2, hd_2, h⟩ := bd_of h
  refine c_getrt C hM (k := 6) (f := 1) (t := 12) hd_2 (by decide) fl_X3_25 dX3_isHeld_8 ?_
  refine lv_iload_n hx hb dX3_isHeld_11 rfl (lv_at hl 0 rfl) ?_
  refine lv_iconst (v := (-1 : Int32)) hx hb dX3_isHeld_12 (by decide) ?_
  refine lv_icmp_ne (tgt := 20) hx hb dX3_isHeld_13 (by decide) (fun c_1 => ?_) (fun c_1 => ?_)
  · have h := br_F c_1 h
    refine lv_iload_n hx hb dX3_isHeld_20 rfl (lv_at hl 0 rfl) ?_
    exact gc_X3_isHeld_21 C hr hlk h17  _ _ _ _ _ _ hM (lv_sub hl [] rfl) h
  · have h := br_T c_1 h
    refine lv_iload_n hx hb dX3_isHeld_16 rfl (lv_at hl 3 rfl) ?_
    refine lv_goto (tgt := 21) hx hb dX3_isHeld_17 (by decide) ?_
    exact gc_X3_isHeld_21 C hr hlk h17  _ _ _ _ _ _ hM (lv_sub hl [] rfl) h
/-! Lorewick$Rules.isAtHand(LLorewick$State;I)Z -/
abbrev rc_X3_isAtHand : Room := { frames := 1, cells := 0, slots := 0, locals := 23 }
def fc_X3_isAtHand_45 (σ : cS) (s0 : Int32) : Option (Int32 × cS) :=
    if s0 &&& 1 = s0 then some (s0, σ) else none
set_option maxHeartbeats 4000000 in
set_option maxRecDepth 100000 in
theorem gc_X3_isAtHand_45 {p : Program} {l : Launch} {e : Env} {s : State} {m : MethodId} {args : Array Value} {below : List Frame} {meth : Method} {c : Code} {D : va_G} {ca : Nat → ClassId} {A : Nat → Prop} {σ0 : cS} {α : cAl} {o : Int32 × cS} (C : cC p s m args c cX3_isAtHand 5 RX3 D ca A α) (hr : meth.sig.returnType = (some FieldType.boolean)) (hlk : meth.locks = false) (h17 : 0 < cn σ0 17) : ∀ (σ : cS) (s0 : Int32) (H : Heap) (locs : List Loc) (ls : Array Slot), cM D ca true A s.heap σ0 α σ α H locs → lv_has ls 5 [] → fc_X3_isAtHand_45 σ s0 = some o → W p l e rc_X3_isAtHand s m args below meth c H locs 0 0 (MQ below (cQ false D ca true A α σ0 (fun _ => some (.int o.1)) o.2) args s 0 0 A) (F0 m 45 ls [.int s0]) := by
  have hx := C.1
  have hb := C.2.1
  intro σ s0 H locs ls hM hl h
  unfold fc_X3_isAtHand_45 at h
  exact c_rz C hM (fun _ => rfl) hr hlk dX3_isAtHand_45 h
def fc_X3_isAtHand_40 (σ : cS) : Option (Int32 × cS) :=
    fc_X3_isAtHand_45 σ (1 : Int32)
set_option maxHeartbeats 4000000 in
set_option maxRecDepth 100000 in
theorem gc_X3_isAtHand_40 {p : Program} {l : Launch} {e : Env} {s : State} {m : MethodId} {args : Array Value} {below : List Frame} {meth : Method} {c : Code} {D : va_G} {ca : Nat → ClassId} {A : Nat → Prop} {σ0 : cS} {α : cAl} {o : Int32 × cS} (C : cC p s m args c cX3_isAtHand 5 RX3 D ca A α) (hr : meth.sig.returnType = (some FieldType.boolean)) (hlk : meth.locks = false) (h17 : 0 < cn σ0 17) : ∀ (σ : cS) (H : Heap) (locs : List Loc) (ls : Array Slot), cM D ca true A s.heap σ0 α σ α H locs → lv_has ls 5 [] → fc_X3_isAtHand_40 σ = some o → W p l e rc_X3_isAtHand s m args below meth c H locs 0 0 (MQ below (cQ false D ca true A α σ0 (fun _ => some (.int o.1)) o.2) args s 0 0 A) (F0 m 40 ls []) := by
  have hx := C.1
  have hb := C.2.1
  intro σ H locs ls hM hl h
  unfold fc_X3_isAtHand_40 at h
  refine lv_iconst (v := (1 : Int32)) hx hb dX3_isAtHand_40 (by decide) ?_
  refine lv_goto (tgt := 45) hx hb dX3_isAtHand_41 (by decide) ?_
  exact gc_X3_isAtHand_45 C hr hlk h17  _ _ _ _ _ hM (lv_sub hl [] rfl) h
def fc_X3_isAtHand_21 (σ : cS) (x1 : Option Nat) (s0 : Int32) (s1 : Option Nat) : Option (Int32 × cS) :=
    (dr σ 12 s1).bind fun i_1 =>
    if s0 < 0 ∨ cln σ 12 i_1 ≤ s0.toNatClampNeg then none else
    if (cI σ 12 i_1 s0.toNatClampNeg) = (100 : Int32) then
      fc_X3_isAtHand_40 σ
    else
      (dr σ 6 x1).bind fun i_2 =>
      if (cI σ 12 i_1 s0.toNatClampNeg) = (cI σ 6 i_2 0) then
        fc_X3_isAtHand_40 σ
      else
        fc_X3_isAtHand_45 σ (0 : Int32)
set_option maxHeartbeats 4000000 in
set_option maxRecDepth 100000 in
theorem gc_X3_isAtHand_21 {p : Program} {l : Launch} {e : Env} {s : State} {m : MethodId} {args : Array Value} {below : List Frame} {meth : Method} {c : Code} {D : va_G} {ca : Nat → ClassId} {A : Nat → Prop} {σ0 : cS} {α : cAl} {o : Int32 × cS} (C : cC p s m args c cX3_isAtHand 5 RX3 D ca A α) (hr : meth.sig.returnType = (some FieldType.boolean)) (hlk : meth.locks = false) (h17 : 0 < cn σ0 17) : ∀ (σ : cS) (x1 : Option Nat) (s0 : Int32) (s1 : Option Nat) (H : Heap) (locs : List Loc) (ls : Array Slot), cM D ca true A s.heap σ0 α σ α H locs → lv_has ls 5 [(1, cr α 6 x1)] → fc_X3_isAtHand_21 σ x1 s0 s1 = some o → W p l e rc_X3_isAtHand s m args below meth c H locs 0 0 (MQ below (cQ false D ca true A α σ0 (fun _ => some (.int o.1)) o.2) args s 0 0 A) (F0 m 21 ls [.int s0, cr α 12 s1]) := by
  have hx := C.1
  have hb := C.2.1
  intro σ x1 s0 s1 H locs ls hM hl h
  unfold fc_X3_isAtHand_21 at h
  obtain ⟨i_1, hd_1, h⟩ := bd_of h
  obtain ⟨c_1, h⟩ := ko_of h
  refine c_iald C hM hd_1 c_1 dX3_isAtHand_21 ?_
  refine lv_istore (lv' := [(4, .int (cI σ 12 i_1 s0.toNatClampNeg)), (1, cr α 6 x1)]) hx hb dX3_isAtHand_22 hl (by decide) rfl (fun ls hl => ?_)
  refine lv_iload hx hb dX3_isAtHand_24 (lv_at hl 0 rfl) ?_
  refine lv_bipush (v := (100 : Int32)) hx hb dX3_isAtHand_26 (by decide) ?_
  refine lv_icmp_eq (tgt := 40) hx hb dX3_isAtHand_28 (by decide) (fun c_2 => ?_) (fun c_2 => ?_)
  · have h := br_T c_2 h
    exact gc_X3_isAtHand_40 C hr hlk h17  _ _ _ _ hM (lv_sub hl [] rfl) h
  · have h := br_F c_2 h
    refine lv_iload hx hb dX3_isAtHand_31 (lv_at hl 0 rfl) ?_
    refine c_aload_n (t := 6) (x := x1) hx hb dX3_isAtHand_33 rfl (lv_at hl 1 rfl) ?_
    obtain ⟨i_2, hd_2, h⟩ := bd_of h
    refine c_geti C hM (k := 6) (f := 0) hd_2 rfl fl_X3_19 dX3_isAtHand_34 ?_
    refine lv_icmp_ne (tgt := 44) hx hb dX3_isAtHand_37 (by decide) (fun c_3 => ?_) (fun c_3 => ?_)
    · have h := br_F c_3 h
      refine lv_iconst (v := (0 : Int32)) hx hb dX3_isAtHand_44 (by decide) ?_
      exact gc_X3_isAtHand_45 C hr hlk h17  _ _ _ _ _ hM (lv_sub hl [] rfl) h
    · have h := br_T c_3 h
      exact gc_X3_isAtHand_40 C hr hlk h17  _ _ _ _ hM (lv_sub hl [] rfl) h
def fc_X3_isAtHand (σ : cS) (x1 : Option Nat) (x2 : Int32) : Option (Int32 × cS) :=
  (fc_X3_openBoxOf σ x1 x2).bind fun r_1 =>
  (dr r_1.2 6 x1).bind fun i_2 =>
  if r_1.1 = (-1 : Int32) then
    fc_X3_isAtHand_21 r_1.2 x1 x2 (cR r_1.2 6 i_2 1)
  else
    fc_X3_isAtHand_21 r_1.2 x1 r_1.1 (cR r_1.2 6 i_2 1)
set_option maxHeartbeats 4000000 in
set_option maxRecDepth 100000 in
theorem cc_X3_isAtHand (l : Launch) (D : va_G) (ca : Nat → ClassId) (A : Nat → Prop) (α : cAl) (σ : cS) (x1 : Option Nat) (x2 : Int32) (o : Int32 × cS) (h : fc_X3_isAtHand σ x1 x2 = some o) : cMet false l yX3_isAtHand cX3_isAtHand 5 ((some FieldType.boolean)) rc_X3_isAtHand 0 0 D ca true A α σ [cr α 3 (some 0), cr α 6 x1, .int x2] (fun _ => some (.int o.1)) o.2 := by
  refine Met.ofW (cc := cX3_isAtHand) (maxL := 5) (ret := (some FieldType.boolean)) (by decide) rfl ?_
  intro p e s m args below meth c s₁ B hml hv
  obtain ⟨rfl, hP, hK, hD0, hSh, hA, hG⟩ := hv
  have C : cC p s m _ c cX3_isAtHand 5 RX3 D ca A α := ⟨B.exec, B.bytes, hml, findClass_of_methodNamed B.named, fun w hw => atoms_spec (ws := mWs yX3_isAtHand cX3_isAtHand 5 ((some FieldType.boolean))) B.pre w (List.mem_cons_of_mem _ hw), hK, hG⟩
  have hM : cM D ca true A s.heap σ α σ α s.heap [] := ⟨hP, hD0, hSh, va_S.rf, hA, cX.rf⟩
  have h17 : 0 < cn σ 17 := c_17 hM
  have hr := B.returns
  have hlk := B.notSynchronized
  have hx := C.1
  have hb := C.2.1
  have hl := lv_entry ([cr α 3 (some 0), cr α 6 x1, .int x2]) (n := 5) (by simp [lg_r, lg_i, lg_l, lg_n])
  rw [lg_entry_eq]
  generalize (lg_sl ([cr α 3 (some 0), cr α 6 x1, .int x2]) ++ List.replicate (5 - (lg_sl ([cr α 3 (some 0), cr α 6 x1, .int x2])).length) Slot.unset).toArray = ls at hl ⊢
  have hl : lv_has ls 5 [(0, cr α 3 (some 0)), (1, cr α 6 x1), (2, .int x2)] := (lv_to hl (by simp only [la_r, la_i, la_l, la_n]))
  unfold fc_X3_isAtHand at h
  refine c_aload_n (t := 3) (x := (some 0)) hx hb dX3_isAtHand_0 rfl (lv_at hl 0 rfl) ?_
  refine c_aload_n (t := 6) (x := x1) hx hb dX3_isAtHand_1 rfl (lv_at hl 1 rfl) ?_
  refine lv_iload_n hx hb dX3_isAtHand_2 rfl (lv_at hl 2 rfl) ?_
  obtain ⟨r_1, hr_1, h⟩ := bd_of h
  refine c_go0 (c_rV (As := [cr α 6 x1, .int x2]) (rest := []) C hM h17 (hM.cst 3 0 rfl) (by decide) (cc_X3_openBoxOf l D ca A α σ x1 x2 _ hr_1) cw_X3_44 ⟨rfl, rfl⟩ ⟨Nat.le_of_ble_eq_true rfl, Nat.le_of_ble_eq_true rfl⟩ rfl rfl (cats_le _ (Nat.le_of_ble_eq_true rfl)) hl.1 dX3_isAtHand_3 ⟨Nat.le_of_ble_eq_true rfl, Nat.le_of_ble_eq_true rfl⟩) hM (fun H locs hM => ?_)
  refine W_st (st' := [.int r_1.1]) rfl ?_
  refine lv_istore_n (lv' := [(3, .int r_1.1), (0, cr α 3 (some 0)), (1, cr α 6 x1), (2, .int x2)]) hx hb dX3_isAtHand_6 rfl hl (by decide) rfl (fun ls hl => ?_)
  refine c_aload_n (t := 6) (x := x1) hx hb dX3_isAtHand_7 rfl (lv_at hl 2 rfl) ?_
  obtain ⟨i_2, hd_2, h⟩ := bd_of h
  refine c_getrt C hM (k := 6) (f := 1) (t := 12) hd_2 (by decide) fl_X3_25 dX3_isAtHand_8 ?_
  refine lv_iload_n hx hb dX3_isAtHand_11 rfl (lv_at hl 0 rfl) ?_
  refine lv_iconst (v := (-1 : Int32)) hx hb dX3_isAtHand_12 (by decide) ?_
  refine lv_icmp_ne (tgt := 20) hx hb dX3_isAtHand_13 (by decide) (fun c_1 => ?_) (fun c_1 => ?_)
  · have h := br_F c_1 h
    refine lv_iload_n hx hb dX3_isAtHand_20 rfl (lv_at hl 0 rfl) ?_
    exact gc_X3_isAtHand_21 C hr hlk h17  _ _ _ _ _ _ _ hM (lv_sub hl [2] rfl) h
  · have h := br_T c_1 h
    refine lv_iload_n hx hb dX3_isAtHand_16 rfl (lv_at hl 3 rfl) ?_
    refine lv_goto (tgt := 21) hx hb dX3_isAtHand_17 (by decide) ?_
    exact gc_X3_isAtHand_21 C hr hlk h17  _ _ _ _ _ _ _ hM (lv_sub hl [2] rfl) h
/-! Lorewick$Rules.hasLight(LLorewick$State;)Z -/
abbrev rc_X3_hasLight : Room := { frames := 2, cells := 0, slots := 0, locals := 47 }
def fc_X3_hasLight_64 (k_19 : cS → Option Nat → Int32 → Option (Int32 × cS)) (σ : cS) (x1 : Option Nat) (x2 : Int32) : Option (Int32 × cS) :=
    k_19 σ x1 (x2 + (1 : Int32))
set_option maxHeartbeats 4000000 in
set_option maxRecDepth 100000 in
theorem gc_X3_hasLight_64 {p : Program} {l : Launch} {e : Env} {s : State} {m : MethodId} {args : Array Value} {below : List Frame} {meth : Method} {c : Code} {D : va_G} {ca : Nat → ClassId} {A : Nat → Prop} {σ0 : cS} {α : cAl} {o : Int32 × cS} {k_19 : cS → Option Nat → Int32 → Option (Int32 × cS)} (C : cC p s m args c cX3_hasLight 3 RX3 D ca A α) (hr : meth.sig.returnType = (some FieldType.boolean)) (hlk : meth.locks = false) (h17 : 0 < cn σ0 17) (hk_19 : ∀ (σ : cS) (x1 : Option Nat) (x2 : Int32) (H : Heap) (locs : List Loc) (ls : Array Slot), cM D ca true A s.heap σ0 α σ α H locs → lv_has ls 3 [(0, cr α 3 (some 0)), (1, cr α 6 x1), (2, .int x2)] → k_19 σ x1 x2 = some o → W p l e rc_X3_hasLight s m args below meth c H locs 0 0 (MQ below (cQ false D ca true A α σ0 (fun _ => some (.int o.1)) o.2) args s 0 0 A) (F0 m 19 ls [])) : ∀ (σ : cS) (x1 : Option Nat) (x2 : Int32) (H : Heap) (locs : List Loc) (ls : Array Slot), cM D ca true A s.heap σ0 α σ α H locs → lv_has ls 3 [(0, cr α 3 (some 0)), (1, cr α 6 x1), (2, .int x2)] → fc_X3_hasLight_64 k_19 σ x1 x2 = some o → W p l e rc_X3_hasLight s m args below meth c H locs 0 0 (MQ below (cQ false D ca true A α σ0 (fun _ => some (.int o.1)) o.2) args s 0 0 A) (F0 m 64 ls []) := by
  have hx := C.1
  have hb := C.2.1
  intro σ x1 x2 H locs ls hM hl h
  unfold fc_X3_hasLight_64 at h
  refine lv_iinc (v := (x2 + (1 : Int32))) (lv' := [(2, .int (x2 + (1 : Int32))), (0, cr α 3 (some 0)), (1, cr α 6 x1)]) hx hb dX3_hasLight_64 hl (k := 2) rfl rfl (by decide) (by first | rfl | (simp only [List.filter, cr_cat]; rfl)) (fun ls hl => ?_)
  refine lv_goto (tgt := 19) hx hb dX3_hasLight_67 (by decide) ?_
  exact hk_19 _ _ _ _ _ _ hM (lv_sub hl [1, 2, 0] rfl) h
def fc_X3_hasLight_19 : Nat → cS → Option Nat → Int32 → Option (Int32 × cS)
  | 0, _, _, _ => none
  | n + 1, σ, x1, x2 =>
    if (cI σ 2 0 13) ≤ x2 then
      if (0 : Int32) &&& 1 = (0 : Int32) then some ((0 : Int32), σ) else none
    else
      if x2 < 0 ∨ 12 ≤ x2.toNatClampNeg then none else
      if (cI σ 14 1 x2.toNatClampNeg) = (108 : Int32) then
        (dr σ 6 x1).bind fun i_1 =>
        (dr σ 13 (cR σ 6 i_1 3)).bind fun i_2 =>
        if x2 < 0 ∨ cln σ 13 i_2 ≤ x2.toNatClampNeg then none else
        if (cI σ 13 i_2 x2.toNatClampNeg) = 0 then
          fc_X3_hasLight_64 (fc_X3_hasLight_19 n) σ x1 x2
        else
          (fc_X3_isAtHand σ x1 x2).bind fun r_3 =>
          if r_3.1 = 0 then
            fc_X3_hasLight_64 (fc_X3_hasLight_19 n) r_3.2 x1 x2
          else
            if (1 : Int32) &&& 1 = (1 : Int32) then some ((1 : Int32), r_3.2) else none
      else
        fc_X3_hasLight_64 (fc_X3_hasLight_19 n) σ x1 x2
set_option maxHeartbeats 4000000 in
set_option maxRecDepth 100000 in
theorem gc_X3_hasLight_19 {p : Program} {l : Launch} {e : Env} {s : State} {m : MethodId} {args : Array Value} {below : List Frame} {meth : Method} {c : Code} {D : va_G} {ca : Nat → ClassId} {A : Nat → Prop} {σ0 : cS} {α : cAl} {o : Int32 × cS} (C : cC p s m args c cX3_hasLight 3 RX3 D ca A α) (hr : meth.sig.returnType = (some FieldType.boolean)) (hlk : meth.locks = false) (h17 : 0 < cn σ0 17) : ∀ (n : Nat) (σ : cS) (x1 : Option Nat) (x2 : Int32) (H : Heap) (locs : List Loc) (ls : Array Slot), cM D ca true A s.heap σ0 α σ α H locs → lv_has ls 3 [(0, cr α 3 (some 0)), (1, cr α 6 x1), (2, .int x2)] → fc_X3_hasLight_19 n σ x1 x2 = some o → W p l e rc_X3_hasLight s m args below meth c H locs 0 0 (MQ below (cQ false D ca true A α σ0 (fun _ => some (.int o.1)) o.2) args s 0 0 A) (F0 m 19 ls []) := by
  have hx := C.1
  have hb := C.2.1
  intro n
  induction n with
  | zero =>
    intro σ x1 x2 H locs ls hM hl h
    cases h
  | succ n ih =>
    intro σ x1 x2 H locs ls hM hl h
    rw [fc_X3_hasLight_19] at h
    refine lv_iload_n hx hb dX3_hasLight_19 rfl (lv_at hl 2 rfl) ?_
    refine c_aload_n (t := 3) (x := (some 0)) hx hb dX3_hasLight_20 rfl (lv_at hl 0 rfl) ?_
    refine c_getb C hM (k := 3) (f := 0) (j := 0) (t := 2) (hM.cst 3 0 rfl) (by decide) fl_X3_15 dX3_hasLight_21 ?_
    refine c_geti C hM (k := 2) (f := 13) (hM.cst 2 0 rfl) rfl fl_X3_41 dX3_hasLight_24 ?_
    refine lv_icmp_ge (tgt := 70) hx hb dX3_hasLight_27 (by decide) (fun c_1 => ?_) (fun c_1 => ?_)
    · have h := br_T c_1 h
      refine lv_iconst (v := (0 : Int32)) hx hb dX3_hasLight_70 (by decide) ?_
      exact c_rz C hM (fun _ => rfl) hr hlk dX3_hasLight_71 h
    · have h := br_F c_1 h
      refine c_aload_n (t := 3) (x := (some 0)) hx hb dX3_hasLight_30 rfl (lv_at hl 0 rfl) ?_
      refine c_getb C hM (k := 3) (f := 0) (j := 0) (t := 2) (hM.cst 3 0 rfl) (by decide) fl_X3_15 dX3_hasLight_31 ?_
      refine c_getb C hM (k := 2) (f := 10) (j := 1) (t := 14) (hM.cst 2 0 rfl) (by decide) fl_X3_51 dX3_hasLight_34 ?_
      refine lv_iload_n hx hb dX3_hasLight_37 rfl (lv_at hl 2 rfl) ?_
      obtain ⟨c_2, h⟩ := ko_of h
      refine c_cald C hM (hM.cst 14 1 rfl) (by rw [hM.ln 14 1 12 (by decide)]; exact c_2) dX3_hasLight_38 ?_
      refine lv_bipush (v := (108 : Int32)) hx hb dX3_hasLight_39 (by decide) ?_
      refine lv_icmp_ne (tgt := 64) hx hb dX3_hasLight_41 (by decide) (fun c_3 => ?_) (fun c_3 => ?_)
      · have h := br_F c_3 h
        exact gc_X3_hasLight_64 C hr hlk h17 ih _ _ _ _ _ _ hM (lv_sub hl [0, 1, 2] rfl) h
      · have h := br_T c_3 h
        refine c_aload_n (t := 6) (x := x1) hx hb dX3_hasLight_44 rfl (lv_at hl 1 rfl) ?_
        obtain ⟨i_1, hd_1, h⟩ := bd_of h
        refine c_getrt C hM (k := 6) (f := 3) (t := 13) hd_1 (by decide) fl_X3_37 dX3_hasLight_45 ?_
        refine lv_iload_n hx hb dX3_hasLight_48 rfl (lv_at hl 2 rfl) ?_
        obtain ⟨i_2, hd_2, h⟩ := bd_of h
        obtain ⟨c_4, h⟩ := ko_of h
        refine c_zald C hM hd_2 c_4 dX3_hasLight_49 ?_
        refine lv_if_eq (tgt := 64) hx hb dX3_hasLight_50 (by decide) (fun c_5 => ?_) (fun c_5 => ?_)
        · have h := br_T c_5 h
          exact gc_X3_hasLight_64 C hr hlk h17 ih _ _ _ _ _ _ hM (lv_sub hl [0, 1, 2] rfl) h
        · have h := br_F c_5 h
          refine c_aload_n (t := 3) (x := (some 0)) hx hb dX3_hasLight_53 rfl (lv_at hl 0 rfl) ?_
          refine c_aload_n (t := 6) (x := x1) hx hb dX3_hasLight_54 rfl (lv_at hl 1 rfl) ?_
          refine lv_iload_n hx hb dX3_hasLight_55 rfl (lv_at hl 2 rfl) ?_
          obtain ⟨r_3, hr_3, h⟩ := bd_of h
          refine c_go0 (c_rV (As := [cr α 6 x1, .int x2]) (rest := []) C hM h17 (hM.cst 3 0 rfl) (by decide) (cc_X3_isAtHand l D ca A α σ x1 x2 _ hr_3) cw_X3_55 ⟨rfl, rfl⟩ ⟨Nat.le_of_ble_eq_true rfl, Nat.le_of_ble_eq_true rfl⟩ rfl rfl (cats_le _ (Nat.le_of_ble_eq_true rfl)) hl.1 dX3_hasLight_56 ⟨Nat.le_of_ble_eq_true rfl, Nat.le_of_ble_eq_true rfl⟩) hM (fun H locs hM => ?_)
          refine W_st (st' := [.int r_3.1]) rfl ?_
          refine lv_if_eq (tgt := 64) hx hb dX3_hasLight_59 (by decide) (fun c_6 => ?_) (fun c_6 => ?_)
          · have h := br_T c_6 h
            exact gc_X3_hasLight_64 C hr hlk h17 ih _ _ _ _ _ _ hM (lv_sub hl [0, 1, 2] rfl) h
          · have h := br_F c_6 h
            refine lv_iconst (v := (1 : Int32)) hx hb dX3_hasLight_62 (by decide) ?_
            exact c_rz C hM (fun _ => rfl) hr hlk dX3_hasLight_63 h
def fc_X3_hasLight (σ : cS) (x1 : Option Nat) : Option (Int32 × cS) :=
  (dr σ 6 x1).bind fun i_1 =>
  if (cI σ 6 i_1 0) < 0 ∨ 12 ≤ (cI σ 6 i_1 0).toNatClampNeg then none else
  if (cI σ 13 0 (cI σ 6 i_1 0).toNatClampNeg) = 0 then
    if (1 : Int32) &&& 1 = (1 : Int32) then some ((1 : Int32), σ) else none
  else
    fc_X3_hasLight_19 3000 σ x1 (0 : Int32)
set_option maxHeartbeats 4000000 in
set_option maxRecDepth 100000 in
theorem cc_X3_hasLight (l : Launch) (D : va_G) (ca : Nat → ClassId) (A : Nat → Prop) (α : cAl) (σ : cS) (x1 : Option Nat) (o : Int32 × cS) (h : fc_X3_hasLight σ x1 = some o) : cMet false l yX3_hasLight cX3_hasLight 3 ((some FieldType.boolean)) rc_X3_hasLight 0 0 D ca true A α σ [cr α 3 (some 0), cr α 6 x1] (fun _ => some (.int o.1)) o.2 := by
  refine Met.ofW (cc := cX3_hasLight) (maxL := 3) (ret := (some FieldType.boolean)) (by decide) rfl ?_
  intro p e s m args below meth c s₁ B hml hv
  obtain ⟨rfl, hP, hK, hD0, hSh, hA, hG⟩ := hv
  have C : cC p s m _ c cX3_hasLight 3 RX3 D ca A α := ⟨B.exec, B.bytes, hml, findClass_of_methodNamed B.named, fun w hw => atoms_spec (ws := mWs yX3_hasLight cX3_hasLight 3 ((some FieldType.boolean))) B.pre w (List.mem_cons_of_mem _ hw), hK, hG⟩
  have hM : cM D ca true A s.heap σ α σ α s.heap [] := ⟨hP, hD0, hSh, va_S.rf, hA, cX.rf⟩
  have h17 : 0 < cn σ 17 := c_17 hM
  have hr := B.returns
  have hlk := B.notSynchronized
  have hx := C.1
  have hb := C.2.1
  have hl := lv_entry ([cr α 3 (some 0), cr α 6 x1]) (n := 3) (by simp [lg_r, lg_i, lg_l, lg_n])
  rw [lg_entry_eq]
  generalize (lg_sl ([cr α 3 (some 0), cr α 6 x1]) ++ List.replicate (3 - (lg_sl ([cr α 3 (some 0), cr α 6 x1])).length) Slot.unset).toArray = ls at hl ⊢
  have hl : lv_has ls 3 [(0, cr α 3 (some 0)), (1, cr α 6 x1)] := (lv_to hl (by simp only [la_r, la_i, la_l, la_n]))
  unfold fc_X3_hasLight at h
  refine c_aload_n (t := 3) (x := (some 0)) hx hb dX3_hasLight_0 rfl (lv_at hl 0 rfl) ?_
  refine c_getb C hM (k := 3) (f := 0) (j := 0) (t := 2) (hM.cst 3 0 rfl) (by decide) fl_X3_15 dX3_hasLight_1 ?_
  refine c_getb C hM (k := 2) (f := 2) (j := 0) (t := 13) (hM.cst 2 0 rfl) (by decide) fl_X3_48 dX3_hasLight_4 ?_
  refine c_aload_n (t := 6) (x := x1) hx hb dX3_hasLight_7 rfl (lv_at hl 1 rfl) ?_
  obtain ⟨i_1, hd_1, h⟩ := bd_of h
  refine c_geti C hM (k := 6) (f := 0) hd_1 rfl fl_X3_19 dX3_hasLight_8 ?_
  obtain ⟨c_1, h⟩ := ko_of h
  refine c_zald C hM (hM.cst 13 0 rfl) (by rw [hM.ln 13 0 12 (by decide)]; exact c_1) dX3_hasLight_11 ?_
  refine lv_if_ne (tgt := 17) hx hb dX3_hasLight_12 (by decide) (fun c_2 => ?_) (fun c_2 => ?_)
  · have h := br_F c_2 h
    refine lv_iconst (v := (0 : Int32)) hx hb dX3_hasLight_17 (by decide) ?_
    refine lv_istore_n (lv' := [(2, .int (0 : Int32)), (0, cr α 3 (some 0)), (1, cr α 6 x1)]) hx hb dX3_hasLight_18 rfl hl (by decide) (by first | rfl | (simp only [List.filter, cr_cat]; rfl)) (fun ls hl => ?_)
    exact gc_X3_hasLight_19 C hr hlk h17  _ _ _ _ _ _ _ hM (lv_sub hl [1, 2, 0] rfl) h
  · have h := br_T c_2 h
    refine lv_iconst (v := (1 : Int32)) hx hb dX3_hasLight_15 (by decide) ?_
    exact c_rz C hM (fun _ => rfl) hr hlk dX3_hasLight_16 h
/-! Lorewick$Rules.isInReach(LLorewick$State;IZ)Z -/
abbrev rc_X3_isInReach : Room := { frames := 2, cells := 0, slots := 0, locals := 47 }
def fc_X3_isInReach_19 (σ : cS) (s0 : Int32) : Option (Int32 × cS) :=
    if s0 &&& 1 = s0 then some (s0, σ) else none
set_option maxHeartbeats 4000000 in
set_option maxRecDepth 100000 in
theorem gc_X3_isInReach_19 {p : Program} {l : Launch} {e : Env} {s : State} {m : MethodId} {args : Array Value} {below : List Frame} {meth : Method} {c : Code} {D : va_G} {ca : Nat → ClassId} {A : Nat → Prop} {σ0 : cS} {α : cAl} {o : Int32 × cS} (C : cC p s m args c cX3_isInReach 4 RX3 D ca A α) (hr : meth.sig.returnType = (some FieldType.boolean)) (hlk : meth.locks = false) (h17 : 0 < cn σ0 17) : ∀ (σ : cS) (s0 : Int32) (H : Heap) (locs : List Loc) (ls : Array Slot), cM D ca true A s.heap σ0 α σ α H locs → lv_has ls 4 [] → fc_X3_isInReach_19 σ s0 = some o → W p l e rc_X3_isInReach s m args below meth c H locs 0 0 (MQ below (cQ false D ca true A α σ0 (fun _ => some (.int o.1)) o.2) args s 0 0 A) (F0 m 19 ls [.int s0]) := by
  have hx := C.1
  have hb := C.2.1
  intro σ s0 H locs ls hM hl h
  unfold fc_X3_isInReach_19 at h
  exact c_rz C hM (fun _ => rfl) hr hlk dX3_isInReach_19 h
def fc_X3_isInReach (σ : cS) (x1 : Option Nat) (x2 : Int32) (x3 : Int32) : Option (Int32 × cS) :=
  if x3 = 0 then
    (fc_X3_isHeld σ x1 x2).bind fun r_1 =>
    fc_X3_isInReach_19 r_1.2 r_1.1
  else
    (fc_X3_isAtHand σ x1 x2).bind fun r_2 =>
    fc_X3_isInReach_19 r_2.2 r_2.1
set_option maxHeartbeats 4000000 in
set_option maxRecDepth 100000 in
theorem cc_X3_isInReach (l : Launch) (D : va_G) (ca : Nat → ClassId) (A : Nat → Prop) (α : cAl) (σ : cS) (x1 : Option Nat) (x2 : Int32) (x3 : Int32) (o : Int32 × cS) (h : fc_X3_isInReach σ x1 x2 x3 = some o) : cMet false l yX3_isInReach cX3_isInReach 4 ((some FieldType.boolean)) rc_X3_isInReach 0 0 D ca true A α σ [cr α 3 (some 0), cr α 6 x1, .int x2, .int x3] (fun _ => some (.int o.1)) o.2 := by
  refine Met.ofW (cc := cX3_isInReach) (maxL := 4) (ret := (some FieldType.boolean)) (by decide) rfl ?_
  intro p e s m args below meth c s₁ B hml hv
  obtain ⟨rfl, hP, hK, hD0, hSh, hA, hG⟩ := hv
  have C : cC p s m _ c cX3_isInReach 4 RX3 D ca A α := ⟨B.exec, B.bytes, hml, findClass_of_methodNamed B.named, fun w hw => atoms_spec (ws := mWs yX3_isInReach cX3_isInReach 4 ((some FieldType.boolean))) B.pre w (List.mem_cons_of_mem _ hw), hK, hG⟩
  have hM : cM D ca true A s.heap σ α σ α s.heap [] := ⟨hP, hD0, hSh, va_S.rf, hA, cX.rf⟩
  have h17 : 0 < cn σ 17 := c_17 hM
  have hr := B.returns
  have hlk := B.notSynchronized
  have hx := C.1
  have hb := C.2.1
  have hl := lv_entry ([cr α 3 (some 0), cr α 6 x1, .int x2, .int x3]) (n := 4) (by simp [lg_r, lg_i, lg_l, lg_n])
  rw [lg_entry_eq]
  generalize (lg_sl ([cr α 3 (some 0), cr α 6 x1, .int x2, .int x3]) ++ List.replicate (4 - (lg_sl ([cr α 3 (some 0), cr α 6 x1, .int x2, .int x3])).length) Slot.unset).toArray = ls at hl ⊢
  have hl : lv_has ls 4 [(0, cr α 3 (some 0)), (1, cr α 6 x1), (2, .int x2), (3, .int x3)] := (lv_to hl (by simp only [la_r, la_i, la_l, la_n]))
  unfold fc_X3_isInReach at h
  refine lv_iload_n hx hb dX3_isInReach_0 rfl (lv_at hl 3 rfl) ?_
  refine lv_if_eq (tgt := 13) hx hb dX3_isInReach_1 (by decide) (fun c_1 => ?_) (fun c_1 => ?_)
  · have h := br_T c_1 h
    refine c_aload_n (t := 3) (x := (some 0)) hx hb dX3_isInReach_13 rfl (lv_at hl 0 rfl) ?_
    refine c_aload_n (t := 6) (x := x1) hx hb dX3_isInReach_14 rfl (lv_at hl 1 rfl) ?_
    refine lv_iload_n hx hb dX3_isInReach_15 rfl (lv_at hl 2 rfl) ?_
    obtain ⟨r_1, hr_1, h⟩ := bd_of h
    refine c_go0 (c_rV (As := [cr α 6 x1, .int x2]) (rest := []) C hM h17 (hM.cst 3 0 rfl) (by decide) (cc_X3_isHeld l D ca A α σ x1 x2 _ hr_1) cw_X3_59 ⟨rfl, rfl⟩ ⟨Nat.le_of_ble_eq_true rfl, Nat.le_of_ble_eq_true rfl⟩ rfl rfl (cats_le _ (Nat.le_of_ble_eq_true rfl)) hl.1 dX3_isInReach_16 ⟨Nat.le_of_ble_eq_true rfl, Nat.le_of_ble_eq_true rfl⟩) hM (fun H locs hM => ?_)
    refine W_st (st' := [.int r_1.1]) rfl ?_
    exact gc_X3_isInReach_19 C hr hlk h17  _ _ _ _ _ hM (lv_sub hl [] rfl) h
  · have h := br_F c_1 h
    refine c_aload_n (t := 3) (x := (some 0)) hx hb dX3_isInReach_4 rfl (lv_at hl 0 rfl) ?_
    refine c_aload_n (t := 6) (x := x1) hx hb dX3_isInReach_5 rfl (lv_at hl 1 rfl) ?_
    refine lv_iload_n hx hb dX3_isInReach_6 rfl (lv_at hl 2 rfl) ?_
    obtain ⟨r_2, hr_2, h⟩ := bd_of h
    refine c_go0 (c_rV (As := [cr α 6 x1, .int x2]) (rest := []) C hM h17 (hM.cst 3 0 rfl) (by decide) (cc_X3_isAtHand l D ca A α σ x1 x2 _ hr_2) cw_X3_55 ⟨rfl, rfl⟩ ⟨Nat.le_of_ble_eq_true rfl, Nat.le_of_ble_eq_true rfl⟩ rfl rfl (cats_le _ (Nat.le_of_ble_eq_true rfl)) hl.1 dX3_isInReach_7 ⟨Nat.le_of_ble_eq_true rfl, Nat.le_of_ble_eq_true rfl⟩) hM (fun H locs hM => ?_)
    refine W_st (st' := [.int r_2.1]) rfl ?_
    refine lv_goto (tgt := 19) hx hb dX3_isInReach_10 (by decide) ?_
    exact gc_X3_isInReach_19 C hr hlk h17  _ _ _ _ _ hM (lv_sub hl [] rfl) h
