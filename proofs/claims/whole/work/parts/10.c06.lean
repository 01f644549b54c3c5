/-! The class's methods: what each makes of the state (fc_..), as the bytecode has it; and that it does (cc_..). -/
theorem cw_X11_86 : cCallV RX11 86 (cRn 1) yX7_lettersOfAll cX7_lettersOfAll 1 ((some FieldType.long)) 0 := ⟨⟨wl_in (i := 625) (by decide +kernel), wl_in (i := 626) (by decide +kernel), wl_in (i := 627) (by decide +kernel), wl_in (i := 2) (by decide +kernel), wl_in (i := 628) (by decide +kernel)⟩, rfl, by decide, by decide, by decide +kernel⟩
theorem cw_X11_92 : cCallV RX11 92 (cRn 2) yX10_wordOf cX10_wordOf 4 ((some FieldType.int)) 1 := ⟨⟨wl_in (i := 634) (by decide +kernel), wl_in (i := 635) (by decide +kernel), wl_in (i := 636) (by decide +kernel), wl_in (i := 3) (by decide +kernel), wl_in (i := 637) (by decide +kernel)⟩, rfl, by decide, by decide, by decide +kernel⟩
theorem fl_X11_101 : Cond.fieldLink RX11 101 (cTt 2 1).1 (cTt 2 1).2.1 (cTt 2 1).2.2.1 ∈ wl := wl_in (i := 86) (by decide +kernel)
theorem fl_X11_106 : Cond.fieldLink RX11 106 (cTt 2 0).1 (cTt 2 0).2.1 (cTt 2 0).2.2.1 ∈ wl := wl_in (i := 84) (by decide +kernel)
theorem cw_X11_532 : cCallV RX11 532 (cRn 4) yX8_isEmpty cX8_isEmpty 1 ((some FieldType.boolean)) 0 := ⟨⟨wl_in (i := 666) (by decide +kernel), wl_in (i := 667) (by decide +kernel), wl_in (i := 668) (by decide +kernel), wl_in (i := 6) (by decide +kernel), wl_in (i := 669) (by decide +kernel)⟩, rfl, by decide, by decide, by decide +kernel⟩
theorem cw_X11_110 : cCallV RX11 110 (cRn 0) yX11_needNoPlay cX11_needNoPlay 1 ((none : Option FieldType)) 0 := ⟨⟨wl_in (i := 662) (by decide +kernel), wl_in (i := 664) (by decide +kernel), wl_inp (i := 3) (by decide +kernel), wl_in (i := 1) (by decide +kernel), wl_in (i := 665) (by decide +kernel)⟩, rfl, by decide, by decide, by decide +kernel⟩
theorem fl_X11_113 : Cond.fieldLink RX11 113 (cTt 2 6).1 (cTt 2 6).2.1 (cTt 2 6).2.2.1 ∈ wl := wl_in (i := 100) (by decide +kernel)
theorem fl_X11_118 : Cond.fieldLink RX11 118 (cTt 2 2).1 (cTt 2 2).2.1 (cTt 2 2).2.2.1 ∈ wl := wl_in (i := 89) (by decide +kernel)
theorem cw_X11_517 : cCallV RX11 517 (cRn 2) yX10_hasRoom cX10_hasRoom 2 ((some FieldType.boolean)) 1 := ⟨⟨wl_in (i := 711) (by decide +kernel), wl_in (i := 712) (by decide +kernel), wl_in (i := 713) (by decide +kernel), wl_in (i := 3) (by decide +kernel), wl_in (i := 714) (by decide +kernel)⟩, rfl, by decide, by decide, by decide +kernel⟩
theorem cw_X11_514 : cCallV RX11 514 (cRn 2) yX10_hasWord cX10_hasWord 2 ((some FieldType.boolean)) 1 := ⟨⟨wl_in (i := 732) (by decide +kernel), wl_in (i := 733) (by decide +kernel), wl_in (i := 734) (by decide +kernel), wl_in (i := 3) (by decide +kernel), wl_in (i := 735) (by decide +kernel)⟩, rfl, by decide, by decide, by decide +kernel⟩
theorem cw_X11_122 : cCallV RX11 122 (cRn 0) yX11_needRoom cX11_needRoom 2 ((none : Option FieldType)) 1 := ⟨⟨wl_in (i := 707) (by decide +kernel), wl_in (i := 709) (by decide +kernel), wl_inp (i := 4) (by decide +kernel), wl_in (i := 1) (by decide +kernel), wl_in (i := 710) (by decide +kernel)⟩, rfl, by decide, by decide, by decide +kernel⟩
theorem cw_X11_126 : cCallV RX11 126 (cRn 0) yX11_needWord cX11_needWord 2 ((none : Option FieldType)) 1 := ⟨⟨wl_in (i := 728) (by decide +kernel), wl_in (i := 730) (by decide +kernel), wl_inp (i := 5) (by decide +kernel), wl_in (i := 1) (by decide +kernel), wl_in (i := 731) (by decide +kernel)⟩, rfl, by decide, by decide, by decide +kernel⟩
theorem fl_X11_129 : Cond.fieldLink RX11 129 (cTt 2 3).1 (cTt 2 3).2.1 (cTt 2 3).2.2.1 ∈ wl := wl_in (i := 92) (by decide +kernel)
theorem cw_X11_132 : mCallS RX11 132 yJ13_bitCount_95d88 cJ13_bitCount_95d88 2 ((some FieldType.int)) 1 := ⟨⟨wl_in (i := 737) (by decide +kernel), wl_in (i := 738) (by decide +kernel), wl_in (i := 26) (by decide +kernel), wl_in (i := 739) (by decide +kernel)⟩, by decide, by decide, by decide +kernel⟩
theorem cw_X11_547 : cCallV RX11 547 "java/lang/String" yJ0_indexOf_0f7a4 cJ0_indexOf_0f7a4 2 ((some FieldType.int)) 1 := ⟨⟨wl_in (i := 755) (by decide +kernel), wl_in (i := 756) (by decide +kernel), wl_in (i := 757) (by decide +kernel), wl_in (i := 14) (by decide +kernel), wl_in (i := 758) (by decide +kernel)⟩, rfl, by decide, by decide, by decide +kernel⟩
theorem cw_X11_137 : cCallV RX11 137 (cRn 0) yX11_exitIn cX11_exitIn 4 ((some FieldType.int)) 2 := ⟨⟨wl_in (i := 750) (by decide +kernel), wl_in (i := 752) (by decide +kernel), wl_inp (i := 6) (by decide +kernel), wl_in (i := 1) (by decide +kernel), wl_in (i := 753) (by decide +kernel)⟩, rfl, by decide, by decide, by decide +kernel⟩
theorem fl_X11_141 : Cond.fieldLink RX11 141 (cTt 2 4).1 (cTt 2 4).2.1 (cTt 2 4).2.2.1 ∈ wl := wl_in (i := 94) (by decide +kernel)
theorem fl_X11_145 : Cond.fieldLink RX11 145 (cTt 2 5).1 (cTt 2 5).2.1 (cTt 2 5).2.2.1 ∈ wl := wl_in (i := 97) (by decide +kernel)
theorem cw_X11_522 : cCallV RX11 522 (cRn 2) yX10_hasThing cX10_hasThing 2 ((some FieldType.boolean)) 1 := ⟨⟨wl_in (i := 852) (by decide +kernel), wl_in (i := 443) (by decide +kernel), wl_in (i := 444) (by decide +kernel), wl_in (i := 3) (by decide +kernel), wl_in (i := 445) (by decide +kernel)⟩, rfl, by decide, by decide, by decide +kernel⟩
theorem cw_X11_148 : cCallV RX11 148 (cRn 0) yX11_needThing cX11_needThing 2 ((none : Option FieldType)) 1 := ⟨⟨wl_in (i := 848) (by decide +kernel), wl_in (i := 850) (by decide +kernel), wl_inp (i := 7) (by decide +kernel), wl_in (i := 1) (by decide +kernel), wl_in (i := 851) (by decide +kernel)⟩, rfl, by decide, by decide, by decide +kernel⟩
theorem fl_X11_163 : Cond.fieldLink RX11 163 (cTt 2 13).1 (cTt 2 13).2.1 (cTt 2 13).2.2.1 ∈ wl := wl_in (i := 121) (by decide +kernel)
theorem cw_X11_157 : cCallV RX11 157 (cRn 2) yX10_thingOf cX10_thingOf 3 ((some FieldType.int)) 1 := ⟨⟨wl_in (i := 864) (by decide +kernel), wl_in (i := 461) (by decide +kernel), wl_in (i := 462) (by decide +kernel), wl_in (i := 3) (by decide +kernel), wl_in (i := 463) (by decide +kernel)⟩, rfl, by decide, by decide, by decide +kernel⟩
theorem fl_X11_168 : Cond.fieldLink RX11 168 (cTt 2 7).1 (cTt 2 7).2.1 (cTt 2 7).2.2.1 ∈ wl := wl_in (i := 104) (by decide +kernel)
theorem fl_X11_171 : Cond.fieldLink RX11 171 (cTt 2 8).1 (cTt 2 8).2.1 (cTt 2 8).2.2.1 ∈ wl := wl_in (i := 107) (by decide +kernel)
theorem fl_X11_174 : Cond.fieldLink RX11 174 (cTt 2 9).1 (cTt 2 9).2.1 (cTt 2 9).2.2.1 ∈ wl := wl_in (i := 110) (by decide +kernel)
theorem fl_X11_177 : Cond.fieldLink RX11 177 (cTt 2 10).1 (cTt 2 10).2.1 (cTt 2 10).2.2.1 ∈ wl := wl_in (i := 113) (by decide +kernel)
theorem fl_X11_181 : Cond.fieldLink RX11 181 (cTt 2 11).1 (cTt 2 11).2.1 (cTt 2 11).2.2.1 ∈ wl := wl_in (i := 116) (by decide +kernel)
theorem cw_X11_186 : cCallV RX11 186 (cRn 0) yX11_needKind cX11_needKind 3 ((none : Option FieldType)) 2 := ⟨⟨wl_in (i := 875) (by decide +kernel), wl_in (i := 877) (by decide +kernel), wl_inp (i := 8) (by decide +kernel), wl_in (i := 1) (by decide +kernel), wl_in (i := 878) (by decide +kernel)⟩, rfl, by decide, by decide, by decide +kernel⟩
/-! Lorewick.word()I -/
abbrev rc_X11_word : Room := { frames := 6, cells := 1, slots := 6, locals := 90 }
def fc_X11_word (σ : cS) : Option ((Nat ⊕ Int32) × cS) :=
  (fc_X7_lettersOfAll σ).bind fun r_1 =>
  if (lg_cmp r_1.1 (0 : Int64)) = 0 then
    some (.inl 1, r_1.2)
  else
    (fc_X10_wordOf r_1.2 r_1.1).bind fun r_2 =>
    if r_2.1 = (-1 : Int32) then
      if (cI r_2.2 2 0 1) < (40 : Int32) then
        if (cI r_2.2 2 0 1) < 0 ∨ 40 ≤ (cI r_2.2 2 0 1).toNatClampNeg then none else
        some (.inr ((cI (uI (uI (uJ r_2.2 15 0 (cI r_2.2 2 0 1).toNatClampNeg r_1.1) 2 0 1 ((cI (uJ r_2.2 15 0 (cI r_2.2 2 0 1).toNatClampNeg r_1.1) 2 0 1) + (1 : Int32))) 1 0 3 (0 : Int32)) 2 0 1) - (1 : Int32)), (uI (uI (uJ r_2.2 15 0 (cI r_2.2 2 0 1).toNatClampNeg r_1.1) 2 0 1 ((cI (uJ r_2.2 15 0 (cI r_2.2 2 0 1).toNatClampNeg r_1.1) 2 0 1) + (1 : Int32))) 1 0 3 (0 : Int32)))
      else
        some (.inl 2, r_2.2)
    else
      some (.inl 3, r_2.2)
set_option maxHeartbeats 4000000 in
set_option maxRecDepth 100000 in
theorem cc_X11_word (l : Launch) (hst : l.stackTraces = false) (D : va_G) (ca : Nat → ClassId) (A : Nat → Prop) (α : cAl) (σ : cS) (o : (Nat ⊕ Int32) × cS) (h : fc_X11_word σ  = some o) : cMetX false l yX11_word cX11_word 3 ((some FieldType.int)) rc_X11_word 1 6 D ca true A α σ [cr α 0 (some 0)] (o.1.map id (fun (v : Int32) _ => some (.int v))) o.2 := by
  refine vx_ofW (cc := cX11_word) (maxL := 3) (ret := (some FieldType.int)) (by decide) rfl ?_
  intro p e s m args below meth c s₁ B hml hout hv
  obtain ⟨rfl, hP, hK, hD0, hSh, hA, hG⟩ := hv
  have C : cC p s m _ c cX11_word 3 RX11 D ca A α := ⟨B.exec, B.bytes, hml, findClass_of_methodNamed B.named, fun w hw => atoms_spec (ws := mWs yX11_word cX11_word 3 ((some FieldType.int))) B.pre w (List.mem_cons_of_mem _ hw), hK, hG⟩
  have hM : cM D ca true A s.heap σ α σ α s.heap [] := ⟨hP, hD0, hSh, va_S.rf, hA, cX.rf⟩
  have h17 : 0 < cn σ 17 := c_17 hM
  have hr := B.returns
  have hlk := B.notSynchronized
  have hx := C.1
  have hb := C.2.1
  have hl := lv_entry ([cr α 0 (some 0)]) (n := 3) (Nat.le_of_ble_eq_true rfl)
  rw [lg_entry_eq]
  generalize (lg_sl ([cr α 0 (some 0)]) ++ List.replicate (3 - (lg_sl ([cr α 0 (some 0)])).length) Slot.unset).toArray = ls at hl ⊢
  have hl : lv_has ls 3 [(0, cr α 0 (some 0))] := hl
  unfold fc_X11_word at h
  refine c_aload_n (t := 0) (x := (some 0)) hx hb dX11_word_0 rfl (lv_at hl 0 rfl) ?_
  refine c_getb C hM (k := 0) (f := 0) (j := 0) (t := 1) (hM.cst 0 0 rfl) (by decide) fl_X11_18 dX11_word_1 ?_
  obtain ⟨r_1, hr_1, h⟩ := bd_of h
  refine c_go0 (c_rV (As := []) (rest := []) C hM h17 (hM.cst 1 0 rfl) (by decide) (cc_X7_lettersOfAll l D ca A α σ _ hr_1) cw_X11_86 ⟨rfl, rfl⟩ ⟨Nat.le_of_ble_eq_true rfl, Nat.le_of_ble_eq_true rfl⟩ rfl rfl (cats_le _ (Nat.le_of_ble_eq_true rfl)) hl.1 dX11_word_4 ⟨Nat.le_of_ble_eq_true rfl, Nat.le_of_ble_eq_true rfl⟩) hM (fun H locs hM => ?_)
  refine W_st (st' := [.long r_1.1]) rfl ?_
  refine lv_lstore_n (lv' := [(1, .long r_1.1), (0, cr α 0 (some 0))]) hx hb dX11_word_7 rfl hl (by decide) rfl (fun ls hl => ?_)
  refine lv_lload_n hx hb dX11_word_8 rfl (lv_at hl 0 rfl) ?_
  refine lv_lconst (v := (0 : Int64)) hx hb dX11_word_9 (by decide) ?_
  refine W.lcmp hx hb dX11_word_10 ?_
  refine lv_if_ne (tgt := 24) hx hb dX11_word_11 (by decide) (fun c_1 => ?_) (fun c_1 => ?_)
  · have h := br_F c_1 h
    refine c_aload_n (t := 0) (x := (some 0)) hx hb dX11_word_24 rfl (lv_at hl 1 rfl) ?_
    refine c_getb C hM (k := 0) (f := 1) (j := 0) (t := 2) (hM.cst 0 0 rfl) (by decide) fl_X11_25 dX11_word_25 ?_
    refine lv_lload_n hx hb dX11_word_28 rfl (lv_at hl 0 rfl) ?_
    obtain ⟨r_2, hr_2, h⟩ := bd_of h
    refine c_go0 (c_rV (As := [.long r_1.1]) (rest := []) C hM h17 (hM.cst 2 0 rfl) (by decide) (cc_X10_wordOf l D ca A α r_1.2 r_1.1 _ hr_2) cw_X11_92 ⟨rfl, rfl⟩ ⟨Nat.le_of_ble_eq_true rfl, Nat.le_of_ble_eq_true rfl⟩ rfl rfl (cats_le _ (Nat.le_of_ble_eq_true rfl)) hl.1 dX11_word_29 ⟨Nat.le_of_ble_eq_true rfl, Nat.le_of_ble_eq_true rfl⟩) hM (fun H locs hM => ?_)
    refine W_st (st' := [.int r_2.1]) rfl ?_
    refine lv_iconst (v := (-1 : Int32)) hx hb dX11_word_32 (by decide) ?_
    refine lv_icmp_eq (tgt := 46) hx hb dX11_word_33 (by decide) (fun c_2 => ?_) (fun c_2 => ?_)
    · have h := br_T c_2 h
      refine c_aload_n (t := 0) (x := (some 0)) hx hb dX11_word_46 rfl (lv_at hl 1 rfl) ?_
      refine c_getb C hM (k := 0) (f := 1) (j := 0) (t := 2) (hM.cst 0 0 rfl) (by decide) fl_X11_25 dX11_word_47 ?_
      refine c_geti C hM (k := 2) (f := 1) (hM.cst 2 0 rfl) rfl fl_X11_101 dX11_word_50 ?_
      refine lv_bipush (v := (40 : Int32)) hx hb dX11_word_53 (by decide) ?_
      refine lv_icmp_lt (tgt := 68) hx hb dX11_word_55 (by decide) (fun c_3 => ?_) (fun c_3 => ?_)
      · have h := br_T c_3 h
        refine c_aload_n (t := 0) (x := (some 0)) hx hb dX11_word_68 rfl (lv_at hl 1 rfl) ?_
        refine c_getb C hM (k := 0) (f := 1) (j := 0) (t := 2) (hM.cst 0 0 rfl) (by decide) fl_X11_25 dX11_word_69 ?_
        refine c_getb C hM (k := 2) (f := 0) (j := 0) (t := 15) (hM.cst 2 0 rfl) (by decide) fl_X11_106 dX11_word_72 ?_
        refine c_aload_n (t := 0) (x := (some 0)) hx hb dX11_word_75 rfl (lv_at hl 1 rfl) ?_
        refine c_getb C hM (k := 0) (f := 1) (j := 0) (t := 2) (hM.cst 0 0 rfl) (by decide) fl_X11_25 dX11_word_76 ?_
        refine c_geti C hM (k := 2) (f := 1) (hM.cst 2 0 rfl) rfl fl_X11_101 dX11_word_79 ?_
        refine lv_lload_n hx hb dX11_word_82 rfl (lv_at hl 0 rfl) ?_
        obtain ⟨c_4, h⟩ := ko_of h
        refine c_last C hM (hM.cst 15 0 rfl) (by rw [hM.ln 15 0 40 (by decide)]; exact c_4) dX11_word_83 (fun H locs hM => ?_)
        refine c_aload_n (t := 0) (x := (some 0)) hx hb dX11_word_84 rfl (lv_at hl 1 rfl) ?_
        refine c_getb C hM (k := 0) (f := 1) (j := 0) (t := 2) (hM.cst 0 0 rfl) (by decide) fl_X11_25 dX11_word_85 ?_
        refine lv_dup hx hb dX11_word_88 cr_cat ?_
        refine c_geti C hM (k := 2) (f := 1) (hM.cst 2 0 rfl) rfl fl_X11_101 dX11_word_89 ?_
        refine lv_iconst (v := (1 : Int32)) hx hb dX11_word_92 (by decide) ?_
        refine lv_iadd hx hb dX11_word_93 ?_
        refine c_puti C hM (k := 2) (f := 1) (hM.cst 2 0 rfl) rfl fl_X11_101 (Or.inl rfl) dX11_word_94 (fun H locs hM => ?_)
        refine c_aload_n (t := 0) (x := (some 0)) hx hb dX11_word_97 rfl (lv_at hl 1 rfl) ?_
        refine c_getb C hM (k := 0) (f := 0) (j := 0) (t := 1) (hM.cst 0 0 rfl) (by decide) fl_X11_18 dX11_word_98 ?_
        refine lv_iconst (v := (0 : Int32)) hx hb dX11_word_101 (by decide) ?_
        refine c_puti C hM (k := 1) (f := 3) (hM.cst 1 0 rfl) rfl fl_X11_73 (Or.inl rfl) dX11_word_102 (fun H locs hM => ?_)
        refine c_aload_n (t := 0) (x := (some 0)) hx hb dX11_word_105 rfl (lv_at hl 1 rfl) ?_
        refine c_getb C hM (k := 0) (f := 1) (j := 0) (t := 2) (hM.cst 0 0 rfl) (by decide) fl_X11_25 dX11_word_106 ?_
        refine c_geti C hM (k := 2) (f := 1) (hM.cst 2 0 rfl) rfl fl_X11_101 dX11_word_109 ?_
        refine lv_iconst (v := (1 : Int32)) hx hb dX11_word_112 (by decide) ?_
        refine lv_isub hx hb dX11_word_113 ?_
        refine W.widen (k := 1) (n := 6) (Nat.le_of_ble_eq_true rfl) (Nat.le_of_ble_eq_true rfl) ?_
        exact c_xr h (c_ri (o := (((cI (uI (uI (uJ r_2.2 15 0 (cI r_2.2 2 0 1).toNatClampNeg r_1.1) 2 0 1 ((cI (uJ r_2.2 15 0 (cI r_2.2 2 0 1).toNatClampNeg r_1.1) 2 0 1) + (1 : Int32))) 1 0 3 (0 : Int32)) 2 0 1) - (1 : Int32)), (uI (uI (uJ r_2.2 15 0 (cI r_2.2 2 0 1).toNatClampNeg r_1.1) 2 0 1 ((cI (uJ r_2.2 15 0 (cI r_2.2 2 0 1).toNatClampNeg r_1.1) 2 0 1) + (1 : Int32))) 1 0 3 (0 : Int32)))) C hM (fun _ => rfl) hr hlk dX11_word_114 rfl)
      · have h := br_F c_3 h
        exact c_throw (k := 2) (text := "there are 40 words") C hM (fun _ => rfl) hst hout hlk (by decide +kernel) cx_at2 cx_ot2 (wl_in (i := 597) (by decide +kernel)) (wl_in (i := 21) (by decide +kernel)) rfl dX11_word_58 dX11_word_61 dX11_word_62 dX11_word_64 dX11_word_67 hl.1 (Nat.le_of_ble_eq_true rfl) (Nat.le_of_ble_eq_true rfl) (Nat.le_of_ble_eq_true rfl) (Nat.le_of_ble_eq_true rfl) (Nat.le_of_ble_eq_true rfl) (Nat.le_of_ble_eq_true rfl) h
    · have h := br_F c_2 h
      exact c_throw (k := 3) (text := "there is such a word") C hM (fun _ => rfl) hst hout hlk (by decide +kernel) cx_at3 cx_ot3 (wl_in (i := 638) (by decide +kernel)) (wl_in (i := 22) (by decide +kernel)) rfl dX11_word_36 dX11_word_39 dX11_word_40 dX11_word_42 dX11_word_45 hl.1 (Nat.le_of_ble_eq_true rfl) (Nat.le_of_ble_eq_true rfl) (Nat.le_of_ble_eq_true rfl) (Nat.le_of_ble_eq_true rfl) (Nat.le_of_ble_eq_true rfl) (Nat.le_of_ble_eq_true rfl) h
  · have h := br_T c_1 h
    exact c_throw (k := 1) (text := "not 1 to 8 letters") C hM (fun _ => rfl) hst hout hlk (by decide +kernel) cx_at1 cx_ot1 (wl_in (i := 525) (by decide +kernel)) (wl_in (i := 20) (by decide +kernel)) rfl dX11_word_14 dX11_word_17 dX11_word_18 dX11_word_20 dX11_word_23 hl.1 (Nat.le_of_ble_eq_true rfl) (Nat.le_of_ble_eq_true rfl) (Nat.le_of_ble_eq_true rfl) (Nat.le_of_ble_eq_true rfl) (Nat.le_of_ble_eq_true rfl) (Nat.le_of_ble_eq_true rfl) h
/-! Lorewick.needNoPlay()V -/
abbrev rc_X11_needNoPlay : Room := { frames := 6, cells := 1, slots := 6, locals := 90 }
def fc_X11_needNoPlay (σ : cS) : Option ((Nat ⊕ Unit) × cS) :=
  (fc_X8_isEmpty σ).bind fun r_1 =>
  if r_1.1 = 0 then
    some (.inl 2, r_1.2)
  else
    some (.inr (), r_1.2)
set_option maxHeartbeats 4000000 in
set_option maxRecDepth 100000 in
theorem cc_X11_needNoPlay (l : Launch) (hst : l.stackTraces = false) (D : va_G) (ca : Nat → ClassId) (A : Nat → Prop) (α : cAl) (σ : cS) (o : (Nat ⊕ Unit) × cS) (h : fc_X11_needNoPlay σ  = some o) : cMetX false l yX11_needNoPlay cX11_needNoPlay 1 ((none : Option FieldType)) rc_X11_needNoPlay 1 6 D ca true A α σ [cr α 0 (some 0)] (o.1.map id (fun (_ : Unit) _ => none)) o.2 := by
  refine vx_ofW (cc := cX11_needNoPlay) (maxL := 1) (ret := (none : Option FieldType)) (by decide) rfl ?_
  intro p e s m args below meth c s₁ B hml hout hv
  obtain ⟨rfl, hP, hK, hD0, hSh, hA, hG⟩ := hv
  have C : cC p s m _ c cX11_needNoPlay 1 RX11 D ca A α := ⟨B.exec, B.bytes, hml, findClass_of_methodNamed B.named, fun w hw => atoms_spec (ws := mWs yX11_needNoPlay cX11_needNoPlay 1 ((none : Option FieldType))) B.pre w (List.mem_cons_of_mem _ hw), hK, hG⟩
  have hM : cM D ca true A s.heap σ α σ α s.heap [] := ⟨hP, hD0, hSh, va_S.rf, hA, cX.rf⟩
  have h17 : 0 < cn σ 17 := c_17 hM
  have hr := B.returns
  have hlk := B.notSynchronized
  have hx := C.1
  have hb := C.2.1
  have hl := lv_entry ([cr α 0 (some 0)]) (n := 1) (Nat.le_of_ble_eq_true rfl)
  rw [lg_entry_eq]
  generalize (lg_sl ([cr α 0 (some 0)]) ++ List.replicate (1 - (lg_sl ([cr α 0 (some 0)])).length) Slot.unset).toArray = ls at hl ⊢
  have hl : lv_has ls 1 [(0, cr α 0 (some 0))] := hl
  unfold fc_X11_needNoPlay at h
  refine c_aload_n (t := 0) (x := (some 0)) hx hb dX11_needNoPlay_0 rfl (lv_at hl 0 rfl) ?_
  refine c_getb C hM (k := 0) (f := 3) (j := 0) (t := 4) (hM.cst 0 0 rfl) (by decide) fl_X11_41 dX11_needNoPlay_1 ?_
  obtain ⟨r_1, hr_1, h⟩ := bd_of h
  refine c_go0 (c_rV (As := []) (rest := []) C hM h17 (hM.cst 4 0 rfl) (by decide) (cc_X8_isEmpty l D ca A α σ _ hr_1) cw_X11_532 ⟨rfl, rfl⟩ ⟨Nat.le_of_ble_eq_true rfl, Nat.le_of_ble_eq_true rfl⟩ rfl rfl (cats_le _ (Nat.le_of_ble_eq_true rfl)) hl.1 dX11_needNoPlay_4 ⟨Nat.le_of_ble_eq_true rfl, Nat.le_of_ble_eq_true rfl⟩) hM (fun H locs hM => ?_)
  refine W_st (st' := [.int r_1.1]) rfl ?_
  refine lv_if_ne (tgt := 21) hx hb dX11_needNoPlay_7 (by decide) (fun c_1 => ?_) (fun c_1 => ?_)
  · have h := br_F c_1 h
    refine W.widen (k := 1) (n := 6) (Nat.le_of_ble_eq_true rfl) (Nat.le_of_ble_eq_true rfl) ?_
    exact c_xr h (c_rv (o := r_1.2) C hM (fun _ => rfl) hr hlk dX11_needNoPlay_21 rfl)
  · have h := br_T c_1 h
    exact c_throwW (k := 2) (text := "play has begun") C hM (fun _ => rfl) hst hout hlk (by decide +kernel) cx_at2 cx_ot2 (wl_in (i := 597) (by decide +kernel)) (wl_in (i := 21) (by decide +kernel)) rfl dX11_needNoPlay_10 dX11_needNoPlay_13 dX11_needNoPlay_14 dX11_needNoPlay_17 dX11_needNoPlay_20 hl.1 (Nat.le_of_ble_eq_true rfl) (Nat.le_of_ble_eq_true rfl) (Nat.le_of_ble_eq_true rfl) (Nat.le_of_ble_eq_true rfl) (Nat.le_of_ble_eq_true rfl) (Nat.le_of_ble_eq_true rfl) h
/-! Lorewick.room(Z)I -/
abbrev rc_X11_room : Room := { frames := 7, cells := 2, slots := 12, locals := 110 }
def fc_X11_room (σ : cS) (x1 : Int32) : Option ((Nat ⊕ Int32) × cS) :=
  xb (fc_X11_needNoPlay σ) fun v_1 u_1 =>
  if (cI u_1 2 0 6) < (12 : Int32) then
    if (cI u_1 2 0 6) < 0 ∨ 12 ≤ (cI u_1 2 0 6).toNatClampNeg then none else
    some (.inr ((cI (uI (uI u_1 13 0 (cI u_1 2 0 6).toNatClampNeg (x1 &&& 1)) 2 0 6 ((cI (uI u_1 13 0 (cI u_1 2 0 6).toNatClampNeg (x1 &&& 1)) 2 0 6) + (1 : Int32))) 2 0 6) - (1 : Int32)), (uI (uI u_1 13 0 (cI u_1 2 0 6).toNatClampNeg (x1 &&& 1)) 2 0 6 ((cI (uI u_1 13 0 (cI u_1 2 0 6).toNatClampNeg (x1 &&& 1)) 2 0 6) + (1 : Int32))))
  else
    some (.inl 2, u_1)
set_option maxHeartbeats 4000000 in
set_option maxRecDepth 100000 in
theorem cc_X11_room (l : Launch) (hst : l.stackTraces = false) (D : va_G) (ca : Nat → ClassId) (A : Nat → Prop) (α : cAl) (σ : cS) (x1 : Int32) (o : (Nat ⊕ Int32) × cS) (h : fc_X11_room σ x1 = some o) : cMetX false l yX11_room cX11_room 2 ((some FieldType.int)) rc_X11_room 2 12 D ca true A α σ [cr α 0 (some 0), .int x1] (o.1.map id (fun (v : Int32) _ => some (.int v))) o.2 := by
  refine vx_ofW (cc := cX11_room) (maxL := 2) (ret := (some FieldType.int)) (by decide) rfl ?_
  intro p e s m args below meth c s₁ B hml hout hv
  obtain ⟨rfl, hP, hK, hD0, hSh, hA, hG⟩ := hv
  have C : cC p s m _ c cX11_room 2 RX11 D ca A α := ⟨B.exec, B.bytes, hml, findClass_of_methodNamed B.named, fun w hw => atoms_spec (ws := mWs yX11_room cX11_room 2 ((some FieldType.int))) B.pre w (List.mem_cons_of_mem _ hw), hK, hG⟩
  have hM : cM D ca true A s.heap σ α σ α s.heap [] := ⟨hP, hD0, hSh, va_S.rf, hA, cX.rf⟩
  have h17 : 0 < cn σ 17 := c_17 hM
  have hr := B.returns
  have hlk := B.notSynchronized
  have hx := C.1
  have hb := C.2.1
  have hl := lv_entry ([cr α 0 (some 0), .int x1]) (n := 2) (Nat.le_of_ble_eq_true rfl)
  rw [lg_entry_eq]
  generalize (lg_sl ([cr α 0 (some 0), .int x1]) ++ List.replicate (2 - (lg_sl ([cr α 0 (some 0), .int x1])).length) Slot.unset).toArray = ls at hl ⊢
  have hl : lv_has ls 2 [(0, cr α 0 (some 0)), (1, .int x1)] := hl
  unfold fc_X11_room at h
  refine c_aload_n (t := 0) (x := (some 0)) hx hb dX11_room_0 rfl (lv_at hl 0 rfl) ?_
  obtain ⟨r_1, u_1, hr_1⟩ := xb_some h
  refine c_gox2 (T := (fun (_ : Unit) _ => none)) (T2 := (fun (v : Int32) _ => some (.int v))) h hr_1 (c_rVx (As := []) (rest := []) C hM h17 (hM.cst 0 0 rfl) (by decide) (cc_X11_needNoPlay l hst D ca A α σ _ hr_1) cw_X11_110 ⟨rfl, rfl⟩ ⟨Nat.le_of_ble_eq_true rfl, Nat.le_of_ble_eq_true rfl⟩ rfl rfl (cats_le _ (Nat.le_of_ble_eq_true rfl)) hl.1 dX11_room_1 ⟨Nat.le_of_ble_eq_true rfl, Nat.le_of_ble_eq_true rfl⟩) C hM (fun _ => ⟨rfl, rfl⟩) hout hlk (Nat.le_of_ble_eq_true rfl) (Nat.le_of_ble_eq_true rfl) (fun v_1 H locs α9 hα h hX_1 hM => ?_)
  obtain rfl : α = α9 := (hα rfl).symm
  refine W_st (st' := []) rfl ?_
  refine c_aload_n (t := 0) (x := (some 0)) hx hb dX11_room_4 rfl (lv_at hl 0 rfl) ?_
  refine c_getb C hM (k := 0) (f := 1) (j := 0) (t := 2) (hM.cst 0 0 rfl) (by decide) fl_X11_25 dX11_room_5 ?_
  refine c_geti C hM (k := 2) (f := 6) (hM.cst 2 0 rfl) rfl fl_X11_113 dX11_room_8 ?_
  refine lv_bipush (v := (12 : Int32)) hx hb dX11_room_11 (by decide) ?_
  refine lv_icmp_lt (tgt := 26) hx hb dX11_room_13 (by decide) (fun c_1 => ?_) (fun c_1 => ?_)
  · have h := br_T c_1 h
    refine c_aload_n (t := 0) (x := (some 0)) hx hb dX11_room_26 rfl (lv_at hl 0 rfl) ?_
    refine c_getb C hM (k := 0) (f := 1) (j := 0) (t := 2) (hM.cst 0 0 rfl) (by decide) fl_X11_25 dX11_room_27 ?_
    refine c_getb C hM (k := 2) (f := 2) (j := 0) (t := 13) (hM.cst 2 0 rfl) (by decide) fl_X11_118 dX11_room_30 ?_
    refine c_aload_n (t := 0) (x := (some 0)) hx hb dX11_room_33 rfl (lv_at hl 0 rfl) ?_
    refine c_getb C hM (k := 0) (f := 1) (j := 0) (t := 2) (hM.cst 0 0 rfl) (by decide) fl_X11_25 dX11_room_34 ?_
    refine c_geti C hM (k := 2) (f := 6) (hM.cst 2 0 rfl) rfl fl_X11_113 dX11_room_37 ?_
    refine lv_iload_n hx hb dX11_room_40 rfl (lv_at hl 1 rfl) ?_
    obtain ⟨c_2, h⟩ := ko_of h
    refine c_zast C hM (hM.cst 13 0 rfl) (by rw [hM.ln 13 0 12 (by decide)]; exact c_2) dX11_room_41 (fun H locs hM => ?_)
    refine c_aload_n (t := 0) (x := (some 0)) hx hb dX11_room_42 rfl (lv_at hl 0 rfl) ?_
    refine c_getb C hM (k := 0) (f := 1) (j := 0) (t := 2) (hM.cst 0 0 rfl) (by decide) fl_X11_25 dX11_room_43 ?_
    refine lv_dup hx hb dX11_room_46 cr_cat ?_
    refine c_geti C hM (k := 2) (f := 6) (hM.cst 2 0 rfl) rfl fl_X11_113 dX11_room_47 ?_
    refine lv_iconst (v := (1 : Int32)) hx hb dX11_room_50 (by decide) ?_
    refine lv_iadd hx hb dX11_room_51 ?_
    refine c_puti C hM (k := 2) (f := 6) (hM.cst 2 0 rfl) rfl fl_X11_113 (Or.inl rfl) dX11_room_52 (fun H locs hM => ?_)
    refine c_aload_n (t := 0) (x := (some 0)) hx hb dX11_room_55 rfl (lv_at hl 0 rfl) ?_
    refine c_getb C hM (k := 0) (f := 1) (j := 0) (t := 2) (hM.cst 0 0 rfl) (by decide) fl_X11_25 dX11_room_56 ?_
    refine c_geti C hM (k := 2) (f := 6) (hM.cst 2 0 rfl) rfl fl_X11_113 dX11_room_59 ?_
    refine lv_iconst (v := (1 : Int32)) hx hb dX11_room_62 (by decide) ?_
    refine lv_isub hx hb dX11_room_63 ?_
    refine W.widen (k := 2) (n := 12) (Nat.le_of_ble_eq_true rfl) (Nat.le_of_ble_eq_true rfl) ?_
    exact c_xr h (c_ri (o := (((cI (uI (uI u_1 13 0 (cI u_1 2 0 6).toNatClampNeg (x1 &&& 1)) 2 0 6 ((cI (uI u_1 13 0 (cI u_1 2 0 6).toNatClampNeg (x1 &&& 1)) 2 0 6) + (1 : Int32))) 2 0 6) - (1 : Int32)), (uI (uI u_1 13 0 (cI u_1 2 0 6).toNatClampNeg (x1 &&& 1)) 2 0 6 ((cI (uI u_1 13 0 (cI u_1 2 0 6).toNatClampNeg (x1 &&& 1)) 2 0 6) + (1 : Int32))))) C hM (fun _ => rfl) hr hlk dX11_room_64 rfl)
  · have h := br_F c_1 h
    exact c_throw (k := 2) (text := "there are 12 rooms") C hM (fun _ => rfl) hst hout hlk (by decide +kernel) cx_at2 cx_ot2 (wl_in (i := 597) (by decide +kernel)) (wl_in (i := 21) (by decide +kernel)) rfl dX11_room_16 dX11_room_19 dX11_room_20 dX11_room_22 dX11_room_25 hl.1 (Nat.le_of_ble_eq_true rfl) (Nat.le_of_ble_eq_true rfl) (Nat.le_of_ble_eq_true rfl) (Nat.le_of_ble_eq_true rfl) (Nat.le_of_ble_eq_true rfl) (Nat.le_of_ble_eq_true rfl) h
/-! Lorewick.needRoom(I)V -/
abbrev rc_X11_needRoom : Room := { frames := 6, cells := 1, slots := 6, locals := 90 }
def fc_X11_needRoom (σ : cS) (x1 : Int32) : Option ((Nat ⊕ Unit) × cS) :=
  (fc_X10_hasRoom σ x1).bind fun r_1 =>
  if r_1.1 = 0 then
    some (.inl 4, r_1.2)
  else
    some (.inr (), r_1.2)
set_option maxHeartbeats 4000000 in
set_option maxRecDepth 100000 in
theorem cc_X11_needRoom (l : Launch) (hst : l.stackTraces = false) (D : va_G) (ca : Nat → ClassId) (A : Nat → Prop) (α : cAl) (σ : cS) (x1 : Int32) (o : (Nat ⊕ Unit) × cS) (h : fc_X11_needRoom σ x1 = some o) : cMetX false l yX11_needRoom cX11_needRoom 2 ((none : Option FieldType)) rc_X11_needRoom 1 6 D ca true A α σ [cr α 0 (some 0), .int x1] (o.1.map id (fun (_ : Unit) _ => none)) o.2 := by
  refine vx_ofW (cc := cX11_needRoom) (maxL := 2) (ret := (none : Option FieldType)) (by decide) rfl ?_
  intro p e s m args below meth c s₁ B hml hout hv
  obtain ⟨rfl, hP, hK, hD0, hSh, hA, hG⟩ := hv
  have C : cC p s m _ c cX11_needRoom 2 RX11 D ca A α := ⟨B.exec, B.bytes, hml, findClass_of_methodNamed B.named, fun w hw => atoms_spec (ws := mWs yX11_needRoom cX11_needRoom 2 ((none : Option FieldType))) B.pre w (List.mem_cons_of_mem _ hw), hK, hG⟩
  have hM : cM D ca true A s.heap σ α σ α s.heap [] := ⟨hP, hD0, hSh, va_S.rf, hA, cX.rf⟩
  have h17 : 0 < cn σ 17 := c_17 hM
  have hr := B.returns
  have hlk := B.notSynchronized
  have hx := C.1
  have hb := C.2.1
  have hl := lv_entry ([cr α 0 (some 0), .int x1]) (n := 2) (Nat.le_of_ble_eq_true rfl)
  rw [lg_entry_eq]
  generalize (lg_sl ([cr α 0 (some 0), .int x1]) ++ List.replicate (2 - (lg_sl ([cr α 0 (some 0), .int x1])).length) Slot.unset).toArray = ls at hl ⊢
  have hl : lv_has ls 2 [(0, cr α 0 (some 0)), (1, .int x1)] := hl
  unfold fc_X11_needRoom at h
  refine c_aload_n (t := 0) (x := (some 0)) hx hb dX11_needRoom_0 rfl (lv_at hl 0 rfl) ?_
  refine c_getb C hM (k := 0) (f := 1) (j := 0) (t := 2) (hM.cst 0 0 rfl) (by decide) fl_X11_25 dX11_needRoom_1 ?_
  refine lv_iload_n hx hb dX11_needRoom_4 rfl (lv_at hl 1 rfl) ?_
  obtain ⟨r_1, hr_1, h⟩ := bd_of h
  refine c_go0 (c_rV (As := [.int x1]) (rest := []) C hM h17 (hM.cst 2 0 rfl) (by decide) (cc_X10_hasRoom l D ca A α σ x1 _ hr_1) cw_X11_517 ⟨rfl, rfl⟩ ⟨Nat.le_of_ble_eq_true rfl, Nat.le_of_ble_eq_true rfl⟩ rfl rfl (cats_le _ (Nat.le_of_ble_eq_true rfl)) hl.1 dX11_needRoom_5 ⟨Nat.le_of_ble_eq_true rfl, Nat.le_of_ble_eq_true rfl⟩) hM (fun H locs hM => ?_)
  refine W_st (st' := [.int r_1.1]) rfl ?_
  refine lv_if_ne (tgt := 22) hx hb dX11_needRoom_8 (by decide) (fun c_1 => ?_) (fun c_1 => ?_)
  · have h := br_F c_1 h
    refine W.widen (k := 1) (n := 6) (Nat.le_of_ble_eq_true rfl) (Nat.le_of_ble_eq_true rfl) ?_
    exact c_xr h (c_rv (o := r_1.2) C hM (fun _ => rfl) hr hlk dX11_needRoom_22 rfl)
  · have h := br_T c_1 h
    exact c_throwW (k := 4) (text := "no such room") C hM (fun _ => rfl) hst hout hlk (by decide +kernel) cx_at4 cx_ot4 (wl_in (i := 715) (by decide +kernel)) (wl_in (i := 23) (by decide +kernel)) rfl dX11_needRoom_11 dX11_needRoom_14 dX11_needRoom_15 dX11_needRoom_18 dX11_needRoom_21 hl.1 (Nat.le_of_ble_eq_true rfl) (Nat.le_of_ble_eq_true rfl) (Nat.le_of_ble_eq_true rfl) (Nat.le_of_ble_eq_true rfl) (Nat.le_of_ble_eq_true rfl) (Nat.le_of_ble_eq_true rfl) h
/-! Lorewick.needWord(I)V -/
abbrev rc_X11_needWord : Room := { frames := 6, cells := 1, slots := 6, locals := 90 }
def fc_X11_needWord (σ : cS) (x1 : Int32) : Option ((Nat ⊕ Unit) × cS) :=
  (fc_X10_hasWord σ x1).bind fun r_1 =>
  if r_1.1 = 0 then
    some (.inl 4, r_1.2)
  else
    some (.inr (), r_1.2)
set_option maxHeartbeats 4000000 in
set_option maxRecDepth 100000 in
theorem cc_X11_needWord (l : Launch) (hst : l.stackTraces = false) (D : va_G) (ca : Nat → ClassId) (A : Nat → Prop) (α : cAl) (σ : cS) (x1 : Int32) (o : (Nat ⊕ Unit) × cS) (h : fc_X11_needWord σ x1 = some o) : cMetX false l yX11_needWord cX11_needWord 2 ((none : Option FieldType)) rc_X11_needWord 1 6 D ca true A α σ [cr α 0 (some 0), .int x1] (o.1.map id (fun (_ : Unit) _ => none)) o.2 := by
  refine vx_ofW (cc := cX11_needWord) (maxL := 2) (ret := (none : Option FieldType)) (by decide) rfl ?_
  intro p e s m args below meth c s₁ B hml hout hv
  obtain ⟨rfl, hP, hK, hD0, hSh, hA, hG⟩ := hv
  have C : cC p s m _ c cX11_needWord 2 RX11 D ca A α := ⟨B.exec, B.bytes, hml, findClass_of_methodNamed B.named, fun w hw => atoms_spec (ws := mWs yX11_needWord cX11_needWord 2 ((none : Option FieldType))) B.pre w (List.mem_cons_of_mem _ hw), hK, hG⟩
  have hM : cM D ca true A s.heap σ α σ α s.heap [] := ⟨hP, hD0, hSh, va_S.rf, hA, cX.rf⟩
  have h17 : 0 < cn σ 17 := c_17 hM
  have hr := B.returns
  have hlk := B.notSynchronized
  have hx := C.1
  have hb := C.2.1
  have hl := lv_entry ([cr α 0 (some 0), .int x1]) (n := 2) (Nat.le_of_ble_eq_true rfl)
  rw [lg_entry_eq]
  generalize (lg_sl ([cr α 0 (some 0), .int x1]) ++ List.replicate (2 - (lg_sl ([cr α 0 (some 0), .int x1])).length) Slot.unset).toArray = ls at hl ⊢
  have hl : lv_has ls 2 [(0, cr α 0 (some 0)), (1, .int x1)] := hl
  unfold fc_X11_needWord at h
  refine c_aload_n (t := 0) (x := (some 0)) hx hb dX11_needWord_0 rfl (lv_at hl 0 rfl) ?_
  refine c_getb C hM (k := 0) (f := 1) (j := 0) (t := 2) (hM.cst 0 0 rfl) (by decide) fl_X11_25 dX11_needWord_1 ?_
  refine lv_iload_n hx hb dX11_needWord_4 rfl (lv_at hl 1 rfl) ?_
  obtain ⟨r_1, hr_1, h⟩ := bd_of h
  refine c_go0 (c_rV (As := [.int x1]) (rest := []) C hM h17 (hM.cst 2 0 rfl) (by decide) (cc_X10_hasWord l D ca A α σ x1 _ hr_1) cw_X11_514 ⟨rfl, rfl⟩ ⟨Nat.le_of_ble_eq_true rfl, Nat.le_of_ble_eq_true rfl⟩ rfl rfl (cats_le _ (Nat.le_of_ble_eq_true rfl)) hl.1 dX11_needWord_5 ⟨Nat.le_of_ble_eq_true rfl, Nat.le_of_ble_eq_true rfl⟩) hM (fun H locs hM => ?_)
  refine W_st (st' := [.int r_1.1]) rfl ?_
  refine lv_if_ne (tgt := 22) hx hb dX11_needWord_8 (by decide) (fun c_1 => ?_) (fun c_1 => ?_)
  · have h := br_F c_1 h
    refine W.widen (k := 1) (n := 6) (Nat.le_of_ble_eq_true rfl) (Nat.le_of_ble_eq_true rfl) ?_
    exact c_xr h (c_rv (o := r_1.2) C hM (fun _ => rfl) hr hlk dX11_needWord_22 rfl)
  · have h := br_T c_1 h
    exact c_throwW (k := 4) (text := "no such word") C hM (fun _ => rfl) hst hout hlk (by decide +kernel) cx_at4 cx_ot4 (wl_in (i := 715) (by decide +kernel)) (wl_in (i := 23) (by decide +kernel)) rfl dX11_needWord_11 dX11_needWord_14 dX11_needWord_15 dX11_needWord_18 dX11_needWord_21 hl.1 (Nat.le_of_ble_eq_true rfl) (Nat.le_of_ble_eq_true rfl) (Nat.le_of_ble_eq_true rfl) (Nat.le_of_ble_eq_true rfl) (Nat.le_of_ble_eq_true rfl) (Nat.le_of_ble_eq_true rfl) h
/-! Lorewick.show(II)I -/
abbrev rc_X11_show : Room := { frames := 7, cells := 3, slots := 18, locals := 111 }
def fc_X11_show (σ : cS) (x1 : Int32) (x2 : Int32) : Option ((Nat ⊕ Int32) × cS) :=
  xb (fc_X11_needRoom σ x1) fun v_1 u_1 =>
  xb (fc_X11_needWord u_1 x2) fun v_2 u_2 =>
  xb (fc_X11_needNoPlay u_2) fun v_3 u_3 =>
  if x1 < 0 ∨ 12 ≤ x1.toNatClampNeg then none else
  if x1 < 0 ∨ 12 ≤ x1.toNatClampNeg then none else
  if x1 < 0 ∨ 12 ≤ x1.toNatClampNeg then none else
  (fc_J13_bitCount_95d88 (uJ u_3 15 1 x1.toNatClampNeg ((cJ u_3 15 1 x1.toNatClampNeg) ||| ((1 : Int64) <<< (x2.toInt64 &&& 63)))) (cJ (uJ u_3 15 1 x1.toNatClampNeg ((cJ u_3 15 1 x1.toNatClampNeg) ||| ((1 : Int64) <<< (x2.toInt64 &&& 63)))) 15 1 x1.toNatClampNeg)).bind fun r_4 =>
  some (.inr r_4.1, r_4.2)
set_option maxHeartbeats 4000000 in
set_option maxRecDepth 100000 in
theorem cc_X11_show (l : Launch) (hst : l.stackTraces = false) (D : va_G) (ca : Nat → ClassId) (A : Nat → Prop) (α : cAl) (σ : cS) (x1 : Int32) (x2 : Int32) (o : (Nat ⊕ Int32) × cS) (h : fc_X11_show σ x1 x2 = some o) : cMetX false l yX11_show cX11_show 3 ((some FieldType.int)) rc_X11_show 3 18 D ca true A α σ [cr α 0 (some 0), .int x1, .int x2] (o.1.map id (fun (v : Int32) _ => some (.int v))) o.2 := by
  refine vx_ofW (cc := cX11_show) (maxL := 3) (ret := (some FieldType.int)) (by decide) rfl ?_
  intro p e s m args below meth c s₁ B hml hout hv
  obtain ⟨rfl, hP, hK, hD0, hSh, hA, hG⟩ := hv
  have C : cC p s m _ c cX11_show 3 RX11 D ca A α := ⟨B.exec, B.bytes, hml, findClass_of_methodNamed B.named, fun w hw => atoms_spec (ws := mWs yX11_show cX11_show 3 ((some FieldType.int))) B.pre w (List.mem_cons_of_mem _ hw), hK, hG⟩
  have hM : cM D ca true A s.heap σ α σ α s.heap [] := ⟨hP, hD0, hSh, va_S.rf, hA, cX.rf⟩
  have h17 : 0 < cn σ 17 := c_17 hM
  have hr := B.returns
  have hlk := B.notSynchronized
  have hx := C.1
  have hb := C.2.1
  have hl := lv_entry ([cr α 0 (some 0), .int x1, .int x2]) (n := 3) (Nat.le_of_ble_eq_true rfl)
  rw [lg_entry_eq]
  generalize (lg_sl ([cr α 0 (some 0), .int x1, .int x2]) ++ List.replicate (3 - (lg_sl ([cr α 0 (some 0), .int x1, .int x2])).length) Slot.unset).toArray = ls at hl ⊢
  have hl : lv_has ls 3 [(0, cr α 0 (some 0)), (1, .int x1), (2, .int x2)] := hl
  unfold fc_X11_show at h
  refine c_aload_n (t := 0) (x := (some 0)) hx hb dX11_show_0 rfl (lv_at hl 0 rfl) ?_
  refine lv_iload_n hx hb dX11_show_1 rfl (lv_at hl 1 rfl) ?_
  obtain ⟨r_1, u_1, hr_1⟩ := xb_some h
  refine c_gox2 (T := (fun (_ : Unit) _ => none)) (T2 := (fun (v : Int32) _ => some (.int v))) h hr_1 (c_rVx (As := [.int x1]) (rest := []) C hM h17 (hM.cst 0 0 rfl) (by decide) (cc_X11_needRoom l hst D ca A α σ x1 _ hr_1) cw_X11_122 ⟨rfl, rfl⟩ ⟨Nat.le_of_ble_eq_true rfl, Nat.le_of_ble_eq_true rfl⟩ rfl rfl (cats_le _ (Nat.le_of_ble_eq_true rfl)) hl.1 dX11_show_2 ⟨Nat.le_of_ble_eq_true rfl, Nat.le_of_ble_eq_true rfl⟩) C hM (fun _ => ⟨rfl, rfl⟩) hout hlk (Nat.le_of_ble_eq_true rfl) (Nat.le_of_ble_eq_true rfl) (fun v_1 H locs α9 hα h hX_1 hM => ?_)
  obtain rfl : α = α9 := (hα rfl).symm
  refine W_st (st' := []) rfl ?_
  refine c_aload_n (t := 0) (x := (some 0)) hx hb dX11_show_5 rfl (lv_at hl 0 rfl) ?_
  refine lv_iload_n hx hb dX11_show_6 rfl (lv_at hl 2 rfl) ?_
  obtain ⟨r_2, u_2, hr_2⟩ := xb_some h
  refine c_gox2 (T := (fun (_ : Unit) _ => none)) (T2 := (fun (v : Int32) _ => some (.int v))) h hr_2 (c_rVx (As := [.int x2]) (rest := []) C hM h17 (hM.cst 0 0 rfl) (by decide) (cc_X11_needWord l hst D ca A α u_1 x2 _ hr_2) cw_X11_126 ⟨rfl, rfl⟩ ⟨Nat.le_of_ble_eq_true rfl, Nat.le_of_ble_eq_true rfl⟩ rfl rfl (cats_le _ (Nat.le_of_ble_eq_true rfl)) hl.1 dX11_show_7 ⟨Nat.le_of_ble_eq_true rfl, Nat.le_of_ble_eq_true rfl⟩) C hM (fun _ => ⟨rfl, rfl⟩) hout hlk (Nat.le_of_ble_eq_true rfl) (Nat.le_of_ble_eq_true rfl) (fun v_2 H locs α9 hα h hX_2 hM => ?_)
  obtain rfl : α = α9 := (hα rfl).symm
  refine W_st (st' := []) rfl ?_
  refine c_aload_n (t := 0) (x := (some 0)) hx hb dX11_show_10 rfl (lv_at hl 0 rfl) ?_
  obtain ⟨r_3, u_3, hr_3⟩ := xb_some h
  refine c_gox2 (T := (fun (_ : Unit) _ => none)) (T2 := (fun (v : Int32) _ => some (.int v))) h hr_3 (c_rVx (As := []) (rest := []) C hM h17 (hM.cst 0 0 rfl) (by decide) (cc_X11_needNoPlay l hst D ca A α u_2 _ hr_3) cw_X11_110 ⟨rfl, rfl⟩ ⟨Nat.le_of_ble_eq_true rfl, Nat.le_of_ble_eq_true rfl⟩ rfl rfl (cats_le _ (Nat.le_of_ble_eq_true rfl)) hl.1 dX11_show_11 ⟨Nat.le_of_ble_eq_true rfl, Nat.le_of_ble_eq_true rfl⟩) C hM (fun _ => ⟨rfl, rfl⟩) hout hlk (Nat.le_of_ble_eq_true rfl) (Nat.le_of_ble_eq_true rfl) (fun v_3 H locs α9 hα h hX_3 hM => ?_)
  obtain rfl : α = α9 := (hα rfl).symm
  refine W_st (st' := []) rfl ?_
  refine c_aload_n (t := 0) (x := (some 0)) hx hb dX11_show_14 rfl (lv_at hl 0 rfl) ?_
  refine c_getb C hM (k := 0) (f := 1) (j := 0) (t := 2) (hM.cst 0 0 rfl) (by decide) fl_X11_25 dX11_show_15 ?_
  refine c_getb C hM (k := 2) (f := 3) (j := 1) (t := 15) (hM.cst 2 0 rfl) (by decide) fl_X11_129 dX11_show_18 ?_
  refine lv_iload_n hx hb dX11_show_21 rfl (lv_at hl 1 rfl) ?_
  refine lv_dup2_11 hx hb dX11_show_22 rfl cr_cat ?_
  obtain ⟨c_1, h⟩ := ko_of h
  refine c_lald C hM (hM.cst 15 1 rfl) (by rw [hM.ln 15 1 12 (by decide)]; exact c_1) dX11_show_23 ?_
  refine lv_lconst (v := (1 : Int64)) hx hb dX11_show_24 (by decide) ?_
  refine lv_iload_n hx hb dX11_show_25 rfl (lv_at hl 2 rfl) ?_
  refine lv_lshl (v := ((1 : Int64) <<< (x2.toInt64 &&& 63))) hx hb dX11_show_26 rfl ?_
  refine lv_lor hx hb dX11_show_27 ?_
  obtain ⟨c_2, h⟩ := ko_of h
  refine c_last C hM (hM.cst 15 1 rfl) (by rw [hM.ln 15 1 12 (by decide)]; exact c_2) dX11_show_28 (fun H locs hM => ?_)
  refine c_aload_n (t := 0) (x := (some 0)) hx hb dX11_show_29 rfl (lv_at hl 0 rfl) ?_
  refine c_getb C hM (k := 0) (f := 1) (j := 0) (t := 2) (hM.cst 0 0 rfl) (by decide) fl_X11_25 dX11_show_30 ?_
  refine c_getb C hM (k := 2) (f := 3) (j := 1) (t := 15) (hM.cst 2 0 rfl) (by decide) fl_X11_129 dX11_show_33 ?_
  refine lv_iload_n hx hb dX11_show_36 rfl (lv_at hl 1 rfl) ?_
  obtain ⟨c_3, h⟩ := ko_of h
  refine c_lald C hM (hM.cst 15 1 rfl) (by rw [hM.ln 15 1 12 (by decide)]; exact c_3) dX11_show_37 ?_
  obtain ⟨r_4, hr_4, h⟩ := bd_of h
  refine c_go0 (c_rS (As := [.long (cJ (uJ u_3 15 1 x1.toNatClampNeg ((cJ u_3 15 1 x1.toNatClampNeg) ||| ((1 : Int64) <<< (x2.toInt64 &&& 63)))) 15 1 x1.toNatClampNeg)]) (rest := []) C hM h17 (cc_J13_bitCount_95d88 l D ca A α (uJ u_3 15 1 x1.toNatClampNeg ((cJ u_3 15 1 x1.toNatClampNeg) ||| ((1 : Int64) <<< (x2.toInt64 &&& 63)))) (cJ (uJ u_3 15 1 x1.toNatClampNeg ((cJ u_3 15 1 x1.toNatClampNeg) ||| ((1 : Int64) <<< (x2.toInt64 &&& 63)))) 15 1 x1.toNatClampNeg) _ hr_4) cw_X11_132 ⟨rfl, rfl⟩ ⟨Nat.le_of_ble_eq_true rfl, Nat.le_of_ble_eq_true rfl⟩ rfl rfl (cats_le _ (Nat.le_of_ble_eq_true rfl)) hl.1 dX11_show_38 ⟨Nat.le_of_ble_eq_true rfl, Nat.le_of_ble_eq_true rfl⟩) hM (fun H locs hM => ?_)
  refine W_st (st' := [.int r_4.1]) rfl ?_
  exact c_xr h (c_ri (o := (r_4.1, r_4.2)) C hM (fun _ => rfl) hr hlk dX11_show_41 rfl)
/-! Lorewick.exitIn(IC)I -/
abbrev rc_X11_exitIn : Room := { frames := 6, cells := 1, slots := 6, locals := 91 }
def fc_X11_exitIn (σ : cS) (x1 : Int32) (x2 : Int32) : Option ((Nat ⊕ Int32) × cS) :=
  (fc_J0_indexOf_0f7a4 σ (some 14) x2).bind fun r_1 =>
  if 0 ≤ r_1.1 then
    some (.inr ((x1 * (6 : Int32)) + r_1.1), r_1.2)
  else
    some (.inl 1, r_1.2)
set_option maxHeartbeats 4000000 in
set_option maxRecDepth 100000 in
theorem cc_X11_exitIn (l : Launch) (hst : l.stackTraces = false) (D : va_G) (ca : Nat → ClassId) (A : Nat → Prop) (α : cAl) (σ : cS) (x1 : Int32) (x2 : Int32) (o : (Nat ⊕ Int32) × cS) (h : fc_X11_exitIn σ x1 x2 = some o) : cMetX false l yX11_exitIn cX11_exitIn 4 ((some FieldType.int)) rc_X11_exitIn 1 6 D ca true A α σ [cr α 0 (some 0), .int x1, .int x2] (o.1.map id (fun (v : Int32) _ => some (.int v))) o.2 := by
  refine vx_ofW (cc := cX11_exitIn) (maxL := 4) (ret := (some FieldType.int)) (by decide) rfl ?_
  intro p e s m args below meth c s₁ B hml hout hv
  obtain ⟨rfl, hP, hK, hD0, hSh, hA, hG⟩ := hv
  have C : cC p s m _ c cX11_exitIn 4 RX11 D ca A α := ⟨B.exec, B.bytes, hml, findClass_of_methodNamed B.named, fun w hw => atoms_spec (ws := mWs yX11_exitIn cX11_exitIn 4 ((some FieldType.int))) B.pre w (List.mem_cons_of_mem _ hw), hK, hG⟩
  have hM : cM D ca true A s.heap σ α σ α s.heap [] := ⟨hP, hD0, hSh, va_S.rf, hA, cX.rf⟩
  have h17 : 0 < cn σ 17 := c_17 hM
  have hr := B.returns
  have hlk := B.notSynchronized
  have hx := C.1
  have hb := C.2.1
  have hl := lv_entry ([cr α 0 (some 0), .int x1, .int x2]) (n := 4) (Nat.le_of_ble_eq_true rfl)
  rw [lg_entry_eq]
  generalize (lg_sl ([cr α 0 (some 0), .int x1, .int x2]) ++ List.replicate (4 - (lg_sl ([cr α 0 (some 0), .int x1, .int x2])).length) Slot.unset).toArray = ls at hl ⊢
  have hl : lv_has ls 4 [(0, cr α 0 (some 0)), (1, .int x1), (2, .int x2)] := hl
  unfold fc_X11_exitIn at h
  refine c_ldct (t := 14) C hM (by decide) dX11_exitIn_0 ?_
  refine lv_iload_n hx hb dX11_exitIn_3 rfl (lv_at hl 2 rfl) ?_
  obtain ⟨r_1, hr_1, h⟩ := bd_of h
  refine c_go0 (c_rT (As := [.int x2]) (rest := []) C hM h17 (show dt (some 14) = some 14 from rfl) (cc_J0_indexOf_0f7a4 l D ca A α σ (some 14) x2 _ hr_1) cw_X11_547 ⟨rfl, rfl⟩ ⟨Nat.le_of_ble_eq_true rfl, Nat.le_of_ble_eq_true rfl⟩ rfl rfl (cats_le _ (Nat.le_of_ble_eq_true rfl)) hl.1 dX11_exitIn_4 ⟨Nat.le_of_ble_eq_true rfl, Nat.le_of_ble_eq_true rfl⟩) hM (fun H locs hM => ?_)
  refine W_st (st' := [.int r_1.1]) rfl ?_
  refine lv_istore_n (lv' := [(3, .int r_1.1), (0, cr α 0 (some 0)), (1, .int x1), (2, .int x2)]) hx hb dX11_exitIn_7 rfl hl (by decide) rfl (fun ls hl => ?_)
  refine lv_iload_n hx hb dX11_exitIn_8 rfl (lv_at hl 0 rfl) ?_
  refine lv_if_ge (tgt := 23) hx hb dX11_exitIn_9 (by decide) (fun c_1 => ?_) (fun c_1 => ?_)
  · have h := br_T c_1 h
    refine lv_iload_n hx hb dX11_exitIn_23 rfl (lv_at hl 2 rfl) ?_
    refine lv_bipush (v := (6 : Int32)) hx hb dX11_exitIn_24 (by decide) ?_
    refine lv_imul hx hb dX11_exitIn_26 ?_
    refine lv_iload_n hx hb dX11_exitIn_27 rfl (lv_at hl 0 rfl) ?_
    refine lv_iadd hx hb dX11_exitIn_28 ?_
    refine W.widen (k := 1) (n := 6) (Nat.le_of_ble_eq_true rfl) (Nat.le_of_ble_eq_true rfl) ?_
    exact c_xr h (c_ri (o := (((x1 * (6 : Int32)) + r_1.1), r_1.2)) C hM (fun _ => rfl) hr hlk dX11_exitIn_29 rfl)
  · have h := br_F c_1 h
    exact c_throwW (k := 1) (text := "no such direction") C hM (fun _ => rfl) hst hout hlk (by decide +kernel) cx_at1 cx_ot1 (wl_in (i := 525) (by decide +kernel)) (wl_in (i := 20) (by decide +kernel)) rfl dX11_exitIn_12 dX11_exitIn_15 dX11_exitIn_16 dX11_exitIn_19 dX11_exitIn_22 hl.1 (Nat.le_of_ble_eq_true rfl) (Nat.le_of_ble_eq_true rfl) (Nat.le_of_ble_eq_true rfl) (Nat.le_of_ble_eq_true rfl) (Nat.le_of_ble_eq_true rfl) (Nat.le_of_ble_eq_true rfl) h
/-! Lorewick.exit(ICI)I -/
abbrev rc_X11_exit : Room := { frames := 7, cells := 4, slots := 24, locals := 114 }
def fc_X11_exit (σ : cS) (x1 : Int32) (x2 : Int32) (x3 : Int32) : Option ((Nat ⊕ Int32) × cS) :=
  xb (fc_X11_needRoom σ x1) fun v_1 u_1 =>
  xb (fc_X11_needRoom u_1 x3) fun v_2 u_2 =>
  xb (fc_X11_exitIn u_2 x1 x2) fun v_3 u_3 =>
  xb (fc_X11_needNoPlay u_3) fun v_4 u_4 =>
  if v_3 < 0 ∨ 72 ≤ v_3.toNatClampNeg then none else
  if v_3 < 0 ∨ 72 ≤ v_3.toNatClampNeg then none else
  if v_3 < 0 ∨ 72 ≤ v_3.toNatClampNeg then none else
  some (.inr (cI u_4 12 2 v_3.toNatClampNeg), (uI (uI u_4 12 2 v_3.toNatClampNeg x3) 12 3 v_3.toNatClampNeg (-1 : Int32)))
set_option maxHeartbeats 4000000 in
set_option maxRecDepth 100000 in
theorem cc_X11_exit (l : Launch) (hst : l.stackTraces = false) (D : va_G) (ca : Nat → ClassId) (A : Nat → Prop) (α : cAl) (σ : cS) (x1 : Int32) (x2 : Int32) (x3 : Int32) (o : (Nat ⊕ Int32) × cS) (h : fc_X11_exit σ x1 x2 x3 = some o) : cMetX false l yX11_exit cX11_exit 6 ((some FieldType.int)) rc_X11_exit 4 24 D ca true A α σ [cr α 0 (some 0), .int x1, .int x2, .int x3] (o.1.map id (fun (v : Int32) _ => some (.int v))) o.2 := by
  refine vx_ofW (cc := cX11_exit) (maxL := 6) (ret := (some FieldType.int)) (by decide) rfl ?_
  intro p e s m args below meth c s₁ B hml hout hv
  obtain ⟨rfl, hP, hK, hD0, hSh, hA, hG⟩ := hv
  have C : cC p s m _ c cX11_exit 6 RX11 D ca A α := ⟨B.exec, B.bytes, hml, findClass_of_methodNamed B.named, fun w hw => atoms_spec (ws := mWs yX11_exit cX11_exit 6 ((some FieldType.int))) B.pre w (List.mem_cons_of_mem _ hw), hK, hG⟩
  have hM : cM D ca true A s.heap σ α σ α s.heap [] := ⟨hP, hD0, hSh, va_S.rf, hA, cX.rf⟩
  have h17 : 0 < cn σ 17 := c_17 hM
  have hr := B.returns
  have hlk := B.notSynchronized
  have hx := C.1
  have hb := C.2.1
  have hl := lv_entry ([cr α 0 (some 0), .int x1, .int x2, .int x3]) (n := 6) (Nat.le_of_ble_eq_true rfl)
  rw [lg_entry_eq]
  generalize (lg_sl ([cr α 0 (some 0), .int x1, .int x2, .int x3]) ++ List.replicate (6 - (lg_sl ([cr α 0 (some 0), .int x1, .int x2, .int x3])).length) Slot.unset).toArray = ls at hl ⊢
  have hl : lv_has ls 6 [(0, cr α 0 (some 0)), (1, .int x1), (2, .int x2), (3, .int x3)] := hl
  unfold fc_X11_exit at h
  refine c_aload_n (t := 0) (x := (some 0)) hx hb dX11_exit_0 rfl (lv_at hl 0 rfl) ?_
  refine lv_iload_n hx hb dX11_exit_1 rfl (lv_at hl 1 rfl) ?_
  obtain ⟨r_1, u_1, hr_1⟩ := xb_some h
  refine c_gox2 (T := (fun (_ : Unit) _ => none)) (T2 := (fun (v : Int32) _ => some (.int v))) h hr_1 (c_rVx (As := [.int x1]) (rest := []) C hM h17 (hM.cst 0 0 rfl) (by decide) (cc_X11_needRoom l hst D ca A α σ x1 _ hr_1) cw_X11_122 ⟨rfl, rfl⟩ ⟨Nat.le_of_ble_eq_true rfl, Nat.le_of_ble_eq_true rfl⟩ rfl rfl (cats_le _ (Nat.le_of_ble_eq_true rfl)) hl.1 dX11_exit_2 ⟨Nat.le_of_ble_eq_true rfl, Nat.le_of_ble_eq_true rfl⟩) C hM (fun _ => ⟨rfl, rfl⟩) hout hlk (Nat.le_of_ble_eq_true rfl) (Nat.le_of_ble_eq_true rfl) (fun v_1 H locs α9 hα h hX_1 hM => ?_)
  obtain rfl : α = α9 := (hα rfl).symm
  refine W_st (st' := []) rfl ?_
  refine c_aload_n (t := 0) (x := (some 0)) hx hb dX11_exit_5 rfl (lv_at hl 0 rfl) ?_
  refine lv_iload_n hx hb dX11_exit_6 rfl (lv_at hl 3 rfl) ?_
  obtain ⟨r_2, u_2, hr_2⟩ := xb_some h
  refine c_gox2 (T := (fun (_ : Unit) _ => none)) (T2 := (fun (v : Int32) _ => some (.int v))) h hr_2 (c_rVx (As := [.int x3]) (rest := []) C hM h17 (hM.cst 0 0 rfl) (by decide) (cc_X11_needRoom l hst D ca A α u_1 x3 _ hr_2) cw_X11_122 ⟨rfl, rfl⟩ ⟨Nat.le_of_ble_eq_true rfl, Nat.le_of_ble_eq_true rfl⟩ rfl rfl (cats_le _ (Nat.le_of_ble_eq_true rfl)) hl.1 dX11_exit_7 ⟨Nat.le_of_ble_eq_true rfl, Nat.le_of_ble_eq_true rfl⟩) C hM (fun _ => ⟨rfl, rfl⟩) hout hlk (Nat.le_of_ble_eq_true rfl) (Nat.le_of_ble_eq_true rfl) (fun v_2 H locs α9 hα h hX_2 hM => ?_)
  obtain rfl : α = α9 := (hα rfl).symm
  refine W_st (st' := []) rfl ?_
  refine c_aload_n (t := 0) (x := (some 0)) hx hb dX11_exit_10 rfl (lv_at hl 0 rfl) ?_
  refine lv_iload_n hx hb dX11_exit_11 rfl (lv_at hl 1 rfl) ?_
  refine lv_iload_n hx hb dX11_exit_12 rfl (lv_at hl 2 rfl) ?_
  obtain ⟨r_3, u_3, hr_3⟩ := xb_some h
  refine c_gox2 (T := (fun (v : Int32) _ => some (.int v))) (T2 := (fun (v : Int32) _ => some (.int v))) h hr_3 (c_rVx (As := [.int x1, .int x2]) (rest := []) C hM h17 (hM.cst 0 0 rfl) (by decide) (cc_X11_exitIn l hst D ca A α u_2 x1 x2 _ hr_3) cw_X11_137 ⟨rfl, rfl⟩ ⟨Nat.le_of_ble_eq_true rfl, Nat.le_of_ble_eq_true rfl⟩ rfl rfl (cats_le _ (Nat.le_of_ble_eq_true rfl)) hl.1 dX11_exit_13 ⟨Nat.le_of_ble_eq_true rfl, Nat.le_of_ble_eq_true rfl⟩) C hM (fun _ => ⟨rfl, rfl⟩) hout hlk (Nat.le_of_ble_eq_true rfl) (Nat.le_of_ble_eq_true rfl) (fun v_3 H locs α9 hα h hX_3 hM => ?_)
  obtain rfl : α = α9 := (hα rfl).symm
  refine W_st (st' := [.int v_3]) rfl ?_
  refine lv_istore (lv' := [(4, .int v_3), (0, cr α 0 (some 0)), (1, .int x1), (2, .int x2), (3, .int x3)]) hx hb dX11_exit_16 hl (by decide) rfl (fun ls hl => ?_)
  refine c_aload_n (t := 0) (x := (some 0)) hx hb dX11_exit_18 rfl (lv_at hl 1 rfl) ?_
  obtain ⟨r_4, u_4, hr_4⟩ := xb_some h
  refine c_gox2 (T := (fun (_ : Unit) _ => none)) (T2 := (fun (v : Int32) _ => some (.int v))) h hr_4 (c_rVx (As := []) (rest := []) C hM h17 (hM.cst 0 0 rfl) (by decide) (cc_X11_needNoPlay l hst D ca A α u_3 _ hr_4) cw_X11_110 ⟨rfl, rfl⟩ ⟨Nat.le_of_ble_eq_true rfl, Nat.le_of_ble_eq_true rfl⟩ rfl rfl (cats_le _ (Nat.le_of_ble_eq_true rfl)) hl.1 dX11_exit_19 ⟨Nat.le_of_ble_eq_true rfl, Nat.le_of_ble_eq_true rfl⟩) C hM (fun _ => ⟨rfl, rfl⟩) hout hlk (Nat.le_of_ble_eq_true rfl) (Nat.le_of_ble_eq_true rfl) (fun v_4 H locs α9 hα h hX_4 hM => ?_)
  obtain rfl : α = α9 := (hα rfl).symm
  refine W_st (st' := []) rfl ?_
  refine c_aload_n (t := 0) (x := (some 0)) hx hb dX11_exit_22 rfl (lv_at hl 1 rfl) ?_
  refine c_getb C hM (k := 0) (f := 1) (j := 0) (t := 2) (hM.cst 0 0 rfl) (by decide) fl_X11_25 dX11_exit_23 ?_
  refine c_getb C hM (k := 2) (f := 4) (j := 2) (t := 12) (hM.cst 2 0 rfl) (by decide) fl_X11_141 dX11_exit_26 ?_
  refine lv_iload hx hb dX11_exit_29 (lv_at hl 0 rfl) ?_
  obtain ⟨c_1, h⟩ := ko_of h
  refine c_iald C hM (hM.cst 12 2 rfl) (by rw [hM.ln 12 2 72 (by decide)]; exact c_1) dX11_exit_31 ?_
  refine lv_istore (lv' := [(5, .int (cI u_4 12 2 v_3.toNatClampNeg)), (4, .int v_3), (0, cr α 0 (some 0)), (1, .int x1), (2, .int x2), (3, .int x3)]) hx hb dX11_exit_32 hl (by decide) rfl (fun ls hl => ?_)
  refine c_aload_n (t := 0) (x := (some 0)) hx hb dX11_exit_34 rfl (lv_at hl 2 rfl) ?_
  refine c_getb C hM (k := 0) (f := 1) (j := 0) (t := 2) (hM.cst 0 0 rfl) (by decide) fl_X11_25 dX11_exit_35 ?_
  refine c_getb C hM (k := 2) (f := 4) (j := 2) (t := 12) (hM.cst 2 0 rfl) (by decide) fl_X11_141 dX11_exit_38 ?_
  refine lv_iload hx hb dX11_exit_41 (lv_at hl 1 rfl) ?_
  refine lv_iload_n hx hb dX11_exit_43 rfl (lv_at hl 5 rfl) ?_
  obtain ⟨c_2, h⟩ := ko_of h
  refine c_iast C hM (hM.cst 12 2 rfl) (by rw [hM.ln 12 2 72 (by decide)]; exact c_2) dX11_exit_44 (fun H locs hM => ?_)
  refine c_aload_n (t := 0) (x := (some 0)) hx hb dX11_exit_45 rfl (lv_at hl 2 rfl) ?_
  refine c_getb C hM (k := 0) (f := 1) (j := 0) (t := 2) (hM.cst 0 0 rfl) (by decide) fl_X11_25 dX11_exit_46 ?_
  refine c_getb C hM (k := 2) (f := 5) (j := 3) (t := 12) (hM.cst 2 0 rfl) (by decide) fl_X11_145 dX11_exit_49 ?_
  refine lv_iload hx hb dX11_exit_52 (lv_at hl 1 rfl) ?_
  refine lv_iconst (v := (-1 : Int32)) hx hb dX11_exit_54 (by decide) ?_
  obtain ⟨c_3, h⟩ := ko_of h
  refine c_iast C hM (hM.cst 12 3 rfl) (by rw [hM.ln 12 3 72 (by decide)]; exact c_3) dX11_exit_55 (fun H locs hM => ?_)
  refine lv_iload hx hb dX11_exit_56 (lv_at hl 0 rfl) ?_
  exact c_xr h (c_ri (o := ((cI u_4 12 2 v_3.toNatClampNeg), (uI (uI u_4 12 2 v_3.toNatClampNeg x3) 12 3 v_3.toNatClampNeg (-1 : Int32)))) C hM (fun _ => rfl) hr hlk dX11_exit_58 rfl)
/-! Lorewick.needThing(I)V -/
abbrev rc_X11_needThing : Room := { frames := 6, cells := 1, slots := 6, locals := 90 }
def fc_X11_needThing (σ : cS) (x1 : Int32) : Option ((Nat ⊕ Unit) × cS) :=
  (fc_X10_hasThing σ x1).bind fun r_1 =>
  if r_1.1 = 0 then
    some (.inl 4, r_1.2)
  else
    some (.inr (), r_1.2)
set_option maxHeartbeats 4000000 in
set_option maxRecDepth 100000 in
theorem cc_X11_needThing (l : Launch) (hst : l.stackTraces = false) (D : va_G) (ca : Nat → ClassId) (A : Nat → Prop) (α : cAl) (σ : cS) (x1 : Int32) (o : (Nat ⊕ Unit) × cS) (h : fc_X11_needThing σ x1 = some o) : cMetX false l yX11_needThing cX11_needThing 2 ((none : Option FieldType)) rc_X11_needThing 1 6 D ca true A α σ [cr α 0 (some 0), .int x1] (o.1.map id (fun (_ : Unit) _ => none)) o.2 := by
  refine vx_ofW (cc := cX11_needThing) (maxL := 2) (ret := (none : Option FieldType)) (by decide) rfl ?_
  intro p e s m args below meth c s₁ B hml hout hv
  obtain ⟨rfl, hP, hK, hD0, hSh, hA, hG⟩ := hv
  have C : cC p s m _ c cX11_needThing 2 RX11 D ca A α := ⟨B.exec, B.bytes, hml, findClass_of_methodNamed B.named, fun w hw => atoms_spec (ws := mWs yX11_needThing cX11_needThing 2 ((none : Option FieldType))) B.pre w (List.mem_cons_of_mem _ hw), hK, hG⟩
  have hM : cM D ca true A s.heap σ α σ α s.heap [] := ⟨hP, hD0, hSh, va_S.rf, hA, cX.rf⟩
  have h17 : 0 < cn σ 17 := c_17 hM
  have hr := B.returns
  have hlk := B.notSynchronized
  have hx := C.1
  have hb := C.2.1
  have hl := lv_entry ([cr α 0 (some 0), .int x1]) (n := 2) (Nat.le_of_ble_eq_true rfl)
  rw [lg_entry_eq]
  generalize (lg_sl ([cr α 0 (some 0), .int x1]) ++ List.replicate (2 - (lg_sl ([cr α 0 (some 0), .int x1])).length) Slot.unset).toArray = ls at hl ⊢
  have hl : lv_has ls 2 [(0, cr α 0 (some 0)), (1, .int x1)] := hl
  unfold fc_X11_needThing at h
  refine c_aload_n (t := 0) (x := (some 0)) hx hb dX11_needThing_0 rfl (lv_at hl 0 rfl) ?_
  refine c_getb C hM (k := 0) (f := 1) (j := 0) (t := 2) (hM.cst 0 0 rfl) (by decide) fl_X11_25 dX11_needThing_1 ?_
  refine lv_iload_n hx hb dX11_needThing_4 rfl (lv_at hl 1 rfl) ?_
  obtain ⟨r_1, hr_1, h⟩ := bd_of h
  refine c_go0 (c_rV (As := [.int x1]) (rest := []) C hM h17 (hM.cst 2 0 rfl) (by decide) (cc_X10_hasThing l D ca A α σ x1 _ hr_1) cw_X11_522 ⟨rfl, rfl⟩ ⟨Nat.le_of_ble_eq_true rfl, Nat.le_of_ble_eq_true rfl⟩ rfl rfl (cats_le _ (Nat.le_of_ble_eq_true rfl)) hl.1 dX11_needThing_5 ⟨Nat.le_of_ble_eq_true rfl, Nat.le_of_ble_eq_true rfl⟩) hM (fun H locs hM => ?_)
  refine W_st (st' := [.int r_1.1]) rfl ?_
  refine lv_if_ne (tgt := 22) hx hb dX11_needThing_8 (by decide) (fun c_1 => ?_) (fun c_1 => ?_)
  · have h := br_F c_1 h
    refine W.widen (k := 1) (n := 6) (Nat.le_of_ble_eq_true rfl) (Nat.le_of_ble_eq_true rfl) ?_
    exact c_xr h (c_rv (o := r_1.2) C hM (fun _ => rfl) hr hlk dX11_needThing_22 rfl)
  · have h := br_T c_1 h
    exact c_throwW (k := 4) (text := "no such thing") C hM (fun _ => rfl) hst hout hlk (by decide +kernel) cx_at4 cx_ot4 (wl_in (i := 715) (by decide +kernel)) (wl_in (i := 23) (by decide +kernel)) rfl dX11_needThing_11 dX11_needThing_14 dX11_needThing_15 dX11_needThing_18 dX11_needThing_21 hl.1 (Nat.le_of_ble_eq_true rfl) (Nat.le_of_ble_eq_true rfl) (Nat.le_of_ble_eq_true rfl) (Nat.le_of_ble_eq_true rfl) (Nat.le_of_ble_eq_true rfl) (Nat.le_of_ble_eq_true rfl) h
/-! Lorewick.lock(ICI)I -/
abbrev rc_X11_lock : Room := { frames := 7, cells := 4, slots := 24, locals := 114 }
def fc_X11_lock (σ : cS) (x1 : Int32) (x2 : Int32) (x3 : Int32) : Option ((Nat ⊕ Int32) × cS) :=
  xb (fc_X11_needRoom σ x1) fun v_1 u_1 =>
  xb (fc_X11_needThing u_1 x3) fun v_2 u_2 =>
  xb (fc_X11_exitIn u_2 x1 x2) fun v_3 u_3 =>
  if v_3 < 0 ∨ 72 ≤ v_3.toNatClampNeg then none else
  if (cI u_3 12 2 v_3.toNatClampNeg) = (-1 : Int32) then
    some (.inl 3, u_3)
  else
    xb (fc_X11_needNoPlay u_3) fun v_4 u_4 =>
    if v_3 < 0 ∨ 72 ≤ v_3.toNatClampNeg then none else
    if v_3 < 0 ∨ 72 ≤ v_3.toNatClampNeg then none else
    some (.inr (cI u_4 12 3 v_3.toNatClampNeg), (uI u_4 12 3 v_3.toNatClampNeg x3))
set_option maxHeartbeats 4000000 in
set_option maxRecDepth 100000 in
theorem cc_X11_lock (l : Launch) (hst : l.stackTraces = false) (D : va_G) (ca : Nat → ClassId) (A : Nat → Prop) (α : cAl) (σ : cS) (x1 : Int32) (x2 : Int32) (x3 : Int32) (o : (Nat ⊕ Int32) × cS) (h : fc_X11_lock σ x1 x2 x3 = some o) : cMetX false l yX11_lock cX11_lock 6 ((some FieldType.int)) rc_X11_lock 4 24 D ca true A α σ [cr α 0 (some 0), .int x1, .int x2, .int x3] (o.1.map id (fun (v : Int32) _ => some (.int v))) o.2 := by
  refine vx_ofW (cc := cX11_lock) (maxL := 6) (ret := (some FieldType.int)) (by decide) rfl ?_
  intro p e s m args below meth c s₁ B hml hout hv
  obtain ⟨rfl, hP, hK, hD0, hSh, hA, hG⟩ := hv
  have C : cC p s m _ c cX11_lock 6 RX11 D ca A α := ⟨B.exec, B.bytes, hml, findClass_of_methodNamed B.named, fun w hw => atoms_spec (ws := mWs yX11_lock cX11_lock 6 ((some FieldType.int))) B.pre w (List.mem_cons_of_mem _ hw), hK, hG⟩
  have hM : cM D ca true A s.heap σ α σ α s.heap [] := ⟨hP, hD0, hSh, va_S.rf, hA, cX.rf⟩
  have h17 : 0 < cn σ 17 := c_17 hM
  have hr := B.returns
  have hlk := B.notSynchronized
  have hx := C.1
  have hb := C.2.1
  have hl := lv_entry ([cr α 0 (some 0), .int x1, .int x2, .int x3]) (n := 6) (Nat.le_of_ble_eq_true rfl)
  rw [lg_entry_eq]
  generalize (lg_sl ([cr α 0 (some 0), .int x1, .int x2, .int x3]) ++ List.replicate (6 - (lg_sl ([cr α 0 (some 0), .int x1, .int x2, .int x3])).length) Slot.unset).toArray = ls at hl ⊢
  have hl : lv_has ls 6 [(0, cr α 0 (some 0)), (1, .int x1), (2, .int x2), (3, .int x3)] := hl
  unfold fc_X11_lock at h
  refine c_aload_n (t := 0) (x := (some 0)) hx hb dX11_lock_0 rfl (lv_at hl 0 rfl) ?_
  refine lv_iload_n hx hb dX11_lock_1 rfl (lv_at hl 1 rfl) ?_
  obtain ⟨r_1, u_1, hr_1⟩ := xb_some h
  refine c_gox2 (T := (fun (_ : Unit) _ => none)) (T2 := (fun (v : Int32) _ => some (.int v))) h hr_1 (c_rVx (As := [.int x1]) (rest := []) C hM h17 (hM.cst 0 0 rfl) (by decide) (cc_X11_needRoom l hst D ca A α σ x1 _ hr_1) cw_X11_122 ⟨rfl, rfl⟩ ⟨Nat.le_of_ble_eq_true rfl, Nat.le_of_ble_eq_true rfl⟩ rfl rfl (cats_le _ (Nat.le_of_ble_eq_true rfl)) hl.1 dX11_lock_2 ⟨Nat.le_of_ble_eq_true rfl, Nat.le_of_ble_eq_true rfl⟩) C hM (fun _ => ⟨rfl, rfl⟩) hout hlk (Nat.le_of_ble_eq_true rfl) (Nat.le_of_ble_eq_true rfl) (fun v_1 H locs α9 hα h hX_1 hM => ?_)
  obtain rfl : α = α9 := (hα rfl).symm
  refine W_st (st' := []) rfl ?_
  refine c_aload_n (t := 0) (x := (some 0)) hx hb dX11_lock_5 rfl (lv_at hl 0 rfl) ?_
  refine lv_iload_n hx hb dX11_lock_6 rfl (lv_at hl 3 rfl) ?_
  obtain ⟨r_2, u_2, hr_2⟩ := xb_some h
  refine c_gox2 (T := (fun (_ : Unit) _ => none)) (T2 := (fun (v : Int32) _ => some (.int v))) h hr_2 (c_rVx (As := [.int x3]) (rest := []) C hM h17 (hM.cst 0 0 rfl) (by decide) (cc_X11_needThing l hst D ca A α u_1 x3 _ hr_2) cw_X11_148 ⟨rfl, rfl⟩ ⟨Nat.le_of_ble_eq_true rfl, Nat.le_of_ble_eq_true rfl⟩ rfl rfl (cats_le _ (Nat.le_of_ble_eq_true rfl)) hl.1 dX11_lock_7 ⟨Nat.le_of_ble_eq_true rfl, Nat.le_of_ble_eq_true rfl⟩) C hM (fun _ => ⟨rfl, rfl⟩) hout hlk (Nat.le_of_ble_eq_true rfl) (Nat.le_of_ble_eq_true rfl) (fun v_2 H locs α9 hα h hX_2 hM => ?_)
  obtain rfl : α = α9 := (hα rfl).symm
  refine W_st (st' := []) rfl ?_
  refine c_aload_n (t := 0) (x := (some 0)) hx hb dX11_lock_10 rfl (lv_at hl 0 rfl) ?_
  refine lv_iload_n hx hb dX11_lock_11 rfl (lv_at hl 1 rfl) ?_
  refine lv_iload_n hx hb dX11_lock_12 rfl (lv_at hl 2 rfl) ?_
  obtain ⟨r_3, u_3, hr_3⟩ := xb_some h
  refine c_gox2 (T := (fun (v : Int32) _ => some (.int v))) (T2 := (fun (v : Int32) _ => some (.int v))) h hr_3 (c_rVx (As := [.int x1, .int x2]) (rest := []) C hM h17 (hM.cst 0 0 rfl) (by decide) (cc_X11_exitIn l hst D ca A α u_2 x1 x2 _ hr_3) cw_X11_137 ⟨rfl, rfl⟩ ⟨Nat.le_of_ble_eq_true rfl, Nat.le_of_ble_eq_true rfl⟩ rfl rfl (cats_le _ (Nat.le_of_ble_eq_true rfl)) hl.1 dX11_lock_13 ⟨Nat.le_of_ble_eq_true rfl, Nat.le_of_ble_eq_true rfl⟩) C hM (fun _ => ⟨rfl, rfl⟩) hout hlk (Nat.le_of_ble_eq_true rfl) (Nat.le_of_ble_eq_true rfl) (fun v_3 H locs α9 hα h hX_3 hM => ?_)
  obtain rfl : α = α9 := (hα rfl).symm
  refine W_st (st' := [.int v_3]) rfl ?_
  refine lv_istore (lv' := [(4, .int v_3), (0, cr α 0 (some 0)), (1, .int x1), (2, .int x2), (3, .int x3)]) hx hb dX11_lock_16 hl (by decide) rfl (fun ls hl => ?_)
  refine c_aload_n (t := 0) (x := (some 0)) hx hb dX11_lock_18 rfl (lv_at hl 1 rfl) ?_
  refine c_getb C hM (k := 0) (f := 1) (j := 0) (t := 2) (hM.cst 0 0 rfl) (by decide) fl_X11_25 dX11_lock_19 ?_
  refine c_getb C hM (k := 2) (f := 4) (j := 2) (t := 12) (hM.cst 2 0 rfl) (by decide) fl_X11_141 dX11_lock_22 ?_
  refine lv_iload hx hb dX11_lock_25 (lv_at hl 0 rfl) ?_
  obtain ⟨c_1, h⟩ := ko_of h
  refine c_iald C hM (hM.cst 12 2 rfl) (by rw [hM.ln 12 2 72 (by decide)]; exact c_1) dX11_lock_27 ?_
  refine lv_iconst (v := (-1 : Int32)) hx hb dX11_lock_28 (by decide) ?_
  refine lv_icmp_ne (tgt := 42) hx hb dX11_lock_29 (by decide) (fun c_2 => ?_) (fun c_2 => ?_)
  · have h := br_F c_2 h
    refine c_aload_n (t := 0) (x := (some 0)) hx hb dX11_lock_42 rfl (lv_at hl 1 rfl) ?_
    obtain ⟨r_4, u_4, hr_4⟩ := xb_some h
    refine c_gox2 (T := (fun (_ : Unit) _ => none)) (T2 := (fun (v : Int32) _ => some (.int v))) h hr_4 (c_rVx (As := []) (rest := []) C hM h17 (hM.cst 0 0 rfl) (by decide) (cc_X11_needNoPlay l hst D ca A α u_3 _ hr_4) cw_X11_110 ⟨rfl, rfl⟩ ⟨Nat.le_of_ble_eq_true rfl, Nat.le_of_ble_eq_true rfl⟩ rfl rfl (cats_le _ (Nat.le_of_ble_eq_true rfl)) hl.1 dX11_lock_43 ⟨Nat.le_of_ble_eq_true rfl, Nat.le_of_ble_eq_true rfl⟩) C hM (fun _ => ⟨rfl, rfl⟩) hout hlk (Nat.le_of_ble_eq_true rfl) (Nat.le_of_ble_eq_true rfl) (fun v_4 H locs α9 hα h hX_4 hM => ?_)
    obtain rfl : α = α9 := (hα rfl).symm
    refine W_st (st' := []) rfl ?_
    refine c_aload_n (t := 0) (x := (some 0)) hx hb dX11_lock_46 rfl (lv_at hl 1 rfl) ?_
    refine c_getb C hM (k := 0) (f := 1) (j := 0) (t := 2) (hM.cst 0 0 rfl) (by decide) fl_X11_25 dX11_lock_47 ?_
    refine c_getb C hM (k := 2) (f := 5) (j := 3) (t := 12) (hM.cst 2 0 rfl) (by decide) fl_X11_145 dX11_lock_50 ?_
    refine lv_iload hx hb dX11_lock_53 (lv_at hl 0 rfl) ?_
    obtain ⟨c_3, h⟩ := ko_of h
    refine c_iald C hM (hM.cst 12 3 rfl) (by rw [hM.ln 12 3 72 (by decide)]; exact c_3) dX11_lock_55 ?_
    refine lv_istore (lv' := [(5, .int (cI u_4 12 3 v_3.toNatClampNeg)), (4, .int v_3), (0, cr α 0 (some 0)), (1, .int x1), (2, .int x2), (3, .int x3)]) hx hb dX11_lock_56 hl (by decide) rfl (fun ls hl => ?_)
    refine c_aload_n (t := 0) (x := (some 0)) hx hb dX11_lock_58 rfl (lv_at hl 2 rfl) ?_
    refine c_getb C hM (k := 0) (f := 1) (j := 0) (t := 2) (hM.cst 0 0 rfl) (by decide) fl_X11_25 dX11_lock_59 ?_
    refine c_getb C hM (k := 2) (f := 5) (j := 3) (t := 12) (hM.cst 2 0 rfl) (by decide) fl_X11_145 dX11_lock_62 ?_
    refine lv_iload hx hb dX11_lock_65 (lv_at hl 1 rfl) ?_
    refine lv_iload_n hx hb dX11_lock_67 rfl (lv_at hl 5 rfl) ?_
    obtain ⟨c_4, h⟩ := ko_of h
    refine c_iast C hM (hM.cst 12 3 rfl) (by rw [hM.ln 12 3 72 (by decide)]; exact c_4) dX11_lock_68 (fun H locs hM => ?_)
    refine lv_iload hx hb dX11_lock_69 (lv_at hl 0 rfl) ?_
    exact c_xr h (c_ri (o := ((cI u_4 12 3 v_3.toNatClampNeg), (uI u_4 12 3 v_3.toNatClampNeg x3))) C hM (fun _ => rfl) hr hlk dX11_lock_71 rfl)
  · have h := br_T c_2 h
    exact c_throw (k := 3) (text := "no such exit") C hM (fun _ => rfl) hst hout hlk (by decide +kernel) cx_at3 cx_ot3 (wl_in (i := 638) (by decide +kernel)) (wl_in (i := 22) (by decide +kernel)) rfl dX11_lock_32 dX11_lock_35 dX11_lock_36 dX11_lock_38 dX11_lock_41 hl.1 (Nat.le_of_ble_eq_true rfl) (Nat.le_of_ble_eq_true rfl) (Nat.le_of_ble_eq_true rfl) (Nat.le_of_ble_eq_true rfl) (Nat.le_of_ble_eq_true rfl) (Nat.le_of_ble_eq_true rfl) h
/-! Lorewick.thing(IIIC)I -/
abbrev rc_X11_thing : Room := { frames := 7, cells := 4, slots := 24, locals := 111 }
def fc_X11_thing_21 (σ : cS) : Option ((Nat ⊕ Int32) × cS) :=
    some (.inl 1, σ)
set_option maxHeartbeats 4000000 in
set_option maxRecDepth 100000 in
theorem gc_X11_thing_21 {p : Program} {l : Launch} {e : Env} {s : State} {m : MethodId} {args : Array Value} {below : List Frame} {meth : Method} {c : Code} {D : va_G} {ca : Nat → ClassId} {A : Nat → Prop} {σ0 : cS} {α : cAl} {o : (Nat ⊕ Int32) × cS} (C : cC p s m args c cX11_thing 6 RX11 D ca A α) (hr : meth.sig.returnType = (some FieldType.int)) (hlk : meth.locks = false) (h17 : 0 < cn σ0 17) (hst : l.stackTraces = false) (hout : ∀ x ∈ c.exceptionTable.toList, False) : ∀ (σ : cS) (H : Heap) (locs : List Loc) (ls : Array Slot), cM D ca true A s.heap σ0 α σ α H locs → lv_has ls 6 [] → fc_X11_thing_21 σ = some o → W p l e rc_X11_thing s m args below meth c H locs 2 12 (vx_MQ below (cQx false D ca true A α σ0 (o.1.map id (fun (v : Int32) _ => some (.int v))) o.2) (cXC false D ca true A α σ0 (o.1.map id (fun (v : Int32) _ => some (.int v))) o.2) args s 4 24 A) (F0 m 21 ls []) := by
  have hx := C.1
  have hb := C.2.1
  intro σ H locs ls hM hl h
  unfold fc_X11_thing_21 at h
  exact c_throw (k := 1) (text := "the weight is out of range") C hM (fun _ => rfl) hst hout hlk (by decide +kernel) cx_at1 cx_ot1 (wl_in (i := 525) (by decide +kernel)) (wl_in (i := 20) (by decide +kernel)) rfl dX11_thing_21 dX11_thing_24 dX11_thing_25 dX11_thing_27 dX11_thing_30 hl.1 (Nat.le_of_ble_eq_true rfl) (Nat.le_of_ble_eq_true rfl) (Nat.le_of_ble_eq_true rfl) (Nat.le_of_ble_eq_true rfl) (Nat.le_of_ble_eq_true rfl) (Nat.le_of_ble_eq_true rfl) h
def fc_X11_thing_186 (σ : cS) (x5 : Int32) (s0 : Int32) (s1 : Int32) : Option ((Nat ⊕ Int32) × cS) :=
    if s1 < 0 ∨ 12 ≤ s1.toNatClampNeg then none else
    some (.inr x5, (uI (uI σ 12 7 s1.toNatClampNeg s0) 2 0 13 ((cI (uI σ 12 7 s1.toNatClampNeg s0) 2 0 13) + (1 : Int32))))
set_option maxHeartbeats 4000000 in
set_option maxRecDepth 100000 in
theorem gc_X11_thing_186 {p : Program} {l : Launch} {e : Env} {s : State} {m : MethodId} {args : Array Value} {below : List Frame} {meth : Method} {c : Code} {D : va_G} {ca : Nat → ClassId} {A : Nat → Prop} {σ0 : cS} {α : cAl} {o : (Nat ⊕ Int32) × cS} (C : cC p s m args c cX11_thing 6 RX11 D ca A α) (hr : meth.sig.returnType = (some FieldType.int)) (hlk : meth.locks = false) (h17 : 0 < cn σ0 17) (hst : l.stackTraces = false) (hout : ∀ x ∈ c.exceptionTable.toList, False) : ∀ (σ : cS) (x5 : Int32) (s0 : Int32) (s1 : Int32) (H : Heap) (locs : List Loc) (ls : Array Slot), cM D ca true A s.heap σ0 α σ α H locs → lv_has ls 6 [(0, cr α 0 (some 0)), (5, .int x5)] → fc_X11_thing_186 σ x5 s0 s1 = some o → W p l e rc_X11_thing s m args below meth c H locs 3 18 (vx_MQ below (cQx false D ca true A α σ0 (o.1.map id (fun (v : Int32) _ => some (.int v))) o.2) (cXC false D ca true A α σ0 (o.1.map id (fun (v : Int32) _ => some (.int v))) o.2) args s 4 24 A) (F0 m 186 ls [.int s0, .int s1, cr α 12 (some 7)]) := by
  have hx := C.1
  have hb := C.2.1
  intro σ x5 s0 s1 H locs ls hM hl h
  unfold fc_X11_thing_186 at h
  obtain ⟨c_1, h⟩ := ko_of h
  refine c_iast C hM (hM.cst 12 7 rfl) (by rw [hM.ln 12 7 12 (by decide)]; exact c_1) dX11_thing_186 (fun H locs hM => ?_)
  refine c_aload_n (t := 0) (x := (some 0)) hx hb dX11_thing_187 rfl (lv_at hl 0 rfl) ?_
  refine c_getb C hM (k := 0) (f := 1) (j := 0) (t := 2) (hM.cst 0 0 rfl) (by decide) fl_X11_25 dX11_thing_188 ?_
  refine lv_dup hx hb dX11_thing_191 cr_cat ?_
  refine c_geti C hM (k := 2) (f := 13) (hM.cst 2 0 rfl) rfl fl_X11_163 dX11_thing_192 ?_
  refine lv_iconst (v := (1 : Int32)) hx hb dX11_thing_195 (by decide) ?_
  refine lv_iadd hx hb dX11_thing_196 ?_
  refine c_puti C hM (k := 2) (f := 13) (hM.cst 2 0 rfl) rfl fl_X11_163 (Or.inl rfl) dX11_thing_197 (fun H locs hM => ?_)
  refine lv_iload hx hb dX11_thing_200 (lv_at hl 1 rfl) ?_
  refine W.widen (k := 4) (n := 24) (Nat.le_of_ble_eq_true rfl) (Nat.le_of_ble_eq_true rfl) ?_
  exact c_xr h (c_ri (o := (x5, (uI (uI σ 12 7 s1.toNatClampNeg s0) 2 0 13 ((cI (uI σ 12 7 s1.toNatClampNeg s0) 2 0 13) + (1 : Int32))))) C hM (fun _ => rfl) hr hlk dX11_thing_202 rfl)
def fc_X11_thing_62 (σ : cS) (x1 : Int32) (x2 : Int32) (x3 : Int32) (x4 : Int32) : Option ((Nat ⊕ Int32) × cS) :=
    (fc_X10_thingOf σ x1).bind fun r_1 =>
    if r_1.1 = (-1 : Int32) then
      xb (fc_X11_needNoPlay r_1.2) fun v_2 u_2 =>
      if (cI u_2 2 0 13) < (12 : Int32) then
        if (cI u_2 2 0 13) < 0 ∨ 12 ≤ (cI u_2 2 0 13).toNatClampNeg then none else
        if (cI u_2 2 0 13) < 0 ∨ 12 ≤ (cI u_2 2 0 13).toNatClampNeg then none else
        if (cI u_2 2 0 13) < 0 ∨ 12 ≤ (cI u_2 2 0 13).toNatClampNeg then none else
        if (cI u_2 2 0 13) < 0 ∨ 12 ≤ (cI u_2 2 0 13).toNatClampNeg then none else
        if x4 = (108 : Int32) then
          fc_X11_thing_186 (uI (uI (uI (uI u_2 12 4 (cI u_2 2 0 13).toNatClampNeg x1) 12 5 (cI u_2 2 0 13).toNatClampNeg x2) 12 6 (cI u_2 2 0 13).toNatClampNeg x3) 14 1 (cI u_2 2 0 13).toNatClampNeg x4.toUInt32.toUInt16.toUInt32.toInt32) (cI u_2 2 0 13) (10 : Int32) (cI u_2 2 0 13)
        else
          fc_X11_thing_186 (uI (uI (uI (uI u_2 12 4 (cI u_2 2 0 13).toNatClampNeg x1) 12 5 (cI u_2 2 0 13).toNatClampNeg x2) 12 6 (cI u_2 2 0 13).toNatClampNeg x3) 14 1 (cI u_2 2 0 13).toNatClampNeg x4.toUInt32.toUInt16.toUInt32.toInt32) (cI u_2 2 0 13) (0 : Int32) (cI u_2 2 0 13)
      else
        some (.inl 2, u_2)
    else
      some (.inl 3, r_1.2)
set_option maxHeartbeats 4000000 in
set_option maxRecDepth 100000 in
theorem gc_X11_thing_62 {p : Program} {l : Launch} {e : Env} {s : State} {m : MethodId} {args : Array Value} {below : List Frame} {meth : Method} {c : Code} {D : va_G} {ca : Nat → ClassId} {A : Nat → Prop} {σ0 : cS} {α : cAl} {o : (Nat ⊕ Int32) × cS} (C : cC p s m args c cX11_thing 6 RX11 D ca A α) (hr : meth.sig.returnType = (some FieldType.int)) (hlk : meth.locks = false) (h17 : 0 < cn σ0 17) (hst : l.stackTraces = false) (hout : ∀ x ∈ c.exceptionTable.toList, False) : ∀ (σ : cS) (x1 : Int32) (x2 : Int32) (x3 : Int32) (x4 : Int32) (H : Heap) (locs : List Loc) (ls : Array Slot), cM D ca true A s.heap σ0 α σ α H locs → lv_has ls 6 [(0, cr α 0 (some 0)), (1, .int x1), (2, .int x2), (3, .int x3), (4, .int x4)] → fc_X11_thing_62 σ x1 x2 x3 x4 = some o → W p l e rc_X11_thing s m args below meth c H locs 2 12 (vx_MQ below (cQx false D ca true A α σ0 (o.1.map id (fun (v : Int32) _ => some (.int v))) o.2) (cXC false D ca true A α σ0 (o.1.map id (fun (v : Int32) _ => some (.int v))) o.2) args s 4 24 A) (F0 m 62 ls []) := by
  have hx := C.1
  have hb := C.2.1
  intro σ x1 x2 x3 x4 H locs ls hM hl h
  unfold fc_X11_thing_62 at h
  refine c_aload_n (t := 0) (x := (some 0)) hx hb dX11_thing_62 rfl (lv_at hl 0 rfl) ?_
  refine c_getb C hM (k := 0) (f := 1) (j := 0) (t := 2) (hM.cst 0 0 rfl) (by decide) fl_X11_25 dX11_thing_63 ?_
  refine lv_iload_n hx hb dX11_thing_66 rfl (lv_at hl 1 rfl) ?_
  obtain ⟨r_1, hr_1, h⟩ := bd_of h
  refine c_go0 (c_rV (As := [.int x1]) (rest := []) C hM h17 (hM.cst 2 0 rfl) (by decide) (cc_X10_thingOf l D ca A α σ x1 _ hr_1) cw_X11_157 ⟨rfl, rfl⟩ ⟨Nat.le_of_ble_eq_true rfl, Nat.le_of_ble_eq_true rfl⟩ rfl rfl (cats_le _ (Nat.le_of_ble_eq_true rfl)) hl.1 dX11_thing_67 ⟨Nat.le_of_ble_eq_true rfl, Nat.le_of_ble_eq_true rfl⟩) hM (fun H locs hM => ?_)
  refine W_st (st' := [.int r_1.1]) rfl ?_
  refine lv_iconst (v := (-1 : Int32)) hx hb dX11_thing_70 (by decide) ?_
  refine lv_icmp_eq (tgt := 84) hx hb dX11_thing_71 (by decide) (fun c_1 => ?_) (fun c_1 => ?_)
  · have h := br_T c_1 h
    refine c_aload_n (t := 0) (x := (some 0)) hx hb dX11_thing_84 rfl (lv_at hl 0 rfl) ?_
    obtain ⟨r_2, u_2, hr_2⟩ := xb_some h
    refine c_gox2 (T := (fun (_ : Unit) _ => none)) (T2 := (fun (v : Int32) _ => some (.int v))) h hr_2 (c_rVx (As := []) (rest := []) C hM h17 (hM.cst 0 0 rfl) (by decide) (cc_X11_needNoPlay l hst D ca A α r_1.2 _ hr_2) cw_X11_110 ⟨rfl, rfl⟩ ⟨Nat.le_of_ble_eq_true rfl, Nat.le_of_ble_eq_true rfl⟩ rfl rfl (cats_le _ (Nat.le_of_ble_eq_true rfl)) hl.1 dX11_thing_85 ⟨Nat.le_of_ble_eq_true rfl, Nat.le_of_ble_eq_true rfl⟩) C hM (fun _ => ⟨rfl, rfl⟩) hout hlk (Nat.le_of_ble_eq_true rfl) (Nat.le_of_ble_eq_true rfl) (fun v_2 H locs α9 hα h hX_2 hM => ?_)
    obtain rfl : α = α9 := (hα rfl).symm
    refine W_st (st' := []) rfl ?_
    refine c_aload_n (t := 0) (x := (some 0)) hx hb dX11_thing_88 rfl (lv_at hl 0 rfl) ?_
    refine c_getb C hM (k := 0) (f := 1) (j := 0) (t := 2) (hM.cst 0 0 rfl) (by decide) fl_X11_25 dX11_thing_89 ?_
    refine c_geti C hM (k := 2) (f := 13) (hM.cst 2 0 rfl) rfl fl_X11_163 dX11_thing_92 ?_
    refine lv_bipush (v := (12 : Int32)) hx hb dX11_thing_95 (by decide) ?_
    refine lv_icmp_lt (tgt := 110) hx hb dX11_thing_97 (by decide) (fun c_2 => ?_) (fun c_2 => ?_)
    · have h := br_T c_2 h
      refine c_aload_n (t := 0) (x := (some 0)) hx hb dX11_thing_110 rfl (lv_at hl 0 rfl) ?_
      refine c_getb C hM (k := 0) (f := 1) (j := 0) (t := 2) (hM.cst 0 0 rfl) (by decide) fl_X11_25 dX11_thing_111 ?_
      refine c_geti C hM (k := 2) (f := 13) (hM.cst 2 0 rfl) rfl fl_X11_163 dX11_thing_114 ?_
      refine lv_istore (lv' := [(5, .int (cI u_2 2 0 13)), (0, cr α 0 (some 0)), (1, .int x1), (2, .int x2), (3, .int x3), (4, .int x4)]) hx hb dX11_thing_117 hl (by decide) rfl (fun ls hl => ?_)
      refine c_aload_n (t := 0) (x := (some 0)) hx hb dX11_thing_119 rfl (lv_at hl 1 rfl) ?_
      refine c_getb C hM (k := 0) (f := 1) (j := 0) (t := 2) (hM.cst 0 0 rfl) (by decide) fl_X11_25 dX11_thing_120 ?_
      refine c_getb C hM (k := 2) (f := 7) (j := 4) (t := 12) (hM.cst 2 0 rfl) (by decide) fl_X11_168 dX11_thing_123 ?_
      refine lv_iload hx hb dX11_thing_126 (lv_at hl 0 rfl) ?_
      refine lv_iload_n hx hb dX11_thing_128 rfl (lv_at hl 2 rfl) ?_
      obtain ⟨c_3, h⟩ := ko_of h
      refine c_iast C hM (hM.cst 12 4 rfl) (by rw [hM.ln 12 4 12 (by decide)]; exact c_3) dX11_thing_129 (fun H locs hM => ?_)
      refine c_aload_n (t := 0) (x := (some 0)) hx hb dX11_thing_130 rfl (lv_at hl 1 rfl) ?_
      refine c_getb C hM (k := 0) (f := 1) (j := 0) (t := 2) (hM.cst 0 0 rfl) (by decide) fl_X11_25 dX11_thing_131 ?_
      refine c_getb C hM (k := 2) (f := 8) (j := 5) (t := 12) (hM.cst 2 0 rfl) (by decide) fl_X11_171 dX11_thing_134 ?_
      refine lv_iload hx hb dX11_thing_137 (lv_at hl 0 rfl) ?_
      refine lv_iload_n hx hb dX11_thing_139 rfl (lv_at hl 3 rfl) ?_
      obtain ⟨c_4, h⟩ := ko_of h
      refine c_iast C hM (hM.cst 12 5 rfl) (by rw [hM.ln 12 5 12 (by decide)]; exact c_4) dX11_thing_140 (fun H locs hM => ?_)
      refine c_aload_n (t := 0) (x := (some 0)) hx hb dX11_thing_141 rfl (lv_at hl 1 rfl) ?_
      refine c_getb C hM (k := 0) (f := 1) (j := 0) (t := 2) (hM.cst 0 0 rfl) (by decide) fl_X11_25 dX11_thing_142 ?_
      refine c_getb C hM (k := 2) (f := 9) (j := 6) (t := 12) (hM.cst 2 0 rfl) (by decide) fl_X11_174 dX11_thing_145 ?_
      refine lv_iload hx hb dX11_thing_148 (lv_at hl 0 rfl) ?_
      refine lv_iload_n hx hb dX11_thing_150 rfl (lv_at hl 4 rfl) ?_
      obtain ⟨c_5, h⟩ := ko_of h
      refine c_iast C hM (hM.cst 12 6 rfl) (by rw [hM.ln 12 6 12 (by decide)]; exact c_5) dX11_thing_151 (fun H locs hM => ?_)
      refine c_aload_n (t := 0) (x := (some 0)) hx hb dX11_thing_152 rfl (lv_at hl 1 rfl) ?_
      refine c_getb C hM (k := 0) (f := 1) (j := 0) (t := 2) (hM.cst 0 0 rfl) (by decide) fl_X11_25 dX11_thing_153 ?_
      refine c_getb C hM (k := 2) (f := 10) (j := 1) (t := 14) (hM.cst 2 0 rfl) (by decide) fl_X11_177 dX11_thing_156 ?_
      refine lv_iload hx hb dX11_thing_159 (lv_at hl 0 rfl) ?_
      refine lv_iload hx hb dX11_thing_161 (lv_at hl 5 rfl) ?_
      obtain ⟨c_6, h⟩ := ko_of h
      refine c_cast C hM (hM.cst 14 1 rfl) (by rw [hM.ln 14 1 12 (by decide)]; exact c_6) dX11_thing_163 (fun H locs hM => ?_)
      refine c_aload_n (t := 0) (x := (some 0)) hx hb dX11_thing_164 rfl (lv_at hl 1 rfl) ?_
      refine c_getb C hM (k := 0) (f := 1) (j := 0) (t := 2) (hM.cst 0 0 rfl) (by decide) fl_X11_25 dX11_thing_165 ?_
      refine c_getb C hM (k := 2) (f := 11) (j := 7) (t := 12) (hM.cst 2 0 rfl) (by decide) fl_X11_181 dX11_thing_168 ?_
      refine lv_iload hx hb dX11_thing_171 (lv_at hl 0 rfl) ?_
      refine lv_iload hx hb dX11_thing_173 (lv_at hl 5 rfl) ?_
      refine lv_bipush (v := (108 : Int32)) hx hb dX11_thing_175 (by decide) ?_
      refine lv_icmp_ne (tgt := 185) hx hb dX11_thing_177 (by decide) (fun c_7 => ?_) (fun c_7 => ?_)
      · have h := br_F c_7 h
        refine lv_iconst (v := (0 : Int32)) hx hb dX11_thing_185 (by decide) ?_
        exact gc_X11_thing_186 C hr hlk h17 hst hout  _ _ _ _ _ _ _ hM (lv_sub hl [1, 0] rfl) h
      · have h := br_T c_7 h
        refine lv_bipush (v := (10 : Int32)) hx hb dX11_thing_180 (by decide) ?_
        refine lv_goto (tgt := 186) hx hb dX11_thing_182 (by decide) ?_
        exact gc_X11_thing_186 C hr hlk h17 hst hout  _ _ _ _ _ _ _ hM (lv_sub hl [1, 0] rfl) h
    · have h := br_F c_2 h
      exact c_throw (k := 2) (text := "there are 12 things") C hM (fun _ => rfl) hst hout hlk (by decide +kernel) cx_at2 cx_ot2 (wl_in (i := 597) (by decide +kernel)) (wl_in (i := 21) (by decide +kernel)) rfl dX11_thing_100 dX11_thing_103 dX11_thing_104 dX11_thing_106 dX11_thing_109 hl.1 (Nat.le_of_ble_eq_true rfl) (Nat.le_of_ble_eq_true rfl) (Nat.le_of_ble_eq_true rfl) (Nat.le_of_ble_eq_true rfl) (Nat.le_of_ble_eq_true rfl) (Nat.le_of_ble_eq_true rfl) h
  · have h := br_F c_1 h
    exact c_throw (k := 3) (text := "another thing has this noun") C hM (fun _ => rfl) hst hout hlk (by decide +kernel) cx_at3 cx_ot3 (wl_in (i := 638) (by decide +kernel)) (wl_in (i := 22) (by decide +kernel)) rfl dX11_thing_74 dX11_thing_77 dX11_thing_78 dX11_thing_80 dX11_thing_83 hl.1 (Nat.le_of_ble_eq_true rfl) (Nat.le_of_ble_eq_true rfl) (Nat.le_of_ble_eq_true rfl) (Nat.le_of_ble_eq_true rfl) (Nat.le_of_ble_eq_true rfl) (Nat.le_of_ble_eq_true rfl) h
def fc_X11_thing (σ : cS) (x1 : Int32) (x2 : Int32) (x3 : Int32) (x4 : Int32) : Option ((Nat ⊕ Int32) × cS) :=
  xb (fc_X11_needWord σ x1) fun v_1 u_1 =>
  xb (fc_X11_needRoom u_1 x2) fun v_2 u_2 =>
  if x3 < (1 : Int32) then
    fc_X11_thing_21 u_2
  else
    if x3 ≤ (9 : Int32) then
      if x4 = (112 : Int32) then
        fc_X11_thing_62 u_2 x1 x2 x3 x4
      else
        if x4 = (108 : Int32) then
          fc_X11_thing_62 u_2 x1 x2 x3 x4
        else
          if x4 = (98 : Int32) then
            fc_X11_thing_62 u_2 x1 x2 x3 x4
          else
            some (.inl 1, u_2)
    else
      fc_X11_thing_21 u_2
set_option maxHeartbeats 4000000 in
set_option maxRecDepth 100000 in
theorem cc_X11_thing (l : Launch) (hst : l.stackTraces = false) (D : va_G) (ca : Nat → ClassId) (A : Nat → Prop) (α : cAl) (σ : cS) (x1 : Int32) (x2 : Int32) (x3 : Int32) (x4 : Int32) (o : (Nat ⊕ Int32) × cS) (h : fc_X11_thing σ x1 x2 x3 x4 = some o) : cMetX false l yX11_thing cX11_thing 6 ((some FieldType.int)) rc_X11_thing 4 24 D ca true A α σ [cr α 0 (some 0), .int x1, .int x2, .int x3, .int x4] (o.1.map id (fun (v : Int32) _ => some (.int v))) o.2 := by
  refine vx_ofW (cc := cX11_thing) (maxL := 6) (ret := (some FieldType.int)) (by decide) rfl ?_
  intro p e s m args below meth c s₁ B hml hout hv
  obtain ⟨rfl, hP, hK, hD0, hSh, hA, hG⟩ := hv
  have C : cC p s m _ c cX11_thing 6 RX11 D ca A α := ⟨B.exec, B.bytes, hml, findClass_of_methodNamed B.named, fun w hw => atoms_spec (ws := mWs yX11_thing cX11_thing 6 ((some FieldType.int))) B.pre w (List.mem_cons_of_mem _ hw), hK, hG⟩
  have hM : cM D ca true A s.heap σ α σ α s.heap [] := ⟨hP, hD0, hSh, va_S.rf, hA, cX.rf⟩
  have h17 : 0 < cn σ 17 := c_17 hM
  have hr := B.returns
  have hlk := B.notSynchronized
  have hx := C.1
  have hb := C.2.1
  have hl := lv_entry ([cr α 0 (some 0), .int x1, .int x2, .int x3, .int x4]) (n := 6) (Nat.le_of_ble_eq_true rfl)
  rw [lg_entry_eq]
  generalize (lg_sl ([cr α 0 (some 0), .int x1, .int x2, .int x3, .int x4]) ++ List.replicate (6 - (lg_sl ([cr α 0 (some 0), .int x1, .int x2, .int x3, .int x4])).length) Slot.unset).toArray = ls at hl ⊢
  have hl : lv_has ls 6 [(0, cr α 0 (some 0)), (1, .int x1), (2, .int x2), (3, .int x3), (4, .int x4)] := hl
  unfold fc_X11_thing at h
  refine c_aload_n (t := 0) (x := (some 0)) hx hb dX11_thing_0 rfl (lv_at hl 0 rfl) ?_
  refine lv_iload_n hx hb dX11_thing_1 rfl (lv_at hl 1 rfl) ?_
  obtain ⟨r_1, u_1, hr_1⟩ := xb_some h
  refine c_gox2 (T := (fun (_ : Unit) _ => none)) (T2 := (fun (v : Int32) _ => some (.int v))) h hr_1 (c_rVx (As := [.int x1]) (rest := []) C hM h17 (hM.cst 0 0 rfl) (by decide) (cc_X11_needWord l hst D ca A α σ x1 _ hr_1) cw_X11_126 ⟨rfl, rfl⟩ ⟨Nat.le_of_ble_eq_true rfl, Nat.le_of_ble_eq_true rfl⟩ rfl rfl (cats_le _ (Nat.le_of_ble_eq_true rfl)) hl.1 dX11_thing_2 ⟨Nat.le_of_ble_eq_true rfl, Nat.le_of_ble_eq_true rfl⟩) C hM (fun _ => ⟨rfl, rfl⟩) hout hlk (Nat.le_of_ble_eq_true rfl) (Nat.le_of_ble_eq_true rfl) (fun v_1 H locs α9 hα h hX_1 hM => ?_)
  obtain rfl : α = α9 := (hα rfl).symm
  refine W_st (st' := []) rfl ?_
  refine c_aload_n (t := 0) (x := (some 0)) hx hb dX11_thing_5 rfl (lv_at hl 0 rfl) ?_
  refine lv_iload_n hx hb dX11_thing_6 rfl (lv_at hl 2 rfl) ?_
  obtain ⟨r_2, u_2, hr_2⟩ := xb_some h
  refine c_gox2 (T := (fun (_ : Unit) _ => none)) (T2 := (fun (v : Int32) _ => some (.int v))) h hr_2 (c_rVx (As := [.int x2]) (rest := []) C hM h17 (hM.cst 0 0 rfl) (by decide) (cc_X11_needRoom l hst D ca A α u_1 x2 _ hr_2) cw_X11_122 ⟨rfl, rfl⟩ ⟨Nat.le_of_ble_eq_true rfl, Nat.le_of_ble_eq_true rfl⟩ rfl rfl (cats_le _ (Nat.le_of_ble_eq_true rfl)) hl.1 dX11_thing_7 ⟨Nat.le_of_ble_eq_true rfl, Nat.le_of_ble_eq_true rfl⟩) C hM (fun _ => ⟨rfl, rfl⟩) hout hlk (Nat.le_of_ble_eq_true rfl) (Nat.le_of_ble_eq_true rfl) (fun v_2 H locs α9 hα h hX_2 hM => ?_)
  obtain rfl : α = α9 := (hα rfl).symm
  refine W_st (st' := []) rfl ?_
  refine lv_iload_n hx hb dX11_thing_10 rfl (lv_at hl 3 rfl) ?_
  refine lv_iconst (v := (1 : Int32)) hx hb dX11_thing_11 (by decide) ?_
  refine lv_icmp_lt (tgt := 21) hx hb dX11_thing_12 (by decide) (fun c_1 => ?_) (fun c_1 => ?_)
  · have h := br_T c_1 h
    exact gc_X11_thing_21 C hr hlk h17 hst hout  _ _ _ _ hM (lv_sub hl [] rfl) h
  · have h := br_F c_1 h
    refine lv_iload_n hx hb dX11_thing_15 rfl (lv_at hl 3 rfl) ?_
    refine lv_bipush (v := (9 : Int32)) hx hb dX11_thing_16 (by decide) ?_
    refine lv_icmp_le (tgt := 31) hx hb dX11_thing_18 (by decide) (fun c_2 => ?_) (fun c_2 => ?_)
    · have h := br_T c_2 h
      refine lv_iload hx hb dX11_thing_31 (lv_at hl 4 rfl) ?_
      refine lv_bipush (v := (112 : Int32)) hx hb dX11_thing_33 (by decide) ?_
      refine lv_icmp_eq (tgt := 62) hx hb dX11_thing_35 (by decide) (fun c_3 => ?_) (fun c_3 => ?_)
      · have h := br_T c_3 h
        exact gc_X11_thing_62 C hr hlk h17 hst hout  _ _ _ _ _ _ _ _ hM (lv_sub hl [0, 1, 2, 3, 4] rfl) h
      · have h := br_F c_3 h
        refine lv_iload hx hb dX11_thing_38 (lv_at hl 4 rfl) ?_
        refine lv_bipush (v := (108 : Int32)) hx hb dX11_thing_40 (by decide) ?_
        refine lv_icmp_eq (tgt := 62) hx hb dX11_thing_42 (by decide) (fun c_4 => ?_) (fun c_4 => ?_)
        · have h := br_T c_4 h
          exact gc_X11_thing_62 C hr hlk h17 hst hout  _ _ _ _ _ _ _ _ hM (lv_sub hl [0, 1, 2, 3, 4] rfl) h
        · have h := br_F c_4 h
          refine lv_iload hx hb dX11_thing_45 (lv_at hl 4 rfl) ?_
          refine lv_bipush (v := (98 : Int32)) hx hb dX11_thing_47 (by decide) ?_
          refine lv_icmp_eq (tgt := 62) hx hb dX11_thing_49 (by decide) (fun c_5 => ?_) (fun c_5 => ?_)
          · have h := br_T c_5 h
            exact gc_X11_thing_62 C hr hlk h17 hst hout  _ _ _ _ _ _ _ _ hM (lv_sub hl [0, 1, 2, 3, 4] rfl) h
          · have h := br_F c_5 h
            exact c_throw (k := 1) (text := "no such kind") C hM (fun _ => rfl) hst hout hlk (by decide +kernel) cx_at1 cx_ot1 (wl_in (i := 525) (by decide +kernel)) (wl_in (i := 20) (by decide +kernel)) rfl dX11_thing_52 dX11_thing_55 dX11_thing_56 dX11_thing_58 dX11_thing_61 hl.1 (Nat.le_of_ble_eq_true rfl) (Nat.le_of_ble_eq_true rfl) (Nat.le_of_ble_eq_true rfl) (Nat.le_of_ble_eq_true rfl) (Nat.le_of_ble_eq_true rfl) (Nat.le_of_ble_eq_true rfl) h
    · have h := br_F c_2 h
      exact gc_X11_thing_21 C hr hlk h17 hst hout  _ _ _ _ hM (lv_sub hl [] rfl) h
/-! Lorewick.needKind(IC)V -/
abbrev rc_X11_needKind : Room := { frames := 6, cells := 1, slots := 6, locals := 90 }
def fc_X11_needKind (σ : cS) (x1 : Int32) (x2 : Int32) : Option ((Nat ⊕ Unit) × cS) :=
  if x1 < 0 ∨ 12 ≤ x1.toNatClampNeg then none else
  if (cI σ 14 1 x1.toNatClampNeg) = x2 then
    some (.inr (), σ)
  else
    some (.inl 3, σ)
set_option maxHeartbeats 4000000 in
set_option maxRecDepth 100000 in
theorem cc_X11_needKind (l : Launch) (hst : l.stackTraces = false) (D : va_G) (ca : Nat → ClassId) (A : Nat → Prop) (α : cAl) (σ : cS) (x1 : Int32) (x2 : Int32) (o : (Nat ⊕ Unit) × cS) (h : fc_X11_needKind σ x1 x2 = some o) : cMetX false l yX11_needKind cX11_needKind 3 ((none : Option FieldType)) rc_X11_needKind 1 6 D ca true A α σ [cr α 0 (some 0), .int x1, .int x2] (o.1.map id (fun (_ : Unit) _ => none)) o.2 := by
  refine vx_ofW (cc := cX11_needKind) (maxL := 3) (ret := (none : Option FieldType)) (by decide) rfl ?_
  intro p e s m args below meth c s₁ B hml hout hv
  obtain ⟨rfl, hP, hK, hD0, hSh, hA, hG⟩ := hv
  have C : cC p s m _ c cX11_needKind 3 RX11 D ca A α := ⟨B.exec, B.bytes, hml, findClass_of_methodNamed B.named, fun w hw => atoms_spec (ws := mWs yX11_needKind cX11_needKind 3 ((none : Option FieldType))) B.pre w (List.mem_cons_of_mem _ hw), hK, hG⟩
  have hM : cM D ca true A s.heap σ α σ α s.heap [] := ⟨hP, hD0, hSh, va_S.rf, hA, cX.rf⟩
  have h17 : 0 < cn σ 17 := c_17 hM
  have hr := B.returns
  have hlk := B.notSynchronized
  have hx := C.1
  have hb := C.2.1
  have hl := lv_entry ([cr α 0 (some 0), .int x1, .int x2]) (n := 3) (Nat.le_of_ble_eq_true rfl)
  rw [lg_entry_eq]
  generalize (lg_sl ([cr α 0 (some 0), .int x1, .int x2]) ++ List.replicate (3 - (lg_sl ([cr α 0 (some 0), .int x1, .int x2])).length) Slot.unset).toArray = ls at hl ⊢
  have hl : lv_has ls 3 [(0, cr α 0 (some 0)), (1, .int x1), (2, .int x2)] := hl
  unfold fc_X11_needKind at h
  refine c_aload_n (t := 0) (x := (some 0)) hx hb dX11_needKind_0 rfl (lv_at hl 0 rfl) ?_
  refine c_getb C hM (k := 0) (f := 1) (j := 0) (t := 2) (hM.cst 0 0 rfl) (by decide) fl_X11_25 dX11_needKind_1 ?_
  refine c_getb C hM (k := 2) (f := 10) (j := 1) (t := 14) (hM.cst 2 0 rfl) (by decide) fl_X11_177 dX11_needKind_4 ?_
  refine lv_iload_n hx hb dX11_needKind_7 rfl (lv_at hl 1 rfl) ?_
  obtain ⟨c_1, h⟩ := ko_of h
  refine c_cald C hM (hM.cst 14 1 rfl) (by rw [hM.ln 14 1 12 (by decide)]; exact c_1) dX11_needKind_8 ?_
  refine lv_iload_n hx hb dX11_needKind_9 rfl (lv_at hl 2 rfl) ?_
  refine lv_icmp_eq (tgt := 24) hx hb dX11_needKind_10 (by decide) (fun c_2 => ?_) (fun c_2 => ?_)
  · have h := br_T c_2 h
    refine W.widen (k := 1) (n := 6) (Nat.le_of_ble_eq_true rfl) (Nat.le_of_ble_eq_true rfl) ?_
    exact c_xr h (c_rv (o := σ) C hM (fun _ => rfl) hr hlk dX11_needKind_24 rfl)
  · have h := br_F c_2 h
    exact c_throwW (k := 3) (text := "it is of another kind") C hM (fun _ => rfl) hst hout hlk (by decide +kernel) cx_at3 cx_ot3 (wl_in (i := 638) (by decide +kernel)) (wl_in (i := 22) (by decide +kernel)) rfl dX11_needKind_13 dX11_needKind_16 dX11_needKind_17 dX11_needKind_20 dX11_needKind_23 hl.1 (Nat.le_of_ble_eq_true rfl) (Nat.le_of_ble_eq_true rfl) (Nat.le_of_ble_eq_true rfl) (Nat.le_of_ble_eq_true rfl) (Nat.le_of_ble_eq_true rfl) (Nat.le_of_ble_eq_true rfl) h
/-! Lorewick.fuel(II)I -/
abbrev rc_X11_fuel : Room := { frames := 7, cells := 3, slots := 18, locals := 112 }
def fc_X11_fuel_15 (σ : cS) : Option ((Nat ⊕ Int32) × cS) :=
    some (.inl 1, σ)
set_option maxHeartbeats 4000000 in
set_option maxRecDepth 100000 in
theorem gc_X11_fuel_15 {p : Program} {l : Launch} {e : Env} {s : State} {m : MethodId} {args : Array Value} {below : List Frame} {meth : Method} {c : Code} {D : va_G} {ca : Nat → ClassId} {A : Nat → Prop} {σ0 : cS} {α : cAl} {o : (Nat ⊕ Int32) × cS} (C : cC p s m args c cX11_fuel 4 RX11 D ca A α) (hr : meth.sig.returnType = (some FieldType.int)) (hlk : meth.locks = false) (h17 : 0 < cn σ0 17) (hst : l.stackTraces = false) (hout : ∀ x ∈ c.exceptionTable.toList, False) : ∀ (σ : cS) (H : Heap) (locs : List Loc) (ls : Array Slot), cM D ca true A s.heap σ0 α σ α H locs → lv_has ls 4 [] → fc_X11_fuel_15 σ = some o → W p l e rc_X11_fuel s m args below meth c H locs 1 6 (vx_MQ below (cQx false D ca true A α σ0 (o.1.map id (fun (v : Int32) _ => some (.int v))) o.2) (cXC false D ca true A α σ0 (o.1.map id (fun (v : Int32) _ => some (.int v))) o.2) args s 3 18 A) (F0 m 15 ls []) := by
  have hx := C.1
  have hb := C.2.1
  intro σ H locs ls hM hl h
  unfold fc_X11_fuel_15 at h
  exact c_throw (k := 1) (text := "the turns are out of range") C hM (fun _ => rfl) hst hout hlk (by decide +kernel) cx_at1 cx_ot1 (wl_in (i := 525) (by decide +kernel)) (wl_in (i := 20) (by decide +kernel)) rfl dX11_fuel_15 dX11_fuel_18 dX11_fuel_19 dX11_fuel_21 dX11_fuel_24 hl.1 (Nat.le_of_ble_eq_true rfl) (Nat.le_of_ble_eq_true rfl) (Nat.le_of_ble_eq_true rfl) (Nat.le_of_ble_eq_true rfl) (Nat.le_of_ble_eq_true rfl) (Nat.le_of_ble_eq_true rfl) h
def fc_X11_fuel (σ : cS) (x1 : Int32) (x2 : Int32) : Option ((Nat ⊕ Int32) × cS) :=
  xb (fc_X11_needThing σ x1) fun v_1 u_1 =>
  if x2 < 0 then
    fc_X11_fuel_15 u_1
  else
    if x2 ≤ (99 : Int32) then
      xb (fc_X11_needKind u_1 x1 (108 : Int32)) fun v_2 u_2 =>
      xb (fc_X11_needNoPlay u_2) fun v_3 u_3 =>
      if x1 < 0 ∨ 12 ≤ x1.toNatClampNeg then none else
      if x1 < 0 ∨ 12 ≤ x1.toNatClampNeg then none else
      some (.inr (cI u_3 12 7 x1.toNatClampNeg), (uI u_3 12 7 x1.toNatClampNeg x2))
    else
      fc_X11_fuel_15 u_1
set_option maxHeartbeats 4000000 in
set_option maxRecDepth 100000 in
theorem cc_X11_fuel (l : Launch) (hst : l.stackTraces = false) (D : va_G) (ca : Nat → ClassId) (A : Nat → Prop) (α : cAl) (σ : cS) (x1 : Int32) (x2 : Int32) (o : (Nat ⊕ Int32) × cS) (h : fc_X11_fuel σ x1 x2 = some o) : cMetX false l yX11_fuel cX11_fuel 4 ((some FieldType.int)) rc_X11_fuel 3 18 D ca true A α σ [cr α 0 (some 0), .int x1, .int x2] (o.1.map id (fun (v : Int32) _ => some (.int v))) o.2 := by
  refine vx_ofW (cc := cX11_fuel) (maxL := 4) (ret := (some FieldType.int)) (by decide) rfl ?_
  intro p e s m args below meth c s₁ B hml hout hv
  obtain ⟨rfl, hP, hK, hD0, hSh, hA, hG⟩ := hv
  have C : cC p s m _ c cX11_fuel 4 RX11 D ca A α := ⟨B.exec, B.bytes, hml, findClass_of_methodNamed B.named, fun w hw => atoms_spec (ws := mWs yX11_fuel cX11_fuel 4 ((some FieldType.int))) B.pre w (List.mem_cons_of_mem _ hw), hK, hG⟩
  have hM : cM D ca true A s.heap σ α σ α s.heap [] := ⟨hP, hD0, hSh, va_S.rf, hA, cX.rf⟩
  have h17 : 0 < cn σ 17 := c_17 hM
  have hr := B.returns
  have hlk := B.notSynchronized
  have hx := C.1
  have hb := C.2.1
  have hl := lv_entry ([cr α 0 (some 0), .int x1, .int x2]) (n := 4) (Nat.le_of_ble_eq_true rfl)
  rw [lg_entry_eq]
  generalize (lg_sl ([cr α 0 (some 0), .int x1, .int x2]) ++ List.replicate (4 - (lg_sl ([cr α 0 (some 0), .int x1, .int x2])).length) Slot.unset).toArray = ls at hl ⊢
  have hl : lv_has ls 4 [(0, cr α 0 (some 0)), (1, .int x1), (2, .int x2)] := hl
  unfold fc_X11_fuel at h
  refine c_aload_n (t := 0) (x := (some 0)) hx hb dX11_fuel_0 rfl (lv_at hl 0 rfl) ?_
  refine lv_iload_n hx hb dX11_fuel_1 rfl (lv_at hl 1 rfl) ?_
  obtain ⟨r_1, u_1, hr_1⟩ := xb_some h
  refine c_gox2 (T := (fun (_ : Unit) _ => none)) (T2 := (fun (v : Int32) _ => some (.int v))) h hr_1 (c_rVx (As := [.int x1]) (rest := []) C hM h17 (hM.cst 0 0 rfl) (by decide) (cc_X11_needThing l hst D ca A α σ x1 _ hr_1) cw_X11_148 ⟨rfl, rfl⟩ ⟨Nat.le_of_ble_eq_true rfl, Nat.le_of_ble_eq_true rfl⟩ rfl rfl (cats_le _ (Nat.le_of_ble_eq_true rfl)) hl.1 dX11_fuel_2 ⟨Nat.le_of_ble_eq_true rfl, Nat.le_of_ble_eq_true rfl⟩) C hM (fun _ => ⟨rfl, rfl⟩) hout hlk (Nat.le_of_ble_eq_true rfl) (Nat.le_of_ble_eq_true rfl) (fun v_1 H locs α9 hα h hX_1 hM => ?_)
  obtain rfl : α = α9 := (hα rfl).symm
  refine W_st (st' := []) rfl ?_
  refine lv_iload_n hx hb dX11_fuel_5 rfl (lv_at hl 2 rfl) ?_
  refine lv_if_lt (tgt := 15) hx hb dX11_fuel_6 (by decide) (fun c_1 => ?_) (fun c_1 => ?_)
  · have h := br_T c_1 h
    exact gc_X11_fuel_15 C hr hlk h17 hst hout  _ _ _ _ hM (lv_sub hl [] rfl) h
  · have h := br_F c_1 h
    refine lv_iload_n hx hb dX11_fuel_9 rfl (lv_at hl 2 rfl) ?_
    refine lv_bipush (v := (99 : Int32)) hx hb dX11_fuel_10 (by decide) ?_
    refine lv_icmp_le (tgt := 25) hx hb dX11_fuel_12 (by decide) (fun c_2 => ?_) (fun c_2 => ?_)
    · have h := br_T c_2 h
      refine c_aload_n (t := 0) (x := (some 0)) hx hb dX11_fuel_25 rfl (lv_at hl 0 rfl) ?_
      refine lv_iload_n hx hb dX11_fuel_26 rfl (lv_at hl 1 rfl) ?_
      refine lv_bipush (v := (108 : Int32)) hx hb dX11_fuel_27 (by decide) ?_
      obtain ⟨r_2, u_2, hr_2⟩ := xb_some h
      refine c_gox2 (T := (fun (_ : Unit) _ => none)) (T2 := (fun (v : Int32) _ => some (.int v))) h hr_2 (c_rVx (As := [.int x1, .int (108 : Int32)]) (rest := []) C hM h17 (hM.cst 0 0 rfl) (by decide) (cc_X11_needKind l hst D ca A α u_1 x1 (108 : Int32) _ hr_2) cw_X11_186 ⟨rfl, rfl⟩ ⟨Nat.le_of_ble_eq_true rfl, Nat.le_of_ble_eq_true rfl⟩ rfl rfl (cats_le _ (Nat.le_of_ble_eq_true rfl)) hl.1 dX11_fuel_29 ⟨Nat.le_of_ble_eq_true rfl, Nat.le_of_ble_eq_true rfl⟩) C hM (fun _ => ⟨rfl, rfl⟩) hout hlk (Nat.le_of_ble_eq_true rfl) (Nat.le_of_ble_eq_true rfl) (fun v_2 H locs α9 hα h hX_2 hM => ?_)
      obtain rfl : α = α9 := (hα rfl).symm
      refine W_st (st' := []) rfl ?_
      refine c_aload_n (t := 0) (x := (some 0)) hx hb dX11_fuel_32 rfl (lv_at hl 0 rfl) ?_
      obtain ⟨r_3, u_3, hr_3⟩ := xb_some h
      refine c_gox2 (T := (fun (_ : Unit) _ => none)) (T2 := (fun (v : Int32) _ => some (.int v))) h hr_3 (c_rVx (As := []) (rest := []) C hM h17 (hM.cst 0 0 rfl) (by decide) (cc_X11_needNoPlay l hst D ca A α u_2 _ hr_3) cw_X11_110 ⟨rfl, rfl⟩ ⟨Nat.le_of_ble_eq_true rfl, Nat.le_of_ble_eq_true rfl⟩ rfl rfl (cats_le _ (Nat.le_of_ble_eq_true rfl)) hl.1 dX11_fuel_33 ⟨Nat.le_of_ble_eq_true rfl, Nat.le_of_ble_eq_true rfl⟩) C hM (fun _ => ⟨rfl, rfl⟩) hout hlk (Nat.le_of_ble_eq_true rfl) (Nat.le_of_ble_eq_true rfl) (fun v_3 H locs α9 hα h hX_3 hM => ?_)
      obtain rfl : α = α9 := (hα rfl).symm
      refine W_st (st' := []) rfl ?_
      refine c_aload_n (t := 0) (x := (some 0)) hx hb dX11_fuel_36 rfl (lv_at hl 0 rfl) ?_
      refine c_getb C hM (k := 0) (f := 1) (j := 0) (t := 2) (hM.cst 0 0 rfl) (by decide) fl_X11_25 dX11_fuel_37 ?_
      refine c_getb C hM (k := 2) (f := 11) (j := 7) (t := 12) (hM.cst 2 0 rfl) (by decide) fl_X11_181 dX11_fuel_40 ?_
      refine lv_iload_n hx hb dX11_fuel_43 rfl (lv_at hl 1 rfl) ?_
      obtain ⟨c_3, h⟩ := ko_of h
      refine c_iald C hM (hM.cst 12 7 rfl) (by rw [hM.ln 12 7 12 (by decide)]; exact c_3) dX11_fuel_44 ?_
      refine lv_istore_n (lv' := [(3, .int (cI u_3 12 7 x1.toNatClampNeg)), (0, cr α 0 (some 0)), (1, .int x1), (2, .int x2)]) hx hb dX11_fuel_45 rfl hl (by decide) rfl (fun ls hl => ?_)
      refine c_aload_n (t := 0) (x := (some 0)) hx hb dX11_fuel_46 rfl (lv_at hl 1 rfl) ?_
      refine c_getb C hM (k := 0) (f := 1) (j := 0) (t := 2) (hM.cst 0 0 rfl) (by decide) fl_X11_25 dX11_fuel_47 ?_
      refine c_getb C hM (k := 2) (f := 11) (j := 7) (t := 12) (hM.cst 2 0 rfl) (by decide) fl_X11_181 dX11_fuel_50 ?_
      refine lv_iload_n hx hb dX11_fuel_53 rfl (lv_at hl 2 rfl) ?_
      refine lv_iload_n hx hb dX11_fuel_54 rfl (lv_at hl 3 rfl) ?_
      obtain ⟨c_4, h⟩ := ko_of h
      refine c_iast C hM (hM.cst 12 7 rfl) (by rw [hM.ln 12 7 12 (by decide)]; exact c_4) dX11_fuel_55 (fun H locs hM => ?_)
      refine lv_iload_n hx hb dX11_fuel_56 rfl (lv_at hl 0 rfl) ?_
      exact c_xr h (c_ri (o := ((cI u_3 12 7 x1.toNatClampNeg), (uI u_3 12 7 x1.toNatClampNeg x2))) C hM (fun _ => rfl) hr hlk dX11_fuel_57 rfl)
    · have h := br_F c_2 h
      exact gc_X11_fuel_15 C hr hlk h17 hst hout  _ _ _ _ hM (lv_sub hl [] rfl) h
