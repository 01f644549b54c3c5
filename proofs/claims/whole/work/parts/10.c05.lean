/-! The class's methods: what each makes of the state (fc_..), as the bytecode has it; and that it does (cc_..). -/
theorem cw_X8_51 : cCallN RX8 51 yX11_includes "Lorewick" cX11_includes 3 ((some FieldType.boolean)) 2 := ⟨⟨wn_in (i := 1073) (by decide +kernel), wl_in (i := 1) (by decide +kernel), wl_in (i := 400) (by decide +kernel)⟩, by decide, by decide, by decide +kernel⟩
theorem cw_X8_44 : cCallI RX8 44 yX2_init cX2_init 7 5 := ⟨⟨wl_in (i := 973) (by decide +kernel), wl_in (i := 974) (by decide +kernel), wl_in (i := 35) (by decide +kernel), wl_in (i := 975) (by decide +kernel)⟩, rfl, by decide, by decide, by decide +kernel⟩
theorem cw_X8_47 : cCallV RX8 47 (cRn 10) yJx4a65c_add_9ea2d cJx4a65c_add_9ea2d 2 ((some FieldType.boolean)) 1 := ⟨⟨wl_in (i := 1007) (by decide +kernel), wl_in (i := 1008) (by decide +kernel), wl_in (i := 1009) (by decide +kernel), wl_in (i := 9) (by decide +kernel), wl_in (i := 1010) (by decide +kernel)⟩, rfl, by decide, by decide, by decide +kernel⟩
theorem cw_X8_40 : cCallV RX8 40 (cRn 4) yX8_current cX8_current 1 ((some (FieldType.object "Lorewick$Node"))) 0 := ⟨⟨wl_in (i := 968) (by decide +kernel), wl_in (i := 969) (by decide +kernel), wl_in (i := 970) (by decide +kernel), wl_in (i := 6) (by decide +kernel), wl_in (i := 971) (by decide +kernel)⟩, rfl, by decide, by decide, by decide +kernel⟩
theorem fl_X8_55 : Cond.fieldLink RX8 55 (cTt 7 1).1 (cTt 7 1).2.1 (cTt 7 1).2.2.1 ∈ wl := wl_in (i := 983) (by decide +kernel)
theorem fl_X8_59 : Cond.fieldLink RX8 59 (cTt 7 2).1 (cTt 7 2).2.1 (cTt 7 2).2.2.1 ∈ wl := wl_in (i := 986) (by decide +kernel)
theorem cw_X8_63 : cCallV RX8 63 (cRn 8) yX1_isSame cX1_isSame 2 ((some FieldType.boolean)) 1 := ⟨⟨wl_in (i := 1156) (by decide +kernel), wl_in (i := 1157) (by decide +kernel), wl_in (i := 1158) (by decide +kernel), wl_in (i := 32) (by decide +kernel), wl_in (i := 1159) (by decide +kernel)⟩, rfl, by decide, by decide, by decide +kernel⟩
theorem fl_X8_69 : Cond.fieldLink RX8 69 (cTt 7 5).1 (cTt 7 5).2.1 (cTt 7 5).2.2.1 ∈ wl := wl_in (i := 992) (by decide +kernel)
theorem cw_X8_76 : cCallV RX8 76 (cRn 4) yX8_rarerThan cX8_rarerThan 7 ((some FieldType.int)) 2 := ⟨⟨wl_in (i := 1395) (by decide +kernel), wl_in (i := 1396) (by decide +kernel), wl_in (i := 1397) (by decide +kernel), wl_in (i := 6) (by decide +kernel), wl_in (i := 1398) (by decide +kernel)⟩, rfl, by decide, by decide, by decide +kernel⟩
theorem fl_X10_60 : Cond.fieldLink RX10 60 (cTt 2 1).1 (cTt 2 1).2.1 (cTt 2 1).2.2.1 ∈ wl := wl_in (i := 85) (by decide +kernel)
theorem fl_X10_64 : Cond.fieldLink RX10 64 (cTt 2 6).1 (cTt 2 6).2.1 (cTt 2 6).2.2.1 ∈ wl := wl_in (i := 99) (by decide +kernel)
theorem fl_X11_73 : Cond.fieldLink RX11 73 (cTt 1 3).1 (cTt 1 3).2.1 (cTt 1 3).2.2.1 ∈ wl := wl_in (i := 62) (by decide +kernel)
theorem cw_X11_82 : cCallV RX11 82 (cRn 1) yX7_add cX7_add 2 ((none : Option FieldType)) 1 := ⟨⟨wl_in (i := 613) (by decide +kernel), wl_in (i := 614) (by decide +kernel), wl_in (i := 615) (by decide +kernel), wl_in (i := 2) (by decide +kernel), wl_in (i := 616) (by decide +kernel)⟩, rfl, by decide, by decide, by decide +kernel⟩
/-! Lorewick$Tree.add(LLorewick$Command;LLorewick$State;J)LLorewick$Node; -/
abbrev rc_X8_add : Room := { frames := 8, cells := 6, slots := 246, locals := 228 }
def fc_X8_add_76 (k_49 : cS → Int64 → Option Nat → Int32 → Option (Option Nat × cS)) (σ : cS) (x3 : Int64) (x6 : Option Nat) (x7 : Int32) : Option (Option Nat × cS) :=
    k_49 σ x3 x6 (x7 + (1 : Int32))
set_option maxHeartbeats 4000000 in
set_option maxRecDepth 100000 in
theorem gc_X8_add_76 {p : Program} {l : Launch} {e : Env} {s : State} {m : MethodId} {args : Array Value} {below : List Frame} {meth : Method} {c : Code} {D : va_G} {ca : Nat → ClassId} {A : Nat → Prop} {σ0 : cS} {α0 : cAl} {o : Option Nat × cS} {k_49 : cS → Int64 → Option Nat → Int32 → Option (Option Nat × cS)} (C : cC p s m args c cX8_add 8 RX8 D ca A α0) (hr : meth.sig.returnType = (some (FieldType.object "Lorewick$Node"))) (hlk : meth.locks = false) (h17 : 0 < cn σ0 17) (hk_49 : ∀ (α : cAl) (σ : cS) (x3 : Int64) (x6 : Option Nat) (x7 : Int32) (H : Heap) (locs : List Loc) (ls : Array Slot), cM D ca true A s.heap σ0 α0 σ α H locs → lv_has ls 8 [(0, cr α 4 (some 0)), (3, .long x3), (6, cr α 7 x6), (7, .int x7)] → k_49 σ x3 x6 x7 = some o → W p l e rc_X8_add s m args below meth c H locs 6 246 (MQ below (cQ true D ca true A α0 σ0 (fun α1 => some (cr α1 7 o.1)) o.2) args s 6 246 A) (F0 m 49 ls [])) : ∀ (α : cAl) (σ : cS) (x3 : Int64) (x6 : Option Nat) (x7 : Int32) (H : Heap) (locs : List Loc) (ls : Array Slot), cM D ca true A s.heap σ0 α0 σ α H locs → lv_has ls 8 [(0, cr α 4 (some 0)), (3, .long x3), (6, cr α 7 x6), (7, .int x7)] → fc_X8_add_76 k_49 σ x3 x6 x7 = some o → W p l e rc_X8_add s m args below meth c H locs 6 246 (MQ below (cQ true D ca true A α0 σ0 (fun α1 => some (cr α1 7 o.1)) o.2) args s 6 246 A) (F0 m 76 ls []) := by
  have hx := C.1
  have hb := C.2.1
  intro α σ x3 x6 x7 H locs ls hM hl h
  unfold fc_X8_add_76 at h
  refine lv_iinc (v := (x7 + (1 : Int32))) (lv' := [(7, .int (x7 + (1 : Int32))), (0, cr α 4 (some 0)), (3, .long x3), (6, cr α 7 x6)]) hx hb dX8_add_76 hl (k := 3) rfl rfl (by decide) (by first | rfl | (simp only [List.filter, cr_cat]; rfl)) (fun ls hl => ?_)
  refine lv_goto (tgt := 49) hx hb dX8_add_79 (by decide) ?_
  exact hk_49 α _ _ _ _ _ _ _ hM (lv_sub hl [1, 2, 3, 0] rfl) h
def fc_X8_add_49 : Nat → cS → Int64 → Option Nat → Int32 → Option (Option Nat × cS)
  | 0, _, _, _, _ => none
  | n + 1, σ, x3, x6, x7 =>
    if (40 : Int32) ≤ x7 then
      some (x6, σ)
    else
      (fc_X11_includes σ x3 x7).bind fun r_1 =>
      if r_1.1 = 0 then
        fc_X8_add_76 (fc_X8_add_49 n) r_1.2 x3 x6 x7
      else
        if x7 < 0 ∨ 40 ≤ x7.toNatClampNeg then none else
        if x7 < 0 ∨ 40 ≤ x7.toNatClampNeg then none else
        fc_X8_add_76 (fc_X8_add_49 n) (uI r_1.2 12 11 x7.toNatClampNeg ((cI r_1.2 12 11 x7.toNatClampNeg) + (1 : Int32))) x3 x6 x7
set_option maxHeartbeats 4000000 in
set_option maxRecDepth 100000 in
theorem gc_X8_add_49 {p : Program} {l : Launch} {e : Env} {s : State} {m : MethodId} {args : Array Value} {below : List Frame} {meth : Method} {c : Code} {D : va_G} {ca : Nat → ClassId} {A : Nat → Prop} {σ0 : cS} {α0 : cAl} {o : Option Nat × cS} (C : cC p s m args c cX8_add 8 RX8 D ca A α0) (hr : meth.sig.returnType = (some (FieldType.object "Lorewick$Node"))) (hlk : meth.locks = false) (h17 : 0 < cn σ0 17) : ∀ (n : Nat) (α : cAl) (σ : cS) (x3 : Int64) (x6 : Option Nat) (x7 : Int32) (H : Heap) (locs : List Loc) (ls : Array Slot), cM D ca true A s.heap σ0 α0 σ α H locs → lv_has ls 8 [(0, cr α 4 (some 0)), (3, .long x3), (6, cr α 7 x6), (7, .int x7)] → fc_X8_add_49 n σ x3 x6 x7 = some o → W p l e rc_X8_add s m args below meth c H locs 6 246 (MQ below (cQ true D ca true A α0 σ0 (fun α1 => some (cr α1 7 o.1)) o.2) args s 6 246 A) (F0 m 49 ls []) := by
  have hx := C.1
  have hb := C.2.1
  intro n
  induction n with
  | zero =>
    intro α σ x3 x6 x7 H locs ls hM hl h
    cases h
  | succ n ih =>
    intro α σ x3 x6 x7 H locs ls hM hl h
    rw [fc_X8_add_49] at h
    refine lv_iload hx hb dX8_add_49 (lv_at hl 3 rfl) ?_
    refine lv_bipush (v := (40 : Int32)) hx hb dX8_add_51 (by decide) ?_
    refine lv_icmp_ge (tgt := 82) hx hb dX8_add_53 (by decide) (fun c_1 => ?_) (fun c_1 => ?_)
    · have h := br_T c_1 h
      refine c_aload (t := 7) (x := x6) hx hb dX8_add_82 (lv_at hl 2 rfl) ?_
      exact c_ra (k := 7) (v := x6) C hM (fun h => by cases h) hr rfl hlk dX8_add_84 h
    · have h := br_F c_1 h
      refine lv_lload_n hx hb dX8_add_56 rfl (lv_at hl 1 rfl) ?_
      refine lv_iload hx hb dX8_add_57 (lv_at hl 3 rfl) ?_
      obtain ⟨r_1, hr_1, h⟩ := bd_of h
      refine c_go0 (c_rSN (As := [.long x3, .int x7]) (rest := []) C hM h17 (cc_X11_includes l D ca A α σ x3 x7 _ hr_1) cw_X8_51 (wl_in (i := 399) (by decide +kernel)) ⟨rfl, rfl⟩ ⟨Nat.le_of_ble_eq_true rfl, Nat.le_of_ble_eq_true rfl⟩ rfl rfl (cats_le _ (Nat.le_of_ble_eq_true rfl)) hl.1 dX8_add_59 ⟨Nat.le_of_ble_eq_true rfl, Nat.le_of_ble_eq_true rfl⟩) hM (fun H locs hM => ?_)
      refine W_st (st' := [.int r_1.1]) rfl ?_
      refine lv_if_eq (tgt := 76) hx hb dX8_add_62 (by decide) (fun c_2 => ?_) (fun c_2 => ?_)
      · have h := br_T c_2 h
        exact gc_X8_add_76 C hr hlk h17 ih α _ _ _ _ _ _ _ hM (lv_sub hl [0, 1, 2, 3] rfl) h
      · have h := br_F c_2 h
        refine c_aload_n (t := 4) (x := (some 0)) hx hb dX8_add_65 rfl (lv_at hl 0 rfl) ?_
        refine c_getb C hM (k := 4) (f := 1) (j := 11) (t := 12) (hM.cst 4 0 rfl) (by decide) fl_X8_18 dX8_add_66 ?_
        refine lv_iload hx hb dX8_add_69 (lv_at hl 3 rfl) ?_
        refine lv_dup2_11 hx hb dX8_add_71 rfl cr_cat ?_
        obtain ⟨c_3, h⟩ := ko_of h
        refine c_iald C hM (hM.cst 12 11 rfl) (by rw [hM.ln 12 11 40 (by decide)]; exact c_3) dX8_add_72 ?_
        refine lv_iconst (v := (1 : Int32)) hx hb dX8_add_73 (by decide) ?_
        refine lv_iadd hx hb dX8_add_74 ?_
        obtain ⟨c_4, h⟩ := ko_of h
        refine c_iast C hM (hM.cst 12 11 rfl) (by rw [hM.ln 12 11 40 (by decide)]; exact c_4) dX8_add_75 (fun H locs hM => ?_)
        exact gc_X8_add_76 C hr hlk h17 ih α _ _ _ _ _ _ _ hM (lv_sub hl [0, 1, 2, 3] rfl) h
def fc_X8_add_28 (σ : cS) (x1 : Option Nat) (x2 : Option Nat) (x3 : Int64) (s0 : Option Nat) (s1 : Int32) (s2 : Option Nat) (s3 : Option Nat) : Option (Option Nat × cS) :=
    (dr σ 7 s2).bind fun i_2 =>
    if ¬ (lvq σ 7 s3 = true) then none else
    (fc_X2_init σ s2 s1 s0 x1 x2 x3).bind fun r_1 =>
    if ¬ (lvq r_1 7 s3 = true) then none else
    (fc_Jx4a65c_add_9ea2d r_1 (some 0) s3 7).bind fun r_5 =>
    fc_X8_add_49 3000 r_5.2 x3 s3 (0 : Int32)
set_option maxHeartbeats 4000000 in
set_option maxRecDepth 100000 in
theorem gc_X8_add_28 {p : Program} {l : Launch} {e : Env} {s : State} {m : MethodId} {args : Array Value} {below : List Frame} {meth : Method} {c : Code} {D : va_G} {ca : Nat → ClassId} {A : Nat → Prop} {σ0 : cS} {α0 : cAl} {o : Option Nat × cS} (C : cC p s m args c cX8_add 8 RX8 D ca A α0) (hr : meth.sig.returnType = (some (FieldType.object "Lorewick$Node"))) (hlk : meth.locks = false) (h17 : 0 < cn σ0 17) : ∀ (α : cAl) (σ : cS) (x1 : Option Nat) (x2 : Option Nat) (x3 : Int64) (s0 : Option Nat) (s1 : Int32) (s2 : Option Nat) (s3 : Option Nat) (H : Heap) (locs : List Loc) (ls : Array Slot), cM D ca true A s.heap σ0 α0 σ α H locs → lv_has ls 8 [(0, cr α 4 (some 0)), (1, cr α 8 x1), (2, cr α 6 x2), (3, .long x3)] → fc_X8_add_28 σ x1 x2 x3 s0 s1 s2 s3 = some o → W p l e rc_X8_add s m args below meth c H locs 1 6 (MQ below (cQ true D ca true A α0 σ0 (fun α1 => some (cr α1 7 o.1)) o.2) args s 6 246 A) (F0 m 28 ls [cr α 7 s0, .int s1, cr α 7 s2, cr α 7 s3]) := by
  have hx := C.1
  have hb := C.2.1
  intro α σ x1 x2 x3 s0 s1 s2 s3 H locs ls hM hl h
  unfold fc_X8_add_28 at h
  refine c_aload_n (t := 8) (x := x1) hx hb dX8_add_28 rfl (lv_at hl 1 rfl) ?_
  refine c_aload_n (t := 6) (x := x2) hx hb dX8_add_29 rfl (lv_at hl 2 rfl) ?_
  refine lv_lload_n hx hb dX8_add_30 rfl (lv_at hl 3 rfl) ?_
  obtain ⟨i_2, hd_2, h⟩ := bd_of h
  have hlv_3 := c_lvc hM 4 0 rfl
  obtain ⟨c_1, h⟩ := ko_of h
  have hlv_4 := (Classical.not_not.mp c_1)
  obtain ⟨r_1, hr_1, h⟩ := bd_of h
  refine c_go1 (c_rI (As := [.int s1, cr α 7 s0, cr α 8 x1, cr α 6 x2, .long x3]) (rest := [cr α 7 s3]) C hM h17 hd_2 (cc_X2_init l D ca A α σ s2 s1 s0 x1 x2 x3 _ hr_1) cw_X8_44 ⟨rfl, rfl⟩ ⟨Nat.le_of_ble_eq_true rfl, Nat.le_of_ble_eq_true rfl⟩ rfl rfl (cats_le _ (Nat.le_of_ble_eq_true rfl)) hl.1 dX8_add_31 ⟨Nat.le_of_ble_eq_true rfl, Nat.le_of_ble_eq_true rfl⟩) hM (fun H locs α_1 hX_1 hM => ?_)
  have e_3 : cr α 4 (some 0) = cr α_1 4 (some 0) := cr_to hX_1 hlv_3
  have e_4 : cr α 7 s3 = cr α_1 7 s3 := cr_to hX_1 hlv_4
  have hl := lv_to (lv_sub hl [0, 3] rfl) (show ([(0, cr α 4 (some 0)), (3, .long x3)] : List (Nat × Value)) = [(0, cr α_1 4 (some 0)), (3, .long x3)] by rw [e_3])
  refine W_st (st' := [cr α_1 7 s3]) (show ([cr α 7 s3] : List Value) = _ by rw [e_4]) ?_
  refine c_astore (t := 7) (x := s3) (lv' := [(6, cr α_1 7 s3), (0, cr α_1 4 (some 0)), (3, .long x3)]) hx hb dX8_add_34 hl (by decide) rfl (fun ls hl => ?_)
  refine c_aload_n (t := 4) (x := (some 0)) hx hb dX8_add_36 rfl (lv_at hl 1 rfl) ?_
  refine c_getb C hM (k := 4) (f := 0) (j := 0) (t := 10) (hM.cst 4 0 rfl) (by decide) fl_X8_12 dX8_add_37 ?_
  refine c_aload (t := 7) (x := s3) hx hb dX8_add_40 (lv_at hl 0 rfl) ?_
  obtain ⟨c_2, h⟩ := ko_of h
  have hlv_6 := (Classical.not_not.mp c_2)
  have hlv_7 := c_lvc hM 4 0 rfl
  obtain ⟨r_5, hr_5, h⟩ := bd_of h
  refine c_go1 (c_rV (As := [cr α_1 7 s3]) (rest := []) C hM h17 (hM.cst 10 0 rfl) (by decide) (cc_Jx4a65c_add_9ea2d l D ca A α_1 r_1 (some 0) s3 7 _ hr_5) cw_X8_47 ⟨rfl, rfl⟩ ⟨Nat.le_of_ble_eq_true rfl, Nat.le_of_ble_eq_true rfl⟩ rfl rfl (cats_le _ (Nat.le_of_ble_eq_true rfl)) hl.1 dX8_add_42 ⟨Nat.le_of_ble_eq_true rfl, Nat.le_of_ble_eq_true rfl⟩) hM (fun H locs α_2 hX_5 hM => ?_)
  have e_6 : cr α_1 7 s3 = cr α_2 7 s3 := cr_to hX_5 hlv_6
  have e_7 : cr α_1 4 (some 0) = cr α_2 4 (some 0) := cr_to hX_5 hlv_7
  have hl := lv_to (lv_sub hl [0, 1, 2] rfl) (show ([(6, cr α_1 7 s3), (0, cr α_1 4 (some 0)), (3, .long x3)] : List (Nat × Value)) = [(6, cr α_2 7 s3), (0, cr α_2 4 (some 0)), (3, .long x3)] by rw [e_6, e_7])
  refine W_st (st' := [.int r_5.1]) rfl ?_
  refine lv_pop hx hb dX8_add_45 rfl ?_
  refine lv_iconst (v := (0 : Int32)) hx hb dX8_add_46 (by decide) ?_
  refine lv_istore (lv' := [(7, .int (0 : Int32)), (6, cr α_2 7 s3), (0, cr α_2 4 (some 0)), (3, .long x3)]) hx hb dX8_add_47 hl (by decide) (by first | rfl | (simp only [List.filter, cr_cat]; rfl)) (fun ls hl => ?_)
  exact gc_X8_add_49 C hr hlk h17  _ α_2 _ _ _ _ _ _ _ hM (lv_sub hl [2, 3, 1, 0] rfl) h
def fc_X8_add (σ : cS) (x1 : Option Nat) (x2 : Option Nat) (x3 : Int64) : Option (Option Nat × cS) :=
  (fc_Jx4a65c_size_8abf5 σ (some 0)).bind fun r_1 =>
  if ¬ (lvq r_1.2 8 x1 = true) then none else
  if ¬ (lvq r_1.2 6 x2 = true) then none else
  if r_1.1 = 0 then
    fc_X8_add_28 (uN r_1.2 7 0 0) x1 x2 x3 none r_1.1 (some (cn r_1.2 7)) (some (cn r_1.2 7))
  else
    (fc_X8_current (uN r_1.2 7 0 0)).bind fun r_6 =>
    fc_X8_add_28 r_6.2 x1 x2 x3 r_6.1 r_1.1 (some (cn r_1.2 7)) (some (cn r_1.2 7))
set_option maxHeartbeats 4000000 in
set_option maxRecDepth 100000 in
theorem cc_X8_add (l : Launch) (D : va_G) (ca : Nat → ClassId) (A : Nat → Prop) (α : cAl) (σ : cS) (x1 : Option Nat) (x2 : Option Nat) (x3 : Int64) (o : Option Nat × cS) (h : fc_X8_add σ x1 x2 x3 = some o) : cMet true l yX8_add cX8_add 8 ((some (FieldType.object "Lorewick$Node"))) rc_X8_add 6 246 D ca true A α σ [cr α 4 (some 0), cr α 8 x1, cr α 6 x2, .long x3] (fun α1 => some (cr α1 7 o.1)) o.2 := by
  refine Met.ofW (cc := cX8_add) (maxL := 8) (ret := (some (FieldType.object "Lorewick$Node"))) (by decide) rfl ?_
  intro p e s m args below meth c s₁ B hml hv
  obtain ⟨rfl, hP, hK, hD0, hSh, hA, hG⟩ := hv
  have C : cC p s m _ c cX8_add 8 RX8 D ca A α := ⟨B.exec, B.bytes, hml, findClass_of_methodNamed B.named, fun w hw => atoms_spec (ws := mWs yX8_add cX8_add 8 ((some (FieldType.object "Lorewick$Node")))) B.pre w (List.mem_cons_of_mem _ hw), hK, hG⟩
  have hM : cM D ca true A s.heap σ α σ α s.heap [] := ⟨hP, hD0, hSh, va_S.rf, hA, cX.rf⟩
  have h17 : 0 < cn σ 17 := c_17 hM
  have hr := B.returns
  have hlk := B.notSynchronized
  have hx := C.1
  have hb := C.2.1
  have hl := lv_entry ([cr α 4 (some 0), cr α 8 x1, cr α 6 x2, .long x3]) (n := 8) (by simp [lg_r, lg_i, lg_l, lg_n])
  rw [lg_entry_eq]
  generalize (lg_sl ([cr α 4 (some 0), cr α 8 x1, cr α 6 x2, .long x3]) ++ List.replicate (8 - (lg_sl ([cr α 4 (some 0), cr α 8 x1, cr α 6 x2, .long x3])).length) Slot.unset).toArray = ls at hl ⊢
  have hl : lv_has ls 8 [(0, cr α 4 (some 0)), (1, cr α 8 x1), (2, cr α 6 x2), (3, .long x3)] := (lv_to hl (by simp only [la_r, la_i, la_l, la_n]))
  unfold fc_X8_add at h
  refine c_aload_n (t := 4) (x := (some 0)) hx hb dX8_add_0 rfl (lv_at hl 0 rfl) ?_
  refine c_getb C hM (k := 4) (f := 0) (j := 0) (t := 10) (hM.cst 4 0 rfl) (by decide) fl_X8_12 dX8_add_1 ?_
  obtain ⟨r_1, hr_1, h⟩ := bd_of h
  refine c_go0 (c_rV (As := []) (rest := []) C hM h17 (hM.cst 10 0 rfl) (by decide) (cc_Jx4a65c_size_8abf5 l D ca A α σ (some 0) _ hr_1) cw_X8_26 ⟨rfl, rfl⟩ ⟨Nat.le_of_ble_eq_true rfl, Nat.le_of_ble_eq_true rfl⟩ rfl rfl (cats_le _ (Nat.le_of_ble_eq_true rfl)) hl.1 dX8_add_4 ⟨Nat.le_of_ble_eq_true rfl, Nat.le_of_ble_eq_true rfl⟩) hM (fun H locs hM => ?_)
  refine W_st (st' := [.int r_1.1]) rfl ?_
  refine lv_istore (lv' := [(5, .int r_1.1), (0, cr α 4 (some 0)), (1, cr α 8 x1), (2, cr α 6 x2), (3, .long x3)]) hx hb dX8_add_7 hl (by decide) rfl (fun ls hl => ?_)
  have hlv_3 := c_lvc hM 4 0 rfl
  obtain ⟨c_1, h⟩ := ko_of h
  have hlv_4 := (Classical.not_not.mp c_1)
  obtain ⟨c_2, h⟩ := ko_of h
  have hlv_5 := (Classical.not_not.mp c_2)
  refine c_new (k := 7) C hM (by decide) ⟨⟨wl_in (i := 966) (by decide +kernel), wl_in (i := 967) (by decide +kernel)⟩, wl_in (i := 35) (by decide +kernel)⟩ (Nat.le_of_ble_eq_true rfl) (Nat.le_of_ble_eq_true rfl) dX8_add_9 (fun H α_1 hX_2 hM => ?_)
  have e_3 : cr α 4 (some 0) = cr α_1 4 (some 0) := cr_to hX_2 hlv_3
  have e_4 : cr α 8 x1 = cr α_1 8 x1 := cr_to hX_2 hlv_4
  have e_5 : cr α 6 x2 = cr α_1 6 x2 := cr_to hX_2 hlv_5
  have hl := lv_to (lv_sub hl [0, 1, 2, 3, 4] rfl) (show ([(5, .int r_1.1), (0, cr α 4 (some 0)), (1, cr α 8 x1), (2, cr α 6 x2), (3, .long x3)] : List (Nat × Value)) = [(5, .int r_1.1), (0, cr α_1 4 (some 0)), (1, cr α_1 8 x1), (2, cr α_1 6 x2), (3, .long x3)] by rw [e_3, e_4, e_5])
  refine W_st (st' := [cr α_1 7 (some (cn r_1.2 7))]) rfl ?_
  refine lv_dup hx hb dX8_add_12 cr_cat ?_
  refine lv_iload hx hb dX8_add_13 (lv_at hl 0 rfl) ?_
  refine lv_iload hx hb dX8_add_15 (lv_at hl 0 rfl) ?_
  refine lv_if_ne (tgt := 24) hx hb dX8_add_17 (by decide) (fun c_3 => ?_) (fun c_3 => ?_)
  · have h := br_F c_3 h
    refine c_aload_n (t := 4) (x := (some 0)) hx hb dX8_add_24 rfl (lv_at hl 1 rfl) ?_
    obtain ⟨r_6, hr_6, h⟩ := bd_of h
    refine c_go0 (c_rV (As := []) (rest := [.int r_1.1, cr α_1 7 (some (cn r_1.2 7)), cr α_1 7 (some (cn r_1.2 7))]) C hM h17 (hM.cst 4 0 rfl) (by decide) (cc_X8_current l D ca A α_1 (uN r_1.2 7 0 0) _ hr_6) cw_X8_40 ⟨rfl, rfl⟩ ⟨Nat.le_of_ble_eq_true rfl, Nat.le_of_ble_eq_true rfl⟩ rfl rfl (cats_le _ (Nat.le_of_ble_eq_true rfl)) hl.1 dX8_add_25 ⟨Nat.le_of_ble_eq_true rfl, Nat.le_of_ble_eq_true rfl⟩) hM (fun H locs hM => ?_)
    refine W_st (st' := [cr α_1 7 r_6.1, .int r_1.1, cr α_1 7 (some (cn r_1.2 7)), cr α_1 7 (some (cn r_1.2 7))]) rfl ?_
    exact gc_X8_add_28 C hr hlk h17  α_1 _ _ _ _ _ _ _ _ _ _ _ hM (lv_sub hl [1, 2, 3, 4] rfl) h
  · have h := br_T c_3 h
    refine lv_null hx hb dX8_add_20 ?_
    refine lv_goto (tgt := 28) hx hb dX8_add_21 (by decide) ?_
    exact gc_X8_add_28 C hr hlk h17  α_1 _ _ _ _ _ _ _ _ _ _ _ hM (lv_sub hl [1, 2, 3, 4] rfl) h
/-! Lorewick$Tree.childBy(LLorewick$Command;)I -/
abbrev rc_X8_childBy : Room := { frames := 5, cells := 0, slots := 0, locals := 122 }
def fc_X8_childBy_59 (k_12 : cS → Option Nat → Option Nat → Int32 → Option (Int32 × cS)) (σ : cS) (x1 : Option Nat) (x2 : Option Nat) (x3 : Int32) : Option (Int32 × cS) :=
    k_12 σ x1 x2 (x3 + (1 : Int32))
set_option maxHeartbeats 4000000 in
set_option maxRecDepth 100000 in
theorem gc_X8_childBy_59 {p : Program} {l : Launch} {e : Env} {s : State} {m : MethodId} {args : Array Value} {below : List Frame} {meth : Method} {c : Code} {D : va_G} {ca : Nat → ClassId} {A : Nat → Prop} {σ0 : cS} {α : cAl} {o : Int32 × cS} {k_12 : cS → Option Nat → Option Nat → Int32 → Option (Int32 × cS)} (C : cC p s m args c cX8_childBy 5 RX8 D ca A α) (hr : meth.sig.returnType = (some FieldType.int)) (hlk : meth.locks = false) (h17 : 0 < cn σ0 17) (hk_12 : ∀ (σ : cS) (x1 : Option Nat) (x2 : Option Nat) (x3 : Int32) (H : Heap) (locs : List Loc) (ls : Array Slot), cM D ca true A s.heap σ0 α σ α H locs → lv_has ls 5 [(0, cr α 4 (some 0)), (1, cr α 8 x1), (2, cr α 7 x2), (3, .int x3)] → k_12 σ x1 x2 x3 = some o → W p l e rc_X8_childBy s m args below meth c H locs 0 0 (MQ below (cQ false D ca true A α σ0 (fun _ => some (.int o.1)) o.2) args s 0 0 A) (F0 m 12 ls [])) : ∀ (σ : cS) (x1 : Option Nat) (x2 : Option Nat) (x3 : Int32) (H : Heap) (locs : List Loc) (ls : Array Slot), cM D ca true A s.heap σ0 α σ α H locs → lv_has ls 5 [(0, cr α 4 (some 0)), (1, cr α 8 x1), (2, cr α 7 x2), (3, .int x3)] → fc_X8_childBy_59 k_12 σ x1 x2 x3 = some o → W p l e rc_X8_childBy s m args below meth c H locs 0 0 (MQ below (cQ false D ca true A α σ0 (fun _ => some (.int o.1)) o.2) args s 0 0 A) (F0 m 59 ls []) := by
  have hx := C.1
  have hb := C.2.1
  intro σ x1 x2 x3 H locs ls hM hl h
  unfold fc_X8_childBy_59 at h
  refine lv_iinc (v := (x3 + (1 : Int32))) (lv' := [(3, .int (x3 + (1 : Int32))), (0, cr α 4 (some 0)), (1, cr α 8 x1), (2, cr α 7 x2)]) hx hb dX8_childBy_59 hl (k := 3) rfl rfl (by decide) (by first | rfl | (simp only [List.filter, cr_cat]; rfl)) (fun ls hl => ?_)
  refine lv_goto (tgt := 12) hx hb dX8_childBy_62 (by decide) ?_
  exact hk_12 _ _ _ _ _ _ _ hM (lv_sub hl [1, 2, 3, 0] rfl) h
def fc_X8_childBy_12 : Nat → cS → Option Nat → Option Nat → Int32 → Option (Int32 × cS)
  | 0, _, _, _, _ => none
  | n + 1, σ, x1, x2, x3 =>
    (fc_Jx4a65c_size_8abf5 σ (some 0)).bind fun r_1 =>
    if r_1.1 ≤ x3 then
      some ((-1 : Int32), r_1.2)
    else
      (fc_Jx4a65c_get_915e3 r_1.2 (some 0) x3 7).bind fun r_2 =>
      if ¬ (lvq r_2.2 7 r_2.1 = true) then none else
      (dr r_2.2 7 r_2.1).bind fun i_3 =>
      if ¬ (lvq r_2.2 7 (cR r_2.2 7 i_3 1) = true) then none else
      if ¬ (lvq r_2.2 7 x2 = true) then none else
      if (cR r_2.2 7 i_3 1) = x2 then
        (dr r_2.2 8 (cR r_2.2 7 i_3 2)).bind fun i_4 =>
        (fc_X1_isSame r_2.2 (cR r_2.2 7 i_3 2) x1).bind fun r_5 =>
        if r_5.1 = 0 then
          fc_X8_childBy_59 (fc_X8_childBy_12 n) r_5.2 x1 x2 x3
        else
          some (x3, r_5.2)
      else
        fc_X8_childBy_59 (fc_X8_childBy_12 n) r_2.2 x1 x2 x3
set_option maxHeartbeats 4000000 in
set_option maxRecDepth 100000 in
theorem gc_X8_childBy_12 {p : Program} {l : Launch} {e : Env} {s : State} {m : MethodId} {args : Array Value} {below : List Frame} {meth : Method} {c : Code} {D : va_G} {ca : Nat → ClassId} {A : Nat → Prop} {σ0 : cS} {α : cAl} {o : Int32 × cS} (C : cC p s m args c cX8_childBy 5 RX8 D ca A α) (hr : meth.sig.returnType = (some FieldType.int)) (hlk : meth.locks = false) (h17 : 0 < cn σ0 17) : ∀ (n : Nat) (σ : cS) (x1 : Option Nat) (x2 : Option Nat) (x3 : Int32) (H : Heap) (locs : List Loc) (ls : Array Slot), cM D ca true A s.heap σ0 α σ α H locs → lv_has ls 5 [(0, cr α 4 (some 0)), (1, cr α 8 x1), (2, cr α 7 x2), (3, .int x3)] → fc_X8_childBy_12 n σ x1 x2 x3 = some o → W p l e rc_X8_childBy s m args below meth c H locs 0 0 (MQ below (cQ false D ca true A α σ0 (fun _ => some (.int o.1)) o.2) args s 0 0 A) (F0 m 12 ls []) := by
  have hx := C.1
  have hb := C.2.1
  intro n
  induction n with
  | zero =>
    intro σ x1 x2 x3 H locs ls hM hl h
    cases h
  | succ n ih =>
    intro σ x1 x2 x3 H locs ls hM hl h
    rw [fc_X8_childBy_12] at h
    refine lv_iload_n hx hb dX8_childBy_12 rfl (lv_at hl 3 rfl) ?_
    refine c_aload_n (t := 4) (x := (some 0)) hx hb dX8_childBy_13 rfl (lv_at hl 0 rfl) ?_
    refine c_getb C hM (k := 4) (f := 0) (j := 0) (t := 10) (hM.cst 4 0 rfl) (by decide) fl_X8_12 dX8_childBy_14 ?_
    obtain ⟨r_1, hr_1, h⟩ := bd_of h
    refine c_go0 (c_rV (As := []) (rest := [.int x3]) C hM h17 (hM.cst 10 0 rfl) (by decide) (cc_Jx4a65c_size_8abf5 l D ca A α σ (some 0) _ hr_1) cw_X8_26 ⟨rfl, rfl⟩ ⟨Nat.le_of_ble_eq_true rfl, Nat.le_of_ble_eq_true rfl⟩ rfl rfl (cats_le _ (Nat.le_of_ble_eq_true rfl)) hl.1 dX8_childBy_17 ⟨Nat.le_of_ble_eq_true rfl, Nat.le_of_ble_eq_true rfl⟩) hM (fun H locs hM => ?_)
    refine W_st (st' := [.int r_1.1, .int x3]) rfl ?_
    refine lv_icmp_ge (tgt := 65) hx hb dX8_childBy_20 (by decide) (fun c_1 => ?_) (fun c_1 => ?_)
    · have h := br_T c_1 h
      refine lv_iconst (v := (-1 : Int32)) hx hb dX8_childBy_65 (by decide) ?_
      exact c_ri C hM (fun _ => rfl) hr hlk dX8_childBy_66 h
    · have h := br_F c_1 h
      refine c_aload_n (t := 4) (x := (some 0)) hx hb dX8_childBy_23 rfl (lv_at hl 0 rfl) ?_
      refine c_getb C hM (k := 4) (f := 0) (j := 0) (t := 10) (hM.cst 4 0 rfl) (by decide) fl_X8_12 dX8_childBy_24 ?_
      refine lv_iload_n hx hb dX8_childBy_27 rfl (lv_at hl 3 rfl) ?_
      obtain ⟨r_2, hr_2, h⟩ := bd_of h
      refine c_go0 (c_rV (As := [.int x3]) (rest := []) C hM h17 (hM.cst 10 0 rfl) (by decide) (cc_Jx4a65c_get_915e3 l D ca A α r_1.2 (some 0) x3 7 _ hr_2) cw_X8_34 ⟨rfl, rfl⟩ ⟨Nat.le_of_ble_eq_true rfl, Nat.le_of_ble_eq_true rfl⟩ rfl rfl (cats_le _ (Nat.le_of_ble_eq_true rfl)) hl.1 dX8_childBy_28 ⟨Nat.le_of_ble_eq_true rfl, Nat.le_of_ble_eq_true rfl⟩) hM (fun H locs hM => ?_)
      refine W_st (st' := [cr α 7 r_2.1]) rfl ?_
      obtain ⟨c_2, h⟩ := ko_of h
      refine c_castk C hM (k := 7) (Classical.not_not.mp c_2) (by decide) kl_X8_38 dX8_childBy_31 ?_
      refine c_astore (t := 7) (x := r_2.1) (lv' := [(4, cr α 7 r_2.1), (0, cr α 4 (some 0)), (1, cr α 8 x1), (2, cr α 7 x2), (3, .int x3)]) hx hb dX8_childBy_34 hl (by decide) rfl (fun ls hl => ?_)
      refine c_aload (t := 7) (x := r_2.1) hx hb dX8_childBy_36 (lv_at hl 0 rfl) ?_
      obtain ⟨i_3, hd_3, h⟩ := bd_of h
      refine c_getrt C hM (k := 7) (f := 1) (t := 7) hd_3 (by decide) fl_X8_55 dX8_childBy_38 ?_
      refine c_aload_n (t := 7) (x := x2) hx hb dX8_childBy_41 rfl (lv_at hl 3 rfl) ?_
      obtain ⟨c_3, h⟩ := ko_of h
      obtain ⟨c_4, h⟩ := ko_of h
      refine c_acmp_ne (tgt := 59) hx hb hM (by decide) (Classical.not_not.mp c_3) (Classical.not_not.mp c_4) dX8_childBy_42 (by decide) (fun c_5 => ?_) (fun c_5 => ?_)
      · have h := br_F c_5 h
        exact gc_X8_childBy_59 C hr hlk h17 ih _ _ _ _ _ _ _ hM (lv_sub hl [1, 2, 3, 4] rfl) h
      · have h := br_T c_5 h
        refine c_aload (t := 7) (x := r_2.1) hx hb dX8_childBy_45 (lv_at hl 0 rfl) ?_
        refine c_getrt C hM (k := 7) (f := 2) (t := 8) hd_3 (by decide) fl_X8_59 dX8_childBy_47 ?_
        refine c_aload_n (t := 8) (x := x1) hx hb dX8_childBy_50 rfl (lv_at hl 2 rfl) ?_
        obtain ⟨i_4, hd_4, h⟩ := bd_of h
        obtain ⟨r_5, hr_5, h⟩ := bd_of h
        refine c_go0 (c_rV (As := [cr α 8 x1]) (rest := []) C hM h17 hd_4 (by decide) (cc_X1_isSame l D ca A α r_2.2 (cR r_2.2 7 i_3 2) x1 _ hr_5) cw_X8_63 ⟨rfl, rfl⟩ ⟨Nat.le_of_ble_eq_true rfl, Nat.le_of_ble_eq_true rfl⟩ rfl rfl (cats_le _ (Nat.le_of_ble_eq_true rfl)) hl.1 dX8_childBy_51 ⟨Nat.le_of_ble_eq_true rfl, Nat.le_of_ble_eq_true rfl⟩) hM (fun H locs hM => ?_)
        refine W_st (st' := [.int r_5.1]) rfl ?_
        refine lv_if_eq (tgt := 59) hx hb dX8_childBy_54 (by decide) (fun c_6 => ?_) (fun c_6 => ?_)
        · have h := br_T c_6 h
          exact gc_X8_childBy_59 C hr hlk h17 ih _ _ _ _ _ _ _ hM (lv_sub hl [1, 2, 3, 4] rfl) h
        · have h := br_F c_6 h
          refine lv_iload_n hx hb dX8_childBy_57 rfl (lv_at hl 4 rfl) ?_
          exact c_ri C hM (fun _ => rfl) hr hlk dX8_childBy_58 h
def fc_X8_childBy (σ : cS) (x1 : Option Nat) : Option (Int32 × cS) :=
  (fc_X8_current σ).bind fun r_1 =>
  fc_X8_childBy_12 3000 r_1.2 x1 r_1.1 ((cI r_1.2 4 0 2) + (1 : Int32))
set_option maxHeartbeats 4000000 in
set_option maxRecDepth 100000 in
theorem cc_X8_childBy (l : Launch) (D : va_G) (ca : Nat → ClassId) (A : Nat → Prop) (α : cAl) (σ : cS) (x1 : Option Nat) (o : Int32 × cS) (h : fc_X8_childBy σ x1 = some o) : cMet false l yX8_childBy cX8_childBy 5 ((some FieldType.int)) rc_X8_childBy 0 0 D ca true A α σ [cr α 4 (some 0), cr α 8 x1] (fun _ => some (.int o.1)) o.2 := by
  refine Met.ofW (cc := cX8_childBy) (maxL := 5) (ret := (some FieldType.int)) (by decide) rfl ?_
  intro p e s m args below meth c s₁ B hml hv
  obtain ⟨rfl, hP, hK, hD0, hSh, hA, hG⟩ := hv
  have C : cC p s m _ c cX8_childBy 5 RX8 D ca A α := ⟨B.exec, B.bytes, hml, findClass_of_methodNamed B.named, fun w hw => atoms_spec (ws := mWs yX8_childBy cX8_childBy 5 ((some FieldType.int))) B.pre w (List.mem_cons_of_mem _ hw), hK, hG⟩
  have hM : cM D ca true A s.heap σ α σ α s.heap [] := ⟨hP, hD0, hSh, va_S.rf, hA, cX.rf⟩
  have h17 : 0 < cn σ 17 := c_17 hM
  have hr := B.returns
  have hlk := B.notSynchronized
  have hx := C.1
  have hb := C.2.1
  have hl := lv_entry ([cr α 4 (some 0), cr α 8 x1]) (n := 5) (by simp [lg_r, lg_i, lg_l, lg_n])
  rw [lg_entry_eq]
  generalize (lg_sl ([cr α 4 (some 0), cr α 8 x1]) ++ List.replicate (5 - (lg_sl ([cr α 4 (some 0), cr α 8 x1])).length) Slot.unset).toArray = ls at hl ⊢
  have hl : lv_has ls 5 [(0, cr α 4 (some 0)), (1, cr α 8 x1)] := (lv_to hl (by simp only [la_r, la_i, la_l, la_n]))
  unfold fc_X8_childBy at h
  refine c_aload_n (t := 4) (x := (some 0)) hx hb dX8_childBy_0 rfl (lv_at hl 0 rfl) ?_
  obtain ⟨r_1, hr_1, h⟩ := bd_of h
  refine c_go0 (c_rV (As := []) (rest := []) C hM h17 (hM.cst 4 0 rfl) (by decide) (cc_X8_current l D ca A α σ _ hr_1) cw_X8_40 ⟨rfl, rfl⟩ ⟨Nat.le_of_ble_eq_true rfl, Nat.le_of_ble_eq_true rfl⟩ rfl rfl (cats_le _ (Nat.le_of_ble_eq_true rfl)) hl.1 dX8_childBy_1 ⟨Nat.le_of_ble_eq_true rfl, Nat.le_of_ble_eq_true rfl⟩) hM (fun H locs hM => ?_)
  refine W_st (st' := [cr α 7 r_1.1]) rfl ?_
  refine c_astore_n (t := 7) (x := r_1.1) (lv' := [(2, cr α 7 r_1.1), (0, cr α 4 (some 0)), (1, cr α 8 x1)]) hx hb dX8_childBy_4 rfl hl (by decide) (by first | rfl | (simp only [List.filter, cr_cat]; rfl)) (fun ls hl => ?_)
  refine c_aload_n (t := 4) (x := (some 0)) hx hb dX8_childBy_5 rfl (lv_at hl 1 rfl) ?_
  refine c_geti C hM (k := 4) (f := 2) (hM.cst 4 0 rfl) rfl fl_X8_30 dX8_childBy_6 ?_
  refine lv_iconst (v := (1 : Int32)) hx hb dX8_childBy_9 (by decide) ?_
  refine lv_iadd hx hb dX8_childBy_10 ?_
  refine lv_istore_n (lv' := [(3, .int ((cI r_1.2 4 0 2) + (1 : Int32))), (2, cr α 7 r_1.1), (0, cr α 4 (some 0)), (1, cr α 8 x1)]) hx hb dX8_childBy_11 rfl hl (by decide) (by first | rfl | (simp only [List.filter, cr_cat]; rfl)) (fun ls hl => ?_)
  exact gc_X8_childBy_12 C hr hlk h17  _ _ _ _ _ _ _ _ hM (lv_sub hl [2, 3, 1, 0] rfl) h
/-! Lorewick$Tree.childAt(I)I -/
abbrev rc_X8_childAt : Room := { frames := 5, cells := 0, slots := 0, locals := 122 }
def fc_X8_childAt_57 (k_15 : cS → Int32 → Option Nat → Int32 → Int32 → Option (Int32 × cS)) (σ : cS) (x1 : Int32) (x2 : Option Nat) (x3 : Int32) (x4 : Int32) : Option (Int32 × cS) :=
    k_15 σ x1 x2 x3 (x4 + (1 : Int32))
set_option maxHeartbeats 4000000 in
set_option maxRecDepth 100000 in
theorem gc_X8_childAt_57 {p : Program} {l : Launch} {e : Env} {s : State} {m : MethodId} {args : Array Value} {below : List Frame} {meth : Method} {c : Code} {D : va_G} {ca : Nat → ClassId} {A : Nat → Prop} {σ0 : cS} {α : cAl} {o : Int32 × cS} {k_15 : cS → Int32 → Option Nat → Int32 → Int32 → Option (Int32 × cS)} (C : cC p s m args c cX8_childAt 5 RX8 D ca A α) (hr : meth.sig.returnType = (some FieldType.int)) (hlk : meth.locks = false) (h17 : 0 < cn σ0 17) (hk_15 : ∀ (σ : cS) (x1 : Int32) (x2 : Option Nat) (x3 : Int32) (x4 : Int32) (H : Heap) (locs : List Loc) (ls : Array Slot), cM D ca true A s.heap σ0 α σ α H locs → lv_has ls 5 [(0, cr α 4 (some 0)), (1, .int x1), (2, cr α 7 x2), (3, .int x3), (4, .int x4)] → k_15 σ x1 x2 x3 x4 = some o → W p l e rc_X8_childAt s m args below meth c H locs 0 0 (MQ below (cQ false D ca true A α σ0 (fun _ => some (.int o.1)) o.2) args s 0 0 A) (F0 m 15 ls [])) : ∀ (σ : cS) (x1 : Int32) (x2 : Option Nat) (x3 : Int32) (x4 : Int32) (H : Heap) (locs : List Loc) (ls : Array Slot), cM D ca true A s.heap σ0 α σ α H locs → lv_has ls 5 [(0, cr α 4 (some 0)), (1, .int x1), (2, cr α 7 x2), (3, .int x3), (4, .int x4)] → fc_X8_childAt_57 k_15 σ x1 x2 x3 x4 = some o → W p l e rc_X8_childAt s m args below meth c H locs 0 0 (MQ below (cQ false D ca true A α σ0 (fun _ => some (.int o.1)) o.2) args s 0 0 A) (F0 m 57 ls []) := by
  have hx := C.1
  have hb := C.2.1
  intro σ x1 x2 x3 x4 H locs ls hM hl h
  unfold fc_X8_childAt_57 at h
  refine lv_iinc (v := (x4 + (1 : Int32))) (lv' := [(4, .int (x4 + (1 : Int32))), (0, cr α 4 (some 0)), (1, .int x1), (2, cr α 7 x2), (3, .int x3)]) hx hb dX8_childAt_57 hl (k := 4) rfl rfl (by decide) rfl (fun ls hl => ?_)
  refine lv_goto (tgt := 15) hx hb dX8_childAt_60 (by decide) ?_
  exact hk_15 _ _ _ _ _ _ _ _ hM (lv_sub hl [1, 2, 3, 4, 0] rfl) h
def fc_X8_childAt_15 : Nat → cS → Int32 → Option Nat → Int32 → Int32 → Option (Int32 × cS)
  | 0, _, _, _, _, _ => none
  | n + 1, σ, x1, x2, x3, x4 =>
    (fc_Jx4a65c_size_8abf5 σ (some 0)).bind fun r_1 =>
    if r_1.1 ≤ x4 then
      some ((-1 : Int32), r_1.2)
    else
      (fc_Jx4a65c_get_915e3 r_1.2 (some 0) x4 7).bind fun r_2 =>
      if ¬ (lvq r_2.2 7 r_2.1 = true) then none else
      (dr r_2.2 7 r_2.1).bind fun i_3 =>
      if ¬ (lvq r_2.2 7 (cR r_2.2 7 i_3 1) = true) then none else
      if ¬ (lvq r_2.2 7 x2 = true) then none else
      if (cR r_2.2 7 i_3 1) = x2 then
        if x3 = x1 then
          some (x4, r_2.2)
        else
          fc_X8_childAt_57 (fc_X8_childAt_15 n) r_2.2 x1 x2 (x3 + (1 : Int32)) x4
      else
        fc_X8_childAt_57 (fc_X8_childAt_15 n) r_2.2 x1 x2 x3 x4
set_option maxHeartbeats 4000000 in
set_option maxRecDepth 100000 in
theorem gc_X8_childAt_15 {p : Program} {l : Launch} {e : Env} {s : State} {m : MethodId} {args : Array Value} {below : List Frame} {meth : Method} {c : Code} {D : va_G} {ca : Nat → ClassId} {A : Nat → Prop} {σ0 : cS} {α : cAl} {o : Int32 × cS} (C : cC p s m args c cX8_childAt 5 RX8 D ca A α) (hr : meth.sig.returnType = (some FieldType.int)) (hlk : meth.locks = false) (h17 : 0 < cn σ0 17) : ∀ (n : Nat) (σ : cS) (x1 : Int32) (x2 : Option Nat) (x3 : Int32) (x4 : Int32) (H : Heap) (locs : List Loc) (ls : Array Slot), cM D ca true A s.heap σ0 α σ α H locs → lv_has ls 5 [(0, cr α 4 (some 0)), (1, .int x1), (2, cr α 7 x2), (3, .int x3), (4, .int x4)] → fc_X8_childAt_15 n σ x1 x2 x3 x4 = some o → W p l e rc_X8_childAt s m args below meth c H locs 0 0 (MQ below (cQ false D ca true A α σ0 (fun _ => some (.int o.1)) o.2) args s 0 0 A) (F0 m 15 ls []) := by
  have hx := C.1
  have hb := C.2.1
  intro n
  induction n with
  | zero =>
    intro σ x1 x2 x3 x4 H locs ls hM hl h
    cases h
  | succ n ih =>
    intro σ x1 x2 x3 x4 H locs ls hM hl h
    rw [fc_X8_childAt_15] at h
    refine lv_iload hx hb dX8_childAt_15 (lv_at hl 4 rfl) ?_
    refine c_aload_n (t := 4) (x := (some 0)) hx hb dX8_childAt_17 rfl (lv_at hl 0 rfl) ?_
    refine c_getb C hM (k := 4) (f := 0) (j := 0) (t := 10) (hM.cst 4 0 rfl) (by decide) fl_X8_12 dX8_childAt_18 ?_
    obtain ⟨r_1, hr_1, h⟩ := bd_of h
    refine c_go0 (c_rV (As := []) (rest := [.int x4]) C hM h17 (hM.cst 10 0 rfl) (by decide) (cc_Jx4a65c_size_8abf5 l D ca A α σ (some 0) _ hr_1) cw_X8_26 ⟨rfl, rfl⟩ ⟨Nat.le_of_ble_eq_true rfl, Nat.le_of_ble_eq_true rfl⟩ rfl rfl (cats_le _ (Nat.le_of_ble_eq_true rfl)) hl.1 dX8_childAt_21 ⟨Nat.le_of_ble_eq_true rfl, Nat.le_of_ble_eq_true rfl⟩) hM (fun H locs hM => ?_)
    refine W_st (st' := [.int r_1.1, .int x4]) rfl ?_
    refine lv_icmp_ge (tgt := 63) hx hb dX8_childAt_24 (by decide) (fun c_1 => ?_) (fun c_1 => ?_)
    · have h := br_T c_1 h
      refine lv_iconst (v := (-1 : Int32)) hx hb dX8_childAt_63 (by decide) ?_
      exact c_ri C hM (fun _ => rfl) hr hlk dX8_childAt_64 h
    · have h := br_F c_1 h
      refine c_aload_n (t := 4) (x := (some 0)) hx hb dX8_childAt_27 rfl (lv_at hl 0 rfl) ?_
      refine c_getb C hM (k := 4) (f := 0) (j := 0) (t := 10) (hM.cst 4 0 rfl) (by decide) fl_X8_12 dX8_childAt_28 ?_
      refine lv_iload hx hb dX8_childAt_31 (lv_at hl 4 rfl) ?_
      obtain ⟨r_2, hr_2, h⟩ := bd_of h
      refine c_go0 (c_rV (As := [.int x4]) (rest := []) C hM h17 (hM.cst 10 0 rfl) (by decide) (cc_Jx4a65c_get_915e3 l D ca A α r_1.2 (some 0) x4 7 _ hr_2) cw_X8_34 ⟨rfl, rfl⟩ ⟨Nat.le_of_ble_eq_true rfl, Nat.le_of_ble_eq_true rfl⟩ rfl rfl (cats_le _ (Nat.le_of_ble_eq_true rfl)) hl.1 dX8_childAt_33 ⟨Nat.le_of_ble_eq_true rfl, Nat.le_of_ble_eq_true rfl⟩) hM (fun H locs hM => ?_)
      refine W_st (st' := [cr α 7 r_2.1]) rfl ?_
      obtain ⟨c_2, h⟩ := ko_of h
      refine c_castk C hM (k := 7) (Classical.not_not.mp c_2) (by decide) kl_X8_38 dX8_childAt_36 ?_
      obtain ⟨i_3, hd_3, h⟩ := bd_of h
      refine c_getrt C hM (k := 7) (f := 1) (t := 7) hd_3 (by decide) fl_X8_55 dX8_childAt_39 ?_
      refine c_aload_n (t := 7) (x := x2) hx hb dX8_childAt_42 rfl (lv_at hl 2 rfl) ?_
      obtain ⟨c_3, h⟩ := ko_of h
      obtain ⟨c_4, h⟩ := ko_of h
      refine c_acmp_ne (tgt := 57) hx hb hM (by decide) (Classical.not_not.mp c_3) (Classical.not_not.mp c_4) dX8_childAt_43 (by decide) (fun c_5 => ?_) (fun c_5 => ?_)
      · have h := br_F c_5 h
        exact gc_X8_childAt_57 C hr hlk h17 ih _ _ _ _ _ _ _ _ hM (lv_sub hl [0, 1, 2, 3, 4] rfl) h
      · have h := br_T c_5 h
        refine lv_iload_n hx hb dX8_childAt_46 rfl (lv_at hl 3 rfl) ?_
        refine lv_iload_n hx hb dX8_childAt_47 rfl (lv_at hl 1 rfl) ?_
        refine lv_icmp_ne (tgt := 54) hx hb dX8_childAt_48 (by decide) (fun c_6 => ?_) (fun c_6 => ?_)
        · have h := br_F c_6 h
          refine lv_iinc (v := (x3 + (1 : Int32))) (lv' := [(3, .int (x3 + (1 : Int32))), (0, cr α 4 (some 0)), (1, .int x1), (2, cr α 7 x2), (4, .int x4)]) hx hb dX8_childAt_54 hl (k := 3) rfl rfl (by decide) (by first | rfl | (simp only [List.filter, cr_cat]; rfl)) (fun ls hl => ?_)
          exact gc_X8_childAt_57 C hr hlk h17 ih _ _ _ _ _ _ _ _ hM (lv_sub hl [1, 2, 3, 0, 4] rfl) h
        · have h := br_T c_6 h
          refine lv_iload hx hb dX8_childAt_51 (lv_at hl 4 rfl) ?_
          exact c_ri C hM (fun _ => rfl) hr hlk dX8_childAt_53 h
def fc_X8_childAt (σ : cS) (x1 : Int32) : Option (Int32 × cS) :=
  (fc_X8_current σ).bind fun r_1 =>
  fc_X8_childAt_15 3000 r_1.2 x1 r_1.1 (0 : Int32) ((cI r_1.2 4 0 2) + (1 : Int32))
set_option maxHeartbeats 4000000 in
set_option maxRecDepth 100000 in
theorem cc_X8_childAt (l : Launch) (D : va_G) (ca : Nat → ClassId) (A : Nat → Prop) (α : cAl) (σ : cS) (x1 : Int32) (o : Int32 × cS) (h : fc_X8_childAt σ x1 = some o) : cMet false l yX8_childAt cX8_childAt 5 ((some FieldType.int)) rc_X8_childAt 0 0 D ca true A α σ [cr α 4 (some 0), .int x1] (fun _ => some (.int o.1)) o.2 := by
  refine Met.ofW (cc := cX8_childAt) (maxL := 5) (ret := (some FieldType.int)) (by decide) rfl ?_
  intro p e s m args below meth c s₁ B hml hv
  obtain ⟨rfl, hP, hK, hD0, hSh, hA, hG⟩ := hv
  have C : cC p s m _ c cX8_childAt 5 RX8 D ca A α := ⟨B.exec, B.bytes, hml, findClass_of_methodNamed B.named, fun w hw => atoms_spec (ws := mWs yX8_childAt cX8_childAt 5 ((some FieldType.int))) B.pre w (List.mem_cons_of_mem _ hw), hK, hG⟩
  have hM : cM D ca true A s.heap σ α σ α s.heap [] := ⟨hP, hD0, hSh, va_S.rf, hA, cX.rf⟩
  have h17 : 0 < cn σ 17 := c_17 hM
  have hr := B.returns
  have hlk := B.notSynchronized
  have hx := C.1
  have hb := C.2.1
  have hl := lv_entry ([cr α 4 (some 0), .int x1]) (n := 5) (Nat.le_of_ble_eq_true rfl)
  rw [lg_entry_eq]
  generalize (lg_sl ([cr α 4 (some 0), .int x1]) ++ List.replicate (5 - (lg_sl ([cr α 4 (some 0), .int x1])).length) Slot.unset).toArray = ls at hl ⊢
  have hl : lv_has ls 5 [(0, cr α 4 (some 0)), (1, .int x1)] := hl
  unfold fc_X8_childAt at h
  refine c_aload_n (t := 4) (x := (some 0)) hx hb dX8_childAt_0 rfl (lv_at hl 0 rfl) ?_
  obtain ⟨r_1, hr_1, h⟩ := bd_of h
  refine c_go0 (c_rV (As := []) (rest := []) C hM h17 (hM.cst 4 0 rfl) (by decide) (cc_X8_current l D ca A α σ _ hr_1) cw_X8_40 ⟨rfl, rfl⟩ ⟨Nat.le_of_ble_eq_true rfl, Nat.le_of_ble_eq_true rfl⟩ rfl rfl (cats_le _ (Nat.le_of_ble_eq_true rfl)) hl.1 dX8_childAt_1 ⟨Nat.le_of_ble_eq_true rfl, Nat.le_of_ble_eq_true rfl⟩) hM (fun H locs hM => ?_)
  refine W_st (st' := [cr α 7 r_1.1]) rfl ?_
  refine c_astore_n (t := 7) (x := r_1.1) (lv' := [(2, cr α 7 r_1.1), (0, cr α 4 (some 0)), (1, .int x1)]) hx hb dX8_childAt_4 rfl hl (by decide) rfl (fun ls hl => ?_)
  refine lv_iconst (v := (0 : Int32)) hx hb dX8_childAt_5 (by decide) ?_
  refine lv_istore_n (lv' := [(3, .int (0 : Int32)), (2, cr α 7 r_1.1), (0, cr α 4 (some 0)), (1, .int x1)]) hx hb dX8_childAt_6 rfl hl (by decide) (by first | rfl | (simp only [List.filter, cr_cat]; rfl)) (fun ls hl => ?_)
  refine c_aload_n (t := 4) (x := (some 0)) hx hb dX8_childAt_7 rfl (lv_at hl 2 rfl) ?_
  refine c_geti C hM (k := 4) (f := 2) (hM.cst 4 0 rfl) rfl fl_X8_30 dX8_childAt_8 ?_
  refine lv_iconst (v := (1 : Int32)) hx hb dX8_childAt_11 (by decide) ?_
  refine lv_iadd hx hb dX8_childAt_12 ?_
  refine lv_istore (lv' := [(4, .int ((cI r_1.2 4 0 2) + (1 : Int32))), (3, .int (0 : Int32)), (2, cr α 7 r_1.1), (0, cr α 4 (some 0)), (1, .int x1)]) hx hb dX8_childAt_13 hl (by decide) rfl (fun ls hl => ?_)
  exact gc_X8_childAt_15 C hr hlk h17  _ _ _ _ _ _ _ _ _ hM (lv_sub hl [3, 4, 2, 1, 0] rfl) h
/-! Lorewick$Tree.childCount(I)I -/
abbrev rc_X8_childCount : Room := { frames := 4, cells := 0, slots := 0, locals := 102 }
def fc_X8_childCount_53 (k_19 : cS → Option Nat → Int32 → Int32 → Option (Int32 × cS)) (σ : cS) (x2 : Option Nat) (x3 : Int32) (x4 : Int32) : Option (Int32 × cS) :=
    k_19 σ x2 x3 (x4 + (1 : Int32))
set_option maxHeartbeats 4000000 in
set_option maxRecDepth 100000 in
theorem gc_X8_childCount_53 {p : Program} {l : Launch} {e : Env} {s : State} {m : MethodId} {args : Array Value} {below : List Frame} {meth : Method} {c : Code} {D : va_G} {ca : Nat → ClassId} {A : Nat → Prop} {σ0 : cS} {α : cAl} {o : Int32 × cS} {k_19 : cS → Option Nat → Int32 → Int32 → Option (Int32 × cS)} (C : cC p s m args c cX8_childCount 5 RX8 D ca A α) (hr : meth.sig.returnType = (some FieldType.int)) (hlk : meth.locks = false) (h17 : 0 < cn σ0 17) (hk_19 : ∀ (σ : cS) (x2 : Option Nat) (x3 : Int32) (x4 : Int32) (H : Heap) (locs : List Loc) (ls : Array Slot), cM D ca true A s.heap σ0 α σ α H locs → lv_has ls 5 [(0, cr α 4 (some 0)), (2, cr α 7 x2), (3, .int x3), (4, .int x4)] → k_19 σ x2 x3 x4 = some o → W p l e rc_X8_childCount s m args below meth c H locs 0 0 (MQ below (cQ false D ca true A α σ0 (fun _ => some (.int o.1)) o.2) args s 0 0 A) (F0 m 19 ls [])) : ∀ (σ : cS) (x2 : Option Nat) (x3 : Int32) (x4 : Int32) (H : Heap) (locs : List Loc) (ls : Array Slot), cM D ca true A s.heap σ0 α σ α H locs → lv_has ls 5 [(0, cr α 4 (some 0)), (2, cr α 7 x2), (3, .int x3), (4, .int x4)] → fc_X8_childCount_53 k_19 σ x2 x3 x4 = some o → W p l e rc_X8_childCount s m args below meth c H locs 0 0 (MQ below (cQ false D ca true A α σ0 (fun _ => some (.int o.1)) o.2) args s 0 0 A) (F0 m 53 ls []) := by
  have hx := C.1
  have hb := C.2.1
  intro σ x2 x3 x4 H locs ls hM hl h
  unfold fc_X8_childCount_53 at h
  refine lv_iinc (v := (x4 + (1 : Int32))) (lv' := [(4, .int (x4 + (1 : Int32))), (0, cr α 4 (some 0)), (2, cr α 7 x2), (3, .int x3)]) hx hb dX8_childCount_53 hl (k := 3) rfl rfl (by decide) rfl (fun ls hl => ?_)
  refine lv_goto (tgt := 19) hx hb dX8_childCount_56 (by decide) ?_
  exact hk_19 _ _ _ _ _ _ _ hM (lv_sub hl [1, 2, 3, 0] rfl) h
def fc_X8_childCount_19 : Nat → cS → Option Nat → Int32 → Int32 → Option (Int32 × cS)
  | 0, _, _, _, _ => none
  | n + 1, σ, x2, x3, x4 =>
    (fc_Jx4a65c_size_8abf5 σ (some 0)).bind fun r_1 =>
    if r_1.1 ≤ x4 then
      some (x3, r_1.2)
    else
      (fc_Jx4a65c_get_915e3 r_1.2 (some 0) x4 7).bind fun r_2 =>
      if ¬ (lvq r_2.2 7 r_2.1 = true) then none else
      (dr r_2.2 7 r_2.1).bind fun i_3 =>
      if ¬ (lvq r_2.2 7 (cR r_2.2 7 i_3 1) = true) then none else
      if ¬ (lvq r_2.2 7 x2 = true) then none else
      if (cR r_2.2 7 i_3 1) = x2 then
        fc_X8_childCount_53 (fc_X8_childCount_19 n) r_2.2 x2 (x3 + (1 : Int32)) x4
      else
        fc_X8_childCount_53 (fc_X8_childCount_19 n) r_2.2 x2 x3 x4
set_option maxHeartbeats 4000000 in
set_option maxRecDepth 100000 in
theorem gc_X8_childCount_19 {p : Program} {l : Launch} {e : Env} {s : State} {m : MethodId} {args : Array Value} {below : List Frame} {meth : Method} {c : Code} {D : va_G} {ca : Nat → ClassId} {A : Nat → Prop} {σ0 : cS} {α : cAl} {o : Int32 × cS} (C : cC p s m args c cX8_childCount 5 RX8 D ca A α) (hr : meth.sig.returnType = (some FieldType.int)) (hlk : meth.locks = false) (h17 : 0 < cn σ0 17) : ∀ (n : Nat) (σ : cS) (x2 : Option Nat) (x3 : Int32) (x4 : Int32) (H : Heap) (locs : List Loc) (ls : Array Slot), cM D ca true A s.heap σ0 α σ α H locs → lv_has ls 5 [(0, cr α 4 (some 0)), (2, cr α 7 x2), (3, .int x3), (4, .int x4)] → fc_X8_childCount_19 n σ x2 x3 x4 = some o → W p l e rc_X8_childCount s m args below meth c H locs 0 0 (MQ below (cQ false D ca true A α σ0 (fun _ => some (.int o.1)) o.2) args s 0 0 A) (F0 m 19 ls []) := by
  have hx := C.1
  have hb := C.2.1
  intro n
  induction n with
  | zero =>
    intro σ x2 x3 x4 H locs ls hM hl h
    cases h
  | succ n ih =>
    intro σ x2 x3 x4 H locs ls hM hl h
    rw [fc_X8_childCount_19] at h
    refine lv_iload hx hb dX8_childCount_19 (lv_at hl 3 rfl) ?_
    refine c_aload_n (t := 4) (x := (some 0)) hx hb dX8_childCount_21 rfl (lv_at hl 0 rfl) ?_
    refine c_getb C hM (k := 4) (f := 0) (j := 0) (t := 10) (hM.cst 4 0 rfl) (by decide) fl_X8_12 dX8_childCount_22 ?_
    obtain ⟨r_1, hr_1, h⟩ := bd_of h
    refine c_go0 (c_rV (As := []) (rest := [.int x4]) C hM h17 (hM.cst 10 0 rfl) (by decide) (cc_Jx4a65c_size_8abf5 l D ca A α σ (some 0) _ hr_1) cw_X8_26 ⟨rfl, rfl⟩ ⟨Nat.le_of_ble_eq_true rfl, Nat.le_of_ble_eq_true rfl⟩ rfl rfl (cats_le _ (Nat.le_of_ble_eq_true rfl)) hl.1 dX8_childCount_25 ⟨Nat.le_of_ble_eq_true rfl, Nat.le_of_ble_eq_true rfl⟩) hM (fun H locs hM => ?_)
    refine W_st (st' := [.int r_1.1, .int x4]) rfl ?_
    refine lv_icmp_ge (tgt := 59) hx hb dX8_childCount_28 (by decide) (fun c_1 => ?_) (fun c_1 => ?_)
    · have h := br_T c_1 h
      refine lv_iload_n hx hb dX8_childCount_59 rfl (lv_at hl 2 rfl) ?_
      exact c_ri C hM (fun _ => rfl) hr hlk dX8_childCount_60 h
    · have h := br_F c_1 h
      refine c_aload_n (t := 4) (x := (some 0)) hx hb dX8_childCount_31 rfl (lv_at hl 0 rfl) ?_
      refine c_getb C hM (k := 4) (f := 0) (j := 0) (t := 10) (hM.cst 4 0 rfl) (by decide) fl_X8_12 dX8_childCount_32 ?_
      refine lv_iload hx hb dX8_childCount_35 (lv_at hl 3 rfl) ?_
      obtain ⟨r_2, hr_2, h⟩ := bd_of h
      refine c_go0 (c_rV (As := [.int x4]) (rest := []) C hM h17 (hM.cst 10 0 rfl) (by decide) (cc_Jx4a65c_get_915e3 l D ca A α r_1.2 (some 0) x4 7 _ hr_2) cw_X8_34 ⟨rfl, rfl⟩ ⟨Nat.le_of_ble_eq_true rfl, Nat.le_of_ble_eq_true rfl⟩ rfl rfl (cats_le _ (Nat.le_of_ble_eq_true rfl)) hl.1 dX8_childCount_37 ⟨Nat.le_of_ble_eq_true rfl, Nat.le_of_ble_eq_true rfl⟩) hM (fun H locs hM => ?_)
      refine W_st (st' := [cr α 7 r_2.1]) rfl ?_
      obtain ⟨c_2, h⟩ := ko_of h
      refine c_castk C hM (k := 7) (Classical.not_not.mp c_2) (by decide) kl_X8_38 dX8_childCount_40 ?_
      obtain ⟨i_3, hd_3, h⟩ := bd_of h
      refine c_getrt C hM (k := 7) (f := 1) (t := 7) hd_3 (by decide) fl_X8_55 dX8_childCount_43 ?_
      refine c_aload_n (t := 7) (x := x2) hx hb dX8_childCount_46 rfl (lv_at hl 1 rfl) ?_
      obtain ⟨c_3, h⟩ := ko_of h
      obtain ⟨c_4, h⟩ := ko_of h
      refine c_acmp_ne (tgt := 53) hx hb hM (by decide) (Classical.not_not.mp c_3) (Classical.not_not.mp c_4) dX8_childCount_47 (by decide) (fun c_5 => ?_) (fun c_5 => ?_)
      · have h := br_F c_5 h
        exact gc_X8_childCount_53 C hr hlk h17 ih _ _ _ _ _ _ _ hM (lv_sub hl [0, 1, 2, 3] rfl) h
      · have h := br_T c_5 h
        refine lv_iinc (v := (x3 + (1 : Int32))) (lv' := [(3, .int (x3 + (1 : Int32))), (0, cr α 4 (some 0)), (2, cr α 7 x2), (4, .int x4)]) hx hb dX8_childCount_50 hl (k := 2) rfl rfl (by decide) (by first | rfl | (simp only [List.filter, cr_cat]; rfl)) (fun ls hl => ?_)
        exact gc_X8_childCount_53 C hr hlk h17 ih _ _ _ _ _ _ _ hM (lv_sub hl [1, 2, 0, 3] rfl) h
def fc_X8_childCount (σ : cS) (x1 : Int32) : Option (Int32 × cS) :=
  (fc_Jx4a65c_get_915e3 σ (some 0) x1 7).bind fun r_1 =>
  if ¬ (lvq r_1.2 7 r_1.1 = true) then none else
  fc_X8_childCount_19 3000 r_1.2 r_1.1 (0 : Int32) (x1 + (1 : Int32))
set_option maxHeartbeats 4000000 in
set_option maxRecDepth 100000 in
theorem cc_X8_childCount (l : Launch) (D : va_G) (ca : Nat → ClassId) (A : Nat → Prop) (α : cAl) (σ : cS) (x1 : Int32) (o : Int32 × cS) (h : fc_X8_childCount σ x1 = some o) : cMet false l yX8_childCount cX8_childCount 5 ((some FieldType.int)) rc_X8_childCount 0 0 D ca true A α σ [cr α 4 (some 0), .int x1] (fun _ => some (.int o.1)) o.2 := by
  refine Met.ofW (cc := cX8_childCount) (maxL := 5) (ret := (some FieldType.int)) (by decide) rfl ?_
  intro p e s m args below meth c s₁ B hml hv
  obtain ⟨rfl, hP, hK, hD0, hSh, hA, hG⟩ := hv
  have C : cC p s m _ c cX8_childCount 5 RX8 D ca A α := ⟨B.exec, B.bytes, hml, findClass_of_methodNamed B.named, fun w hw => atoms_spec (ws := mWs yX8_childCount cX8_childCount 5 ((some FieldType.int))) B.pre w (List.mem_cons_of_mem _ hw), hK, hG⟩
  have hM : cM D ca true A s.heap σ α σ α s.heap [] := ⟨hP, hD0, hSh, va_S.rf, hA, cX.rf⟩
  have h17 : 0 < cn σ 17 := c_17 hM
  have hr := B.returns
  have hlk := B.notSynchronized
  have hx := C.1
  have hb := C.2.1
  have hl := lv_entry ([cr α 4 (some 0), .int x1]) (n := 5) (Nat.le_of_ble_eq_true rfl)
  rw [lg_entry_eq]
  generalize (lg_sl ([cr α 4 (some 0), .int x1]) ++ List.replicate (5 - (lg_sl ([cr α 4 (some 0), .int x1])).length) Slot.unset).toArray = ls at hl ⊢
  have hl : lv_has ls 5 [(0, cr α 4 (some 0)), (1, .int x1)] := hl
  unfold fc_X8_childCount at h
  refine c_aload_n (t := 4) (x := (some 0)) hx hb dX8_childCount_0 rfl (lv_at hl 0 rfl) ?_
  refine c_getb C hM (k := 4) (f := 0) (j := 0) (t := 10) (hM.cst 4 0 rfl) (by decide) fl_X8_12 dX8_childCount_1 ?_
  refine lv_iload_n hx hb dX8_childCount_4 rfl (lv_at hl 1 rfl) ?_
  obtain ⟨r_1, hr_1, h⟩ := bd_of h
  refine c_go0 (c_rV (As := [.int x1]) (rest := []) C hM h17 (hM.cst 10 0 rfl) (by decide) (cc_Jx4a65c_get_915e3 l D ca A α σ (some 0) x1 7 _ hr_1) cw_X8_34 ⟨rfl, rfl⟩ ⟨Nat.le_of_ble_eq_true rfl, Nat.le_of_ble_eq_true rfl⟩ rfl rfl (cats_le _ (Nat.le_of_ble_eq_true rfl)) hl.1 dX8_childCount_5 ⟨Nat.le_of_ble_eq_true rfl, Nat.le_of_ble_eq_true rfl⟩) hM (fun H locs hM => ?_)
  refine W_st (st' := [cr α 7 r_1.1]) rfl ?_
  obtain ⟨c_1, h⟩ := ko_of h
  refine c_castk C hM (k := 7) (Classical.not_not.mp c_1) (by decide) kl_X8_38 dX8_childCount_8 ?_
  refine c_astore_n (t := 7) (x := r_1.1) (lv' := [(2, cr α 7 r_1.1), (0, cr α 4 (some 0)), (1, .int x1)]) hx hb dX8_childCount_11 rfl hl (by decide) rfl (fun ls hl => ?_)
  refine lv_iconst (v := (0 : Int32)) hx hb dX8_childCount_12 (by decide) ?_
  refine lv_istore_n (lv' := [(3, .int (0 : Int32)), (2, cr α 7 r_1.1), (0, cr α 4 (some 0)), (1, .int x1)]) hx hb dX8_childCount_13 rfl hl (by decide) (by first | rfl | (simp only [List.filter, cr_cat]; rfl)) (fun ls hl => ?_)
  refine lv_iload_n hx hb dX8_childCount_14 rfl (lv_at hl 3 rfl) ?_
  refine lv_iconst (v := (1 : Int32)) hx hb dX8_childCount_15 (by decide) ?_
  refine lv_iadd hx hb dX8_childCount_16 ?_
  refine lv_istore (lv' := [(4, .int (x1 + (1 : Int32))), (3, .int (0 : Int32)), (2, cr α 7 r_1.1), (0, cr α 4 (some 0)), (1, .int x1)]) hx hb dX8_childCount_17 hl (by decide) rfl (fun ls hl => ?_)
  exact gc_X8_childCount_19 C hr hlk h17  _ _ _ _ _ _ _ _ hM (lv_sub hl [3, 2, 1, 0] rfl) h
/-! Lorewick$Tree.nodeLabelled(J)I -/
abbrev rc_X8_nodeLabelled : Room := { frames := 4, cells := 0, slots := 0, locals := 102 }
def fc_X8_nodeLabelled_40 (k_2 : cS → Int64 → Int32 → Option (Int32 × cS)) (σ : cS) (x1 : Int64) (x3 : Int32) : Option (Int32 × cS) :=
    k_2 σ x1 (x3 + (1 : Int32))
set_option maxHeartbeats 4000000 in
set_option maxRecDepth 100000 in
theorem gc_X8_nodeLabelled_40 {p : Program} {l : Launch} {e : Env} {s : State} {m : MethodId} {args : Array Value} {below : List Frame} {meth : Method} {c : Code} {D : va_G} {ca : Nat → ClassId} {A : Nat → Prop} {σ0 : cS} {α : cAl} {o : Int32 × cS} {k_2 : cS → Int64 → Int32 → Option (Int32 × cS)} (C : cC p s m args c cX8_nodeLabelled 4 RX8 D ca A α) (hr : meth.sig.returnType = (some FieldType.int)) (hlk : meth.locks = false) (h17 : 0 < cn σ0 17) (hk_2 : ∀ (σ : cS) (x1 : Int64) (x3 : Int32) (H : Heap) (locs : List Loc) (ls : Array Slot), cM D ca true A s.heap σ0 α σ α H locs → lv_has ls 4 [(0, cr α 4 (some 0)), (1, .long x1), (3, .int x3)] → k_2 σ x1 x3 = some o → W p l e rc_X8_nodeLabelled s m args below meth c H locs 0 0 (MQ below (cQ false D ca true A α σ0 (fun _ => some (.int o.1)) o.2) args s 0 0 A) (F0 m 2 ls [])) : ∀ (σ : cS) (x1 : Int64) (x3 : Int32) (H : Heap) (locs : List Loc) (ls : Array Slot), cM D ca true A s.heap σ0 α σ α H locs → lv_has ls 4 [(0, cr α 4 (some 0)), (1, .long x1), (3, .int x3)] → fc_X8_nodeLabelled_40 k_2 σ x1 x3 = some o → W p l e rc_X8_nodeLabelled s m args below meth c H locs 0 0 (MQ below (cQ false D ca true A α σ0 (fun _ => some (.int o.1)) o.2) args s 0 0 A) (F0 m 40 ls []) := by
  have hx := C.1
  have hb := C.2.1
  intro σ x1 x3 H locs ls hM hl h
  unfold fc_X8_nodeLabelled_40 at h
  refine lv_iinc (v := (x3 + (1 : Int32))) (lv' := [(3, .int (x3 + (1 : Int32))), (0, cr α 4 (some 0)), (1, .long x1)]) hx hb dX8_nodeLabelled_40 hl (k := 2) rfl rfl (by decide) rfl (fun ls hl => ?_)
  refine lv_goto (tgt := 2) hx hb dX8_nodeLabelled_43 (by decide) ?_
  exact hk_2 _ _ _ _ _ _ hM (lv_sub hl [1, 2, 0] rfl) h
def fc_X8_nodeLabelled_2 : Nat → cS → Int64 → Int32 → Option (Int32 × cS)
  | 0, _, _, _ => none
  | n + 1, σ, x1, x3 =>
    (fc_Jx4a65c_size_8abf5 σ (some 0)).bind fun r_1 =>
    if r_1.1 ≤ x3 then
      some ((-1 : Int32), r_1.2)
    else
      if (lg_cmp x1 (0 : Int64)) = 0 then
        fc_X8_nodeLabelled_40 (fc_X8_nodeLabelled_2 n) r_1.2 x1 x3
      else
        (fc_Jx4a65c_get_915e3 r_1.2 (some 0) x3 7).bind fun r_2 =>
        if ¬ (lvq r_2.2 7 r_2.1 = true) then none else
        (dr r_2.2 7 r_2.1).bind fun i_3 =>
        if (lg_cmp (cJ r_2.2 7 i_3 5) x1) = 0 then
          some (x3, r_2.2)
        else
          fc_X8_nodeLabelled_40 (fc_X8_nodeLabelled_2 n) r_2.2 x1 x3
set_option maxHeartbeats 4000000 in
set_option maxRecDepth 100000 in
theorem gc_X8_nodeLabelled_2 {p : Program} {l : Launch} {e : Env} {s : State} {m : MethodId} {args : Array Value} {below : List Frame} {meth : Method} {c : Code} {D : va_G} {ca : Nat → ClassId} {A : Nat → Prop} {σ0 : cS} {α : cAl} {o : Int32 × cS} (C : cC p s m args c cX8_nodeLabelled 4 RX8 D ca A α) (hr : meth.sig.returnType = (some FieldType.int)) (hlk : meth.locks = false) (h17 : 0 < cn σ0 17) : ∀ (n : Nat) (σ : cS) (x1 : Int64) (x3 : Int32) (H : Heap) (locs : List Loc) (ls : Array Slot), cM D ca true A s.heap σ0 α σ α H locs → lv_has ls 4 [(0, cr α 4 (some 0)), (1, .long x1), (3, .int x3)] → fc_X8_nodeLabelled_2 n σ x1 x3 = some o → W p l e rc_X8_nodeLabelled s m args below meth c H locs 0 0 (MQ below (cQ false D ca true A α σ0 (fun _ => some (.int o.1)) o.2) args s 0 0 A) (F0 m 2 ls []) := by
  have hx := C.1
  have hb := C.2.1
  intro n
  induction n with
  | zero =>
    intro σ x1 x3 H locs ls hM hl h
    cases h
  | succ n ih =>
    intro σ x1 x3 H locs ls hM hl h
    rw [fc_X8_nodeLabelled_2] at h
    refine lv_iload_n hx hb dX8_nodeLabelled_2 rfl (lv_at hl 2 rfl) ?_
    refine c_aload_n (t := 4) (x := (some 0)) hx hb dX8_nodeLabelled_3 rfl (lv_at hl 0 rfl) ?_
    refine c_getb C hM (k := 4) (f := 0) (j := 0) (t := 10) (hM.cst 4 0 rfl) (by decide) fl_X8_12 dX8_nodeLabelled_4 ?_
    obtain ⟨r_1, hr_1, h⟩ := bd_of h
    refine c_go0 (c_rV (As := []) (rest := [.int x3]) C hM h17 (hM.cst 10 0 rfl) (by decide) (cc_Jx4a65c_size_8abf5 l D ca A α σ (some 0) _ hr_1) cw_X8_26 ⟨rfl, rfl⟩ ⟨Nat.le_of_ble_eq_true rfl, Nat.le_of_ble_eq_true rfl⟩ rfl rfl (cats_le _ (Nat.le_of_ble_eq_true rfl)) hl.1 dX8_nodeLabelled_7 ⟨Nat.le_of_ble_eq_true rfl, Nat.le_of_ble_eq_true rfl⟩) hM (fun H locs hM => ?_)
    refine W_st (st' := [.int r_1.1, .int x3]) rfl ?_
    refine lv_icmp_ge (tgt := 46) hx hb dX8_nodeLabelled_10 (by decide) (fun c_1 => ?_) (fun c_1 => ?_)
    · have h := br_T c_1 h
      refine lv_iconst (v := (-1 : Int32)) hx hb dX8_nodeLabelled_46 (by decide) ?_
      exact c_ri C hM (fun _ => rfl) hr hlk dX8_nodeLabelled_47 h
    · have h := br_F c_1 h
      refine lv_lload_n hx hb dX8_nodeLabelled_13 rfl (lv_at hl 1 rfl) ?_
      refine lv_lconst (v := (0 : Int64)) hx hb dX8_nodeLabelled_14 (by decide) ?_
      refine W.lcmp hx hb dX8_nodeLabelled_15 ?_
      refine lv_if_eq (tgt := 40) hx hb dX8_nodeLabelled_16 (by decide) (fun c_2 => ?_) (fun c_2 => ?_)
      · have h := br_T c_2 h
        exact gc_X8_nodeLabelled_40 C hr hlk h17 ih _ _ _ _ _ _ hM (lv_sub hl [0, 1, 2] rfl) h
      · have h := br_F c_2 h
        refine c_aload_n (t := 4) (x := (some 0)) hx hb dX8_nodeLabelled_19 rfl (lv_at hl 0 rfl) ?_
        refine c_getb C hM (k := 4) (f := 0) (j := 0) (t := 10) (hM.cst 4 0 rfl) (by decide) fl_X8_12 dX8_nodeLabelled_20 ?_
        refine lv_iload_n hx hb dX8_nodeLabelled_23 rfl (lv_at hl 2 rfl) ?_
        obtain ⟨r_2, hr_2, h⟩ := bd_of h
        refine c_go0 (c_rV (As := [.int x3]) (rest := []) C hM h17 (hM.cst 10 0 rfl) (by decide) (cc_Jx4a65c_get_915e3 l D ca A α r_1.2 (some 0) x3 7 _ hr_2) cw_X8_34 ⟨rfl, rfl⟩ ⟨Nat.le_of_ble_eq_true rfl, Nat.le_of_ble_eq_true rfl⟩ rfl rfl (cats_le _ (Nat.le_of_ble_eq_true rfl)) hl.1 dX8_nodeLabelled_24 ⟨Nat.le_of_ble_eq_true rfl, Nat.le_of_ble_eq_true rfl⟩) hM (fun H locs hM => ?_)
        refine W_st (st' := [cr α 7 r_2.1]) rfl ?_
        obtain ⟨c_3, h⟩ := ko_of h
        refine c_castk C hM (k := 7) (Classical.not_not.mp c_3) (by decide) kl_X8_38 dX8_nodeLabelled_27 ?_
        obtain ⟨i_3, hd_3, h⟩ := bd_of h
        refine c_getl C hM (k := 7) (f := 5) hd_3 rfl fl_X8_69 dX8_nodeLabelled_30 ?_
        refine lv_lload_n hx hb dX8_nodeLabelled_33 rfl (lv_at hl 1 rfl) ?_
        refine W.lcmp hx hb dX8_nodeLabelled_34 ?_
        refine lv_if_ne (tgt := 40) hx hb dX8_nodeLabelled_35 (by decide) (fun c_4 => ?_) (fun c_4 => ?_)
        · have h := br_F c_4 h
          exact gc_X8_nodeLabelled_40 C hr hlk h17 ih _ _ _ _ _ _ hM (lv_sub hl [0, 1, 2] rfl) h
        · have h := br_T c_4 h
          refine lv_iload_n hx hb dX8_nodeLabelled_38 rfl (lv_at hl 2 rfl) ?_
          exact c_ri C hM (fun _ => rfl) hr hlk dX8_nodeLabelled_39 h
def fc_X8_nodeLabelled (σ : cS) (x1 : Int64) : Option (Int32 × cS) :=
  fc_X8_nodeLabelled_2 3000 σ x1 (0 : Int32)
set_option maxHeartbeats 4000000 in
set_option maxRecDepth 100000 in
theorem cc_X8_nodeLabelled (l : Launch) (D : va_G) (ca : Nat → ClassId) (A : Nat → Prop) (α : cAl) (σ : cS) (x1 : Int64) (o : Int32 × cS) (h : fc_X8_nodeLabelled σ x1 = some o) : cMet false l yX8_nodeLabelled cX8_nodeLabelled 4 ((some FieldType.int)) rc_X8_nodeLabelled 0 0 D ca true A α σ [cr α 4 (some 0), .long x1] (fun _ => some (.int o.1)) o.2 := by
  refine Met.ofW (cc := cX8_nodeLabelled) (maxL := 4) (ret := (some FieldType.int)) (by decide) rfl ?_
  intro p e s m args below meth c s₁ B hml hv
  obtain ⟨rfl, hP, hK, hD0, hSh, hA, hG⟩ := hv
  have C : cC p s m _ c cX8_nodeLabelled 4 RX8 D ca A α := ⟨B.exec, B.bytes, hml, findClass_of_methodNamed B.named, fun w hw => atoms_spec (ws := mWs yX8_nodeLabelled cX8_nodeLabelled 4 ((some FieldType.int))) B.pre w (List.mem_cons_of_mem _ hw), hK, hG⟩
  have hM : cM D ca true A s.heap σ α σ α s.heap [] := ⟨hP, hD0, hSh, va_S.rf, hA, cX.rf⟩
  have h17 : 0 < cn σ 17 := c_17 hM
  have hr := B.returns
  have hlk := B.notSynchronized
  have hx := C.1
  have hb := C.2.1
  have hl := lv_entry ([cr α 4 (some 0), .long x1]) (n := 4) (Nat.le_of_ble_eq_true rfl)
  rw [lg_entry_eq]
  generalize (lg_sl ([cr α 4 (some 0), .long x1]) ++ List.replicate (4 - (lg_sl ([cr α 4 (some 0), .long x1])).length) Slot.unset).toArray = ls at hl ⊢
  have hl : lv_has ls 4 [(0, cr α 4 (some 0)), (1, .long x1)] := hl
  unfold fc_X8_nodeLabelled at h
  refine lv_iconst (v := (0 : Int32)) hx hb dX8_nodeLabelled_0 (by decide) ?_
  refine lv_istore_n (lv' := [(3, .int (0 : Int32)), (0, cr α 4 (some 0)), (1, .long x1)]) hx hb dX8_nodeLabelled_1 rfl hl (by decide) rfl (fun ls hl => ?_)
  exact gc_X8_nodeLabelled_2 C hr hlk h17  _ _ _ _ _ _ _ hM (lv_sub hl [1, 2, 0] rfl) h
/-! Lorewick$Tree.labelCount()I -/
abbrev rc_X8_labelCount : Room := { frames := 4, cells := 0, slots := 0, locals := 102 }
def fc_X8_labelCount_37 (k_4 : cS → Int32 → Int32 → Option (Int32 × cS)) (σ : cS) (x1 : Int32) (x2 : Int32) : Option (Int32 × cS) :=
    k_4 σ x1 (x2 + (1 : Int32))
set_option maxHeartbeats 4000000 in
set_option maxRecDepth 100000 in
theorem gc_X8_labelCount_37 {p : Program} {l : Launch} {e : Env} {s : State} {m : MethodId} {args : Array Value} {below : List Frame} {meth : Method} {c : Code} {D : va_G} {ca : Nat → ClassId} {A : Nat → Prop} {σ0 : cS} {α : cAl} {o : Int32 × cS} {k_4 : cS → Int32 → Int32 → Option (Int32 × cS)} (C : cC p s m args c cX8_labelCount 3 RX8 D ca A α) (hr : meth.sig.returnType = (some FieldType.int)) (hlk : meth.locks = false) (h17 : 0 < cn σ0 17) (hk_4 : ∀ (σ : cS) (x1 : Int32) (x2 : Int32) (H : Heap) (locs : List Loc) (ls : Array Slot), cM D ca true A s.heap σ0 α σ α H locs → lv_has ls 3 [(0, cr α 4 (some 0)), (1, .int x1), (2, .int x2)] → k_4 σ x1 x2 = some o → W p l e rc_X8_labelCount s m args below meth c H locs 0 0 (MQ below (cQ false D ca true A α σ0 (fun _ => some (.int o.1)) o.2) args s 0 0 A) (F0 m 4 ls [])) : ∀ (σ : cS) (x1 : Int32) (x2 : Int32) (H : Heap) (locs : List Loc) (ls : Array Slot), cM D ca true A s.heap σ0 α σ α H locs → lv_has ls 3 [(0, cr α 4 (some 0)), (1, .int x1), (2, .int x2)] → fc_X8_labelCount_37 k_4 σ x1 x2 = some o → W p l e rc_X8_labelCount s m args below meth c H locs 0 0 (MQ below (cQ false D ca true A α σ0 (fun _ => some (.int o.1)) o.2) args s 0 0 A) (F0 m 37 ls []) := by
  have hx := C.1
  have hb := C.2.1
  intro σ x1 x2 H locs ls hM hl h
  unfold fc_X8_labelCount_37 at h
  refine lv_iinc (v := (x2 + (1 : Int32))) (lv' := [(2, .int (x2 + (1 : Int32))), (0, cr α 4 (some 0)), (1, .int x1)]) hx hb dX8_labelCount_37 hl (k := 2) rfl rfl (by decide) rfl (fun ls hl => ?_)
  refine lv_goto (tgt := 4) hx hb dX8_labelCount_40 (by decide) ?_
  exact hk_4 _ _ _ _ _ _ hM (lv_sub hl [1, 2, 0] rfl) h
def fc_X8_labelCount_4 : Nat → cS → Int32 → Int32 → Option (Int32 × cS)
  | 0, _, _, _ => none
  | n + 1, σ, x1, x2 =>
    (fc_Jx4a65c_size_8abf5 σ (some 0)).bind fun r_1 =>
    if r_1.1 ≤ x2 then
      some (x1, r_1.2)
    else
      (fc_Jx4a65c_get_915e3 r_1.2 (some 0) x2 7).bind fun r_2 =>
      if ¬ (lvq r_2.2 7 r_2.1 = true) then none else
      (dr r_2.2 7 r_2.1).bind fun i_3 =>
      if (lg_cmp (cJ r_2.2 7 i_3 5) (0 : Int64)) = 0 then
        fc_X8_labelCount_37 (fc_X8_labelCount_4 n) r_2.2 x1 x2
      else
        fc_X8_labelCount_37 (fc_X8_labelCount_4 n) r_2.2 (x1 + (1 : Int32)) x2
set_option maxHeartbeats 4000000 in
set_option maxRecDepth 100000 in
theorem gc_X8_labelCount_4 {p : Program} {l : Launch} {e : Env} {s : State} {m : MethodId} {args : Array Value} {below : List Frame} {meth : Method} {c : Code} {D : va_G} {ca : Nat → ClassId} {A : Nat → Prop} {σ0 : cS} {α : cAl} {o : Int32 × cS} (C : cC p s m args c cX8_labelCount 3 RX8 D ca A α) (hr : meth.sig.returnType = (some FieldType.int)) (hlk : meth.locks = false) (h17 : 0 < cn σ0 17) : ∀ (n : Nat) (σ : cS) (x1 : Int32) (x2 : Int32) (H : Heap) (locs : List Loc) (ls : Array Slot), cM D ca true A s.heap σ0 α σ α H locs → lv_has ls 3 [(0, cr α 4 (some 0)), (1, .int x1), (2, .int x2)] → fc_X8_labelCount_4 n σ x1 x2 = some o → W p l e rc_X8_labelCount s m args below meth c H locs 0 0 (MQ below (cQ false D ca true A α σ0 (fun _ => some (.int o.1)) o.2) args s 0 0 A) (F0 m 4 ls []) := by
  have hx := C.1
  have hb := C.2.1
  intro n
  induction n with
  | zero =>
    intro σ x1 x2 H locs ls hM hl h
    cases h
  | succ n ih =>
    intro σ x1 x2 H locs ls hM hl h
    rw [fc_X8_labelCount_4] at h
    refine lv_iload_n hx hb dX8_labelCount_4 rfl (lv_at hl 2 rfl) ?_
    refine c_aload_n (t := 4) (x := (some 0)) hx hb dX8_labelCount_5 rfl (lv_at hl 0 rfl) ?_
    refine c_getb C hM (k := 4) (f := 0) (j := 0) (t := 10) (hM.cst 4 0 rfl) (by decide) fl_X8_12 dX8_labelCount_6 ?_
    obtain ⟨r_1, hr_1, h⟩ := bd_of h
    refine c_go0 (c_rV (As := []) (rest := [.int x2]) C hM h17 (hM.cst 10 0 rfl) (by decide) (cc_Jx4a65c_size_8abf5 l D ca A α σ (some 0) _ hr_1) cw_X8_26 ⟨rfl, rfl⟩ ⟨Nat.le_of_ble_eq_true rfl, Nat.le_of_ble_eq_true rfl⟩ rfl rfl (cats_le _ (Nat.le_of_ble_eq_true rfl)) hl.1 dX8_labelCount_9 ⟨Nat.le_of_ble_eq_true rfl, Nat.le_of_ble_eq_true rfl⟩) hM (fun H locs hM => ?_)
    refine W_st (st' := [.int r_1.1, .int x2]) rfl ?_
    refine lv_icmp_ge (tgt := 43) hx hb dX8_labelCount_12 (by decide) (fun c_1 => ?_) (fun c_1 => ?_)
    · have h := br_T c_1 h
      refine lv_iload_n hx hb dX8_labelCount_43 rfl (lv_at hl 1 rfl) ?_
      exact c_ri C hM (fun _ => rfl) hr hlk dX8_labelCount_44 h
    · have h := br_F c_1 h
      refine c_aload_n (t := 4) (x := (some 0)) hx hb dX8_labelCount_15 rfl (lv_at hl 0 rfl) ?_
      refine c_getb C hM (k := 4) (f := 0) (j := 0) (t := 10) (hM.cst 4 0 rfl) (by decide) fl_X8_12 dX8_labelCount_16 ?_
      refine lv_iload_n hx hb dX8_labelCount_19 rfl (lv_at hl 2 rfl) ?_
      obtain ⟨r_2, hr_2, h⟩ := bd_of h
      refine c_go0 (c_rV (As := [.int x2]) (rest := []) C hM h17 (hM.cst 10 0 rfl) (by decide) (cc_Jx4a65c_get_915e3 l D ca A α r_1.2 (some 0) x2 7 _ hr_2) cw_X8_34 ⟨rfl, rfl⟩ ⟨Nat.le_of_ble_eq_true rfl, Nat.le_of_ble_eq_true rfl⟩ rfl rfl (cats_le _ (Nat.le_of_ble_eq_true rfl)) hl.1 dX8_labelCount_20 ⟨Nat.le_of_ble_eq_true rfl, Nat.le_of_ble_eq_true rfl⟩) hM (fun H locs hM => ?_)
      refine W_st (st' := [cr α 7 r_2.1]) rfl ?_
      obtain ⟨c_2, h⟩ := ko_of h
      refine c_castk C hM (k := 7) (Classical.not_not.mp c_2) (by decide) kl_X8_38 dX8_labelCount_23 ?_
      obtain ⟨i_3, hd_3, h⟩ := bd_of h
      refine c_getl C hM (k := 7) (f := 5) hd_3 rfl fl_X8_69 dX8_labelCount_26 ?_
      refine lv_lconst (v := (0 : Int64)) hx hb dX8_labelCount_29 (by decide) ?_
      refine W.lcmp hx hb dX8_labelCount_30 ?_
      refine lv_if_eq (tgt := 37) hx hb dX8_labelCount_31 (by decide) (fun c_3 => ?_) (fun c_3 => ?_)
      · have h := br_T c_3 h
        exact gc_X8_labelCount_37 C hr hlk h17 ih _ _ _ _ _ _ hM (lv_sub hl [0, 1, 2] rfl) h
      · have h := br_F c_3 h
        refine lv_iinc (v := (x1 + (1 : Int32))) (lv' := [(1, .int (x1 + (1 : Int32))), (0, cr α 4 (some 0)), (2, .int x2)]) hx hb dX8_labelCount_34 hl (k := 1) rfl rfl (by decide) rfl (fun ls hl => ?_)
        exact gc_X8_labelCount_37 C hr hlk h17 ih _ _ _ _ _ _ hM (lv_sub hl [1, 0, 2] rfl) h
def fc_X8_labelCount (σ : cS) : Option (Int32 × cS) :=
  fc_X8_labelCount_4 3000 σ (0 : Int32) (0 : Int32)
set_option maxHeartbeats 4000000 in
set_option maxRecDepth 100000 in
theorem cc_X8_labelCount (l : Launch) (D : va_G) (ca : Nat → ClassId) (A : Nat → Prop) (α : cAl) (σ : cS) (o : Int32 × cS) (h : fc_X8_labelCount σ  = some o) : cMet false l yX8_labelCount cX8_labelCount 3 ((some FieldType.int)) rc_X8_labelCount 0 0 D ca true A α σ [cr α 4 (some 0)] (fun _ => some (.int o.1)) o.2 := by
  refine Met.ofW (cc := cX8_labelCount) (maxL := 3) (ret := (some FieldType.int)) (by decide) rfl ?_
  intro p e s m args below meth c s₁ B hml hv
  obtain ⟨rfl, hP, hK, hD0, hSh, hA, hG⟩ := hv
  have C : cC p s m _ c cX8_labelCount 3 RX8 D ca A α := ⟨B.exec, B.bytes, hml, findClass_of_methodNamed B.named, fun w hw => atoms_spec (ws := mWs yX8_labelCount cX8_labelCount 3 ((some FieldType.int))) B.pre w (List.mem_cons_of_mem _ hw), hK, hG⟩
  have hM : cM D ca true A s.heap σ α σ α s.heap [] := ⟨hP, hD0, hSh, va_S.rf, hA, cX.rf⟩
  have h17 : 0 < cn σ 17 := c_17 hM
  have hr := B.returns
  have hlk := B.notSynchronized
  have hx := C.1
  have hb := C.2.1
  have hl := lv_entry ([cr α 4 (some 0)]) (n := 3) (Nat.le_of_ble_eq_true rfl)
  rw [lg_entry_eq]
  generalize (lg_sl ([cr α 4 (some 0)]) ++ List.replicate (3 - (lg_sl ([cr α 4 (some 0)])).length) Slot.unset).toArray = ls at hl ⊢
  have hl : lv_has ls 3 [(0, cr α 4 (some 0))] := hl
  unfold fc_X8_labelCount at h
  refine lv_iconst (v := (0 : Int32)) hx hb dX8_labelCount_0 (by decide) ?_
  refine lv_istore_n (lv' := [(1, .int (0 : Int32)), (0, cr α 4 (some 0))]) hx hb dX8_labelCount_1 rfl hl (by decide) rfl (fun ls hl => ?_)
  refine lv_iconst (v := (0 : Int32)) hx hb dX8_labelCount_2 (by decide) ?_
  refine lv_istore_n (lv' := [(2, .int (0 : Int32)), (1, .int (0 : Int32)), (0, cr α 4 (some 0))]) hx hb dX8_labelCount_3 rfl hl (by decide) rfl (fun ls hl => ?_)
  exact gc_X8_labelCount_4 C hr hlk h17  _ _ _ _ _ _ _ hM (lv_sub hl [2, 1, 0] rfl) h
/-! Lorewick$Tree.postingAt(II)I -/
abbrev rc_X8_postingAt : Room := { frames := 4, cells := 0, slots := 0, locals := 102 }
def fc_X8_postingAt_50 (k_5 : cS → Int32 → Int32 → Int32 → Int32 → Option (Int32 × cS)) (σ : cS) (x1 : Int32) (x2 : Int32) (x3 : Int32) (x4 : Int32) : Option (Int32 × cS) :=
    k_5 σ x1 x2 x3 (x4 + (1 : Int32))
set_option maxHeartbeats 4000000 in
set_option maxRecDepth 100000 in
theorem gc_X8_postingAt_50 {p : Program} {l : Launch} {e : Env} {s : State} {m : MethodId} {args : Array Value} {below : List Frame} {meth : Method} {c : Code} {D : va_G} {ca : Nat → ClassId} {A : Nat → Prop} {σ0 : cS} {α : cAl} {o : Int32 × cS} {k_5 : cS → Int32 → Int32 → Int32 → Int32 → Option (Int32 × cS)} (C : cC p s m args c cX8_postingAt 5 RX8 D ca A α) (hr : meth.sig.returnType = (some FieldType.int)) (hlk : meth.locks = false) (h17 : 0 < cn σ0 17) (hk_5 : ∀ (σ : cS) (x1 : Int32) (x2 : Int32) (x3 : Int32) (x4 : Int32) (H : Heap) (locs : List Loc) (ls : Array Slot), cM D ca true A s.heap σ0 α σ α H locs → lv_has ls 5 [(0, cr α 4 (some 0)), (1, .int x1), (2, .int x2), (3, .int x3), (4, .int x4)] → k_5 σ x1 x2 x3 x4 = some o → W p l e rc_X8_postingAt s m args below meth c H locs 0 0 (MQ below (cQ false D ca true A α σ0 (fun _ => some (.int o.1)) o.2) args s 0 0 A) (F0 m 5 ls [])) : ∀ (σ : cS) (x1 : Int32) (x2 : Int32) (x3 : Int32) (x4 : Int32) (H : Heap) (locs : List Loc) (ls : Array Slot), cM D ca true A s.heap σ0 α σ α H locs → lv_has ls 5 [(0, cr α 4 (some 0)), (1, .int x1), (2, .int x2), (3, .int x3), (4, .int x4)] → fc_X8_postingAt_50 k_5 σ x1 x2 x3 x4 = some o → W p l e rc_X8_postingAt s m args below meth c H locs 0 0 (MQ below (cQ false D ca true A α σ0 (fun _ => some (.int o.1)) o.2) args s 0 0 A) (F0 m 50 ls []) := by
  have hx := C.1
  have hb := C.2.1
  intro σ x1 x2 x3 x4 H locs ls hM hl h
  unfold fc_X8_postingAt_50 at h
  refine lv_iinc (v := (x4 + (1 : Int32))) (lv' := [(4, .int (x4 + (1 : Int32))), (0, cr α 4 (some 0)), (1, .int x1), (2, .int x2), (3, .int x3)]) hx hb dX8_postingAt_50 hl (k := 4) rfl rfl (by decide) rfl (fun ls hl => ?_)
  refine lv_goto (tgt := 5) hx hb dX8_postingAt_53 (by decide) ?_
  exact hk_5 _ _ _ _ _ _ _ _ hM (lv_sub hl [1, 2, 3, 4, 0] rfl) h
def fc_X8_postingAt_5 : Nat → cS → Int32 → Int32 → Int32 → Int32 → Option (Int32 × cS)
  | 0, _, _, _, _, _ => none
  | n + 1, σ, x1, x2, x3, x4 =>
    (fc_Jx4a65c_size_8abf5 σ (some 0)).bind fun r_1 =>
    if r_1.1 ≤ x4 then
      some ((-1 : Int32), r_1.2)
    else
      (fc_Jx4a65c_get_915e3 r_1.2 (some 0) x4 7).bind fun r_2 =>
      if ¬ (lvq r_2.2 7 r_2.1 = true) then none else
      (dr r_2.2 7 r_2.1).bind fun i_3 =>
      (fc_X11_includes r_2.2 (cJ r_2.2 7 i_3 4) x1).bind fun r_4 =>
      if r_4.1 = 0 then
        fc_X8_postingAt_50 (fc_X8_postingAt_5 n) r_4.2 x1 x2 x3 x4
      else
        if x3 = x2 then
          some (x4, r_4.2)
        else
          fc_X8_postingAt_50 (fc_X8_postingAt_5 n) r_4.2 x1 x2 (x3 + (1 : Int32)) x4
set_option maxHeartbeats 4000000 in
set_option maxRecDepth 100000 in
theorem gc_X8_postingAt_5 {p : Program} {l : Launch} {e : Env} {s : State} {m : MethodId} {args : Array Value} {below : List Frame} {meth : Method} {c : Code} {D : va_G} {ca : Nat → ClassId} {A : Nat → Prop} {σ0 : cS} {α : cAl} {o : Int32 × cS} (C : cC p s m args c cX8_postingAt 5 RX8 D ca A α) (hr : meth.sig.returnType = (some FieldType.int)) (hlk : meth.locks = false) (h17 : 0 < cn σ0 17) : ∀ (n : Nat) (σ : cS) (x1 : Int32) (x2 : Int32) (x3 : Int32) (x4 : Int32) (H : Heap) (locs : List Loc) (ls : Array Slot), cM D ca true A s.heap σ0 α σ α H locs → lv_has ls 5 [(0, cr α 4 (some 0)), (1, .int x1), (2, .int x2), (3, .int x3), (4, .int x4)] → fc_X8_postingAt_5 n σ x1 x2 x3 x4 = some o → W p l e rc_X8_postingAt s m args below meth c H locs 0 0 (MQ below (cQ false D ca true A α σ0 (fun _ => some (.int o.1)) o.2) args s 0 0 A) (F0 m 5 ls []) := by
  have hx := C.1
  have hb := C.2.1
  intro n
  induction n with
  | zero =>
    intro σ x1 x2 x3 x4 H locs ls hM hl h
    cases h
  | succ n ih =>
    intro σ x1 x2 x3 x4 H locs ls hM hl h
    rw [fc_X8_postingAt_5] at h
    refine lv_iload hx hb dX8_postingAt_5 (lv_at hl 4 rfl) ?_
    refine c_aload_n (t := 4) (x := (some 0)) hx hb dX8_postingAt_7 rfl (lv_at hl 0 rfl) ?_
    refine c_getb C hM (k := 4) (f := 0) (j := 0) (t := 10) (hM.cst 4 0 rfl) (by decide) fl_X8_12 dX8_postingAt_8 ?_
    obtain ⟨r_1, hr_1, h⟩ := bd_of h
    refine c_go0 (c_rV (As := []) (rest := [.int x4]) C hM h17 (hM.cst 10 0 rfl) (by decide) (cc_Jx4a65c_size_8abf5 l D ca A α σ (some 0) _ hr_1) cw_X8_26 ⟨rfl, rfl⟩ ⟨Nat.le_of_ble_eq_true rfl, Nat.le_of_ble_eq_true rfl⟩ rfl rfl (cats_le _ (Nat.le_of_ble_eq_true rfl)) hl.1 dX8_postingAt_11 ⟨Nat.le_of_ble_eq_true rfl, Nat.le_of_ble_eq_true rfl⟩) hM (fun H locs hM => ?_)
    refine W_st (st' := [.int r_1.1, .int x4]) rfl ?_
    refine lv_icmp_ge (tgt := 56) hx hb dX8_postingAt_14 (by decide) (fun c_1 => ?_) (fun c_1 => ?_)
    · have h := br_T c_1 h
      refine lv_iconst (v := (-1 : Int32)) hx hb dX8_postingAt_56 (by decide) ?_
      exact c_ri C hM (fun _ => rfl) hr hlk dX8_postingAt_57 h
    · have h := br_F c_1 h
      refine c_aload_n (t := 4) (x := (some 0)) hx hb dX8_postingAt_17 rfl (lv_at hl 0 rfl) ?_
      refine c_getb C hM (k := 4) (f := 0) (j := 0) (t := 10) (hM.cst 4 0 rfl) (by decide) fl_X8_12 dX8_postingAt_18 ?_
      refine lv_iload hx hb dX8_postingAt_21 (lv_at hl 4 rfl) ?_
      obtain ⟨r_2, hr_2, h⟩ := bd_of h
      refine c_go0 (c_rV (As := [.int x4]) (rest := []) C hM h17 (hM.cst 10 0 rfl) (by decide) (cc_Jx4a65c_get_915e3 l D ca A α r_1.2 (some 0) x4 7 _ hr_2) cw_X8_34 ⟨rfl, rfl⟩ ⟨Nat.le_of_ble_eq_true rfl, Nat.le_of_ble_eq_true rfl⟩ rfl rfl (cats_le _ (Nat.le_of_ble_eq_true rfl)) hl.1 dX8_postingAt_23 ⟨Nat.le_of_ble_eq_true rfl, Nat.le_of_ble_eq_true rfl⟩) hM (fun H locs hM => ?_)
      refine W_st (st' := [cr α 7 r_2.1]) rfl ?_
      obtain ⟨c_2, h⟩ := ko_of h
      refine c_castk C hM (k := 7) (Classical.not_not.mp c_2) (by decide) kl_X8_38 dX8_postingAt_26 ?_
      obtain ⟨i_3, hd_3, h⟩ := bd_of h
      refine c_getl C hM (k := 7) (f := 4) hd_3 rfl fl_X8_73 dX8_postingAt_29 ?_
      refine lv_iload_n hx hb dX8_postingAt_32 rfl (lv_at hl 1 rfl) ?_
      obtain ⟨r_4, hr_4, h⟩ := bd_of h
      refine c_go0 (c_rSN (As := [.long (cJ r_2.2 7 i_3 4), .int x1]) (rest := []) C hM h17 (cc_X11_includes l D ca A α r_2.2 (cJ r_2.2 7 i_3 4) x1 _ hr_4) cw_X8_51 (wl_in (i := 399) (by decide +kernel)) ⟨rfl, rfl⟩ ⟨Nat.le_of_ble_eq_true rfl, Nat.le_of_ble_eq_true rfl⟩ rfl rfl (cats_le _ (Nat.le_of_ble_eq_true rfl)) hl.1 dX8_postingAt_33 ⟨Nat.le_of_ble_eq_true rfl, Nat.le_of_ble_eq_true rfl⟩) hM (fun H locs hM => ?_)
      refine W_st (st' := [.int r_4.1]) rfl ?_
      refine lv_if_eq (tgt := 50) hx hb dX8_postingAt_36 (by decide) (fun c_3 => ?_) (fun c_3 => ?_)
      · have h := br_T c_3 h
        exact gc_X8_postingAt_50 C hr hlk h17 ih _ _ _ _ _ _ _ _ hM (lv_sub hl [0, 1, 2, 3, 4] rfl) h
      · have h := br_F c_3 h
        refine lv_iload_n hx hb dX8_postingAt_39 rfl (lv_at hl 3 rfl) ?_
        refine lv_iload_n hx hb dX8_postingAt_40 rfl (lv_at hl 2 rfl) ?_
        refine lv_icmp_ne (tgt := 47) hx hb dX8_postingAt_41 (by decide) (fun c_4 => ?_) (fun c_4 => ?_)
        · have h := br_F c_4 h
          refine lv_iinc (v := (x3 + (1 : Int32))) (lv' := [(3, .int (x3 + (1 : Int32))), (0, cr α 4 (some 0)), (1, .int x1), (2, .int x2), (4, .int x4)]) hx hb dX8_postingAt_47 hl (k := 3) rfl rfl (by decide) rfl (fun ls hl => ?_)
          exact gc_X8_postingAt_50 C hr hlk h17 ih _ _ _ _ _ _ _ _ hM (lv_sub hl [1, 2, 3, 0, 4] rfl) h
        · have h := br_T c_4 h
          refine lv_iload hx hb dX8_postingAt_44 (lv_at hl 4 rfl) ?_
          exact c_ri C hM (fun _ => rfl) hr hlk dX8_postingAt_46 h
def fc_X8_postingAt (σ : cS) (x1 : Int32) (x2 : Int32) : Option (Int32 × cS) :=
  fc_X8_postingAt_5 3000 σ x1 x2 (0 : Int32) (0 : Int32)
set_option maxHeartbeats 4000000 in
set_option maxRecDepth 100000 in
theorem cc_X8_postingAt (l : Launch) (D : va_G) (ca : Nat → ClassId) (A : Nat → Prop) (α : cAl) (σ : cS) (x1 : Int32) (x2 : Int32) (o : Int32 × cS) (h : fc_X8_postingAt σ x1 x2 = some o) : cMet false l yX8_postingAt cX8_postingAt 5 ((some FieldType.int)) rc_X8_postingAt 0 0 D ca true A α σ [cr α 4 (some 0), .int x1, .int x2] (fun _ => some (.int o.1)) o.2 := by
  refine Met.ofW (cc := cX8_postingAt) (maxL := 5) (ret := (some FieldType.int)) (by decide) rfl ?_
  intro p e s m args below meth c s₁ B hml hv
  obtain ⟨rfl, hP, hK, hD0, hSh, hA, hG⟩ := hv
  have C : cC p s m _ c cX8_postingAt 5 RX8 D ca A α := ⟨B.exec, B.bytes, hml, findClass_of_methodNamed B.named, fun w hw => atoms_spec (ws := mWs yX8_postingAt cX8_postingAt 5 ((some FieldType.int))) B.pre w (List.mem_cons_of_mem _ hw), hK, hG⟩
  have hM : cM D ca true A s.heap σ α σ α s.heap [] := ⟨hP, hD0, hSh, va_S.rf, hA, cX.rf⟩
  have h17 : 0 < cn σ 17 := c_17 hM
  have hr := B.returns
  have hlk := B.notSynchronized
  have hx := C.1
  have hb := C.2.1
  have hl := lv_entry ([cr α 4 (some 0), .int x1, .int x2]) (n := 5) (Nat.le_of_ble_eq_true rfl)
  rw [lg_entry_eq]
  generalize (lg_sl ([cr α 4 (some 0), .int x1, .int x2]) ++ List.replicate (5 - (lg_sl ([cr α 4 (some 0), .int x1, .int x2])).length) Slot.unset).toArray = ls at hl ⊢
  have hl : lv_has ls 5 [(0, cr α 4 (some 0)), (1, .int x1), (2, .int x2)] := hl
  unfold fc_X8_postingAt at h
  refine lv_iconst (v := (0 : Int32)) hx hb dX8_postingAt_0 (by decide) ?_
  refine lv_istore_n (lv' := [(3, .int (0 : Int32)), (0, cr α 4 (some 0)), (1, .int x1), (2, .int x2)]) hx hb dX8_postingAt_1 rfl hl (by decide) rfl (fun ls hl => ?_)
  refine lv_iconst (v := (0 : Int32)) hx hb dX8_postingAt_2 (by decide) ?_
  refine lv_istore (lv' := [(4, .int (0 : Int32)), (3, .int (0 : Int32)), (0, cr α 4 (some 0)), (1, .int x1), (2, .int x2)]) hx hb dX8_postingAt_3 hl (by decide) rfl (fun ls hl => ?_)
  exact gc_X8_postingAt_5 C hr hlk h17  _ _ _ _ _ _ _ _ _ hM (lv_sub hl [2, 3, 4, 1, 0] rfl) h
/-! Lorewick$Tree.rarerThan(JI)I -/
abbrev rc_X8_rarerThan : Room := { frames := 1, cells := 0, slots := 0, locals := 22 }
def fc_X8_rarerThan_75 (k_6 : cS → Int64 → Int32 → Int32 → Int32 → Option (Int32 × cS)) (σ : cS) (x1 : Int64) (x3 : Int32) (x4 : Int32) (x5 : Int32) : Option (Int32 × cS) :=
    k_6 σ x1 x3 x4 (x5 + (1 : Int32))
set_option maxHeartbeats 4000000 in
set_option maxRecDepth 100000 in
theorem gc_X8_rarerThan_75 {p : Program} {l : Launch} {e : Env} {s : State} {m : MethodId} {args : Array Value} {below : List Frame} {meth : Method} {c : Code} {D : va_G} {ca : Nat → ClassId} {A : Nat → Prop} {σ0 : cS} {α : cAl} {o : Int32 × cS} {k_6 : cS → Int64 → Int32 → Int32 → Int32 → Option (Int32 × cS)} (C : cC p s m args c cX8_rarerThan 7 RX8 D ca A α) (hr : meth.sig.returnType = (some FieldType.int)) (hlk : meth.locks = false) (h17 : 0 < cn σ0 17) (hk_6 : ∀ (σ : cS) (x1 : Int64) (x3 : Int32) (x4 : Int32) (x5 : Int32) (H : Heap) (locs : List Loc) (ls : Array Slot), cM D ca true A s.heap σ0 α σ α H locs → lv_has ls 7 [(0, cr α 4 (some 0)), (1, .long x1), (3, .int x3), (4, .int x4), (5, .int x5)] → k_6 σ x1 x3 x4 x5 = some o → W p l e rc_X8_rarerThan s m args below meth c H locs 0 0 (MQ below (cQ false D ca true A α σ0 (fun _ => some (.int o.1)) o.2) args s 0 0 A) (F0 m 6 ls [])) : ∀ (σ : cS) (x1 : Int64) (x3 : Int32) (x4 : Int32) (x5 : Int32) (H : Heap) (locs : List Loc) (ls : Array Slot), cM D ca true A s.heap σ0 α σ α H locs → lv_has ls 7 [(0, cr α 4 (some 0)), (1, .long x1), (3, .int x3), (4, .int x4), (5, .int x5)] → fc_X8_rarerThan_75 k_6 σ x1 x3 x4 x5 = some o → W p l e rc_X8_rarerThan s m args below meth c H locs 0 0 (MQ below (cQ false D ca true A α σ0 (fun _ => some (.int o.1)) o.2) args s 0 0 A) (F0 m 75 ls []) := by
  have hx := C.1
  have hb := C.2.1
  intro σ x1 x3 x4 x5 H locs ls hM hl h
  unfold fc_X8_rarerThan_75 at h
  refine lv_iinc (v := (x5 + (1 : Int32))) (lv' := [(5, .int (x5 + (1 : Int32))), (0, cr α 4 (some 0)), (1, .long x1), (3, .int x3), (4, .int x4)]) hx hb dX8_rarerThan_75 hl (k := 4) rfl rfl (by decide) rfl (fun ls hl => ?_)
  refine lv_goto (tgt := 6) hx hb dX8_rarerThan_78 (by decide) ?_
  exact hk_6 _ _ _ _ _ _ _ _ hM (lv_sub hl [1, 2, 3, 4, 0] rfl) h
def fc_X8_rarerThan_56 (k_6 : cS → Int64 → Int32 → Int32 → Int32 → Option (Int32 × cS)) (σ : cS) (x1 : Int64) (x3 : Int32) (x4 : Int32) (x5 : Int32) (s0 : Int32) : Option (Int32 × cS) :=
    if s0 = 0 then
      fc_X8_rarerThan_75 k_6 σ x1 x3 x4 x5
    else
      (fc_X11_includes σ x1 x5).bind fun r_1 =>
      if r_1.1 = 0 then
        fc_X8_rarerThan_75 k_6 r_1.2 x1 x3 x4 x5
      else
        fc_X8_rarerThan_75 k_6 r_1.2 x1 x3 (x4 + (1 : Int32)) x5
set_option maxHeartbeats 4000000 in
set_option maxRecDepth 100000 in
theorem gc_X8_rarerThan_56 {p : Program} {l : Launch} {e : Env} {s : State} {m : MethodId} {args : Array Value} {below : List Frame} {meth : Method} {c : Code} {D : va_G} {ca : Nat → ClassId} {A : Nat → Prop} {σ0 : cS} {α : cAl} {o : Int32 × cS} {k_6 : cS → Int64 → Int32 → Int32 → Int32 → Option (Int32 × cS)} (C : cC p s m args c cX8_rarerThan 7 RX8 D ca A α) (hr : meth.sig.returnType = (some FieldType.int)) (hlk : meth.locks = false) (h17 : 0 < cn σ0 17) (hk_6 : ∀ (σ : cS) (x1 : Int64) (x3 : Int32) (x4 : Int32) (x5 : Int32) (H : Heap) (locs : List Loc) (ls : Array Slot), cM D ca true A s.heap σ0 α σ α H locs → lv_has ls 7 [(0, cr α 4 (some 0)), (1, .long x1), (3, .int x3), (4, .int x4), (5, .int x5)] → k_6 σ x1 x3 x4 x5 = some o → W p l e rc_X8_rarerThan s m args below meth c H locs 0 0 (MQ below (cQ false D ca true A α σ0 (fun _ => some (.int o.1)) o.2) args s 0 0 A) (F0 m 6 ls [])) : ∀ (σ : cS) (x1 : Int64) (x3 : Int32) (x4 : Int32) (x5 : Int32) (s0 : Int32) (H : Heap) (locs : List Loc) (ls : Array Slot), cM D ca true A s.heap σ0 α σ α H locs → lv_has ls 7 [(0, cr α 4 (some 0)), (1, .long x1), (3, .int x3), (4, .int x4), (5, .int x5)] → fc_X8_rarerThan_56 k_6 σ x1 x3 x4 x5 s0 = some o → W p l e rc_X8_rarerThan s m args below meth c H locs 0 0 (MQ below (cQ false D ca true A α σ0 (fun _ => some (.int o.1)) o.2) args s 0 0 A) (F0 m 56 ls [.int s0]) := by
  have hx := C.1
  have hb := C.2.1
  intro σ x1 x3 x4 x5 s0 H locs ls hM hl h
  unfold fc_X8_rarerThan_56 at h
  refine lv_istore (lv' := [(6, .int s0), (0, cr α 4 (some 0)), (1, .long x1), (3, .int x3), (4, .int x4), (5, .int x5)]) hx hb dX8_rarerThan_56 hl (by decide) rfl (fun ls hl => ?_)
  refine lv_iload hx hb dX8_rarerThan_58 (lv_at hl 0 rfl) ?_
  refine lv_if_eq (tgt := 75) hx hb dX8_rarerThan_60 (by decide) (fun c_1 => ?_) (fun c_1 => ?_)
  · have h := br_T c_1 h
    exact gc_X8_rarerThan_75 C hr hlk h17 hk_6 _ _ _ _ _ _ _ _ hM (lv_sub hl [1, 2, 3, 4, 5] rfl) h
  · have h := br_F c_1 h
    refine lv_lload_n hx hb dX8_rarerThan_63 rfl (lv_at hl 2 rfl) ?_
    refine lv_iload hx hb dX8_rarerThan_64 (lv_at hl 5 rfl) ?_
    obtain ⟨r_1, hr_1, h⟩ := bd_of h
    refine c_go0 (c_rSN (As := [.long x1, .int x5]) (rest := []) C hM h17 (cc_X11_includes l D ca A α σ x1 x5 _ hr_1) cw_X8_51 (wl_in (i := 399) (by decide +kernel)) ⟨rfl, rfl⟩ ⟨Nat.le_of_ble_eq_true rfl, Nat.le_of_ble_eq_true rfl⟩ rfl rfl (cats_le _ (Nat.le_of_ble_eq_true rfl)) hl.1 dX8_rarerThan_66 ⟨Nat.le_of_ble_eq_true rfl, Nat.le_of_ble_eq_true rfl⟩) hM (fun H locs hM => ?_)
    refine W_st (st' := [.int r_1.1]) rfl ?_
    refine lv_if_eq (tgt := 75) hx hb dX8_rarerThan_69 (by decide) (fun c_2 => ?_) (fun c_2 => ?_)
    · have h := br_T c_2 h
      exact gc_X8_rarerThan_75 C hr hlk h17 hk_6 _ _ _ _ _ _ _ _ hM (lv_sub hl [1, 2, 3, 4, 5] rfl) h
    · have h := br_F c_2 h
      refine lv_iinc (v := (x4 + (1 : Int32))) (lv' := [(4, .int (x4 + (1 : Int32))), (6, .int s0), (0, cr α 4 (some 0)), (1, .long x1), (3, .int x3), (5, .int x5)]) hx hb dX8_rarerThan_72 hl (k := 4) rfl rfl (by decide) rfl (fun ls hl => ?_)
      exact gc_X8_rarerThan_75 C hr hlk h17 hk_6 _ _ _ _ _ _ _ _ hM (lv_sub hl [2, 3, 4, 0, 5] rfl) h
def fc_X8_rarerThan_51 (k_6 : cS → Int64 → Int32 → Int32 → Int32 → Option (Int32 × cS)) (σ : cS) (x1 : Int64) (x3 : Int32) (x4 : Int32) (x5 : Int32) : Option (Int32 × cS) :=
    fc_X8_rarerThan_56 k_6 σ x1 x3 x4 x5 (1 : Int32)
set_option maxHeartbeats 4000000 in
set_option maxRecDepth 100000 in
theorem gc_X8_rarerThan_51 {p : Program} {l : Launch} {e : Env} {s : State} {m : MethodId} {args : Array Value} {below : List Frame} {meth : Method} {c : Code} {D : va_G} {ca : Nat → ClassId} {A : Nat → Prop} {σ0 : cS} {α : cAl} {o : Int32 × cS} {k_6 : cS → Int64 → Int32 → Int32 → Int32 → Option (Int32 × cS)} (C : cC p s m args c cX8_rarerThan 7 RX8 D ca A α) (hr : meth.sig.returnType = (some FieldType.int)) (hlk : meth.locks = false) (h17 : 0 < cn σ0 17) (hk_6 : ∀ (σ : cS) (x1 : Int64) (x3 : Int32) (x4 : Int32) (x5 : Int32) (H : Heap) (locs : List Loc) (ls : Array Slot), cM D ca true A s.heap σ0 α σ α H locs → lv_has ls 7 [(0, cr α 4 (some 0)), (1, .long x1), (3, .int x3), (4, .int x4), (5, .int x5)] → k_6 σ x1 x3 x4 x5 = some o → W p l e rc_X8_rarerThan s m args below meth c H locs 0 0 (MQ below (cQ false D ca true A α σ0 (fun _ => some (.int o.1)) o.2) args s 0 0 A) (F0 m 6 ls [])) : ∀ (σ : cS) (x1 : Int64) (x3 : Int32) (x4 : Int32) (x5 : Int32) (H : Heap) (locs : List Loc) (ls : Array Slot), cM D ca true A s.heap σ0 α σ α H locs → lv_has ls 7 [(0, cr α 4 (some 0)), (1, .long x1), (3, .int x3), (4, .int x4), (5, .int x5)] → fc_X8_rarerThan_51 k_6 σ x1 x3 x4 x5 = some o → W p l e rc_X8_rarerThan s m args below meth c H locs 0 0 (MQ below (cQ false D ca true A α σ0 (fun _ => some (.int o.1)) o.2) args s 0 0 A) (F0 m 51 ls []) := by
  have hx := C.1
  have hb := C.2.1
  intro σ x1 x3 x4 x5 H locs ls hM hl h
  unfold fc_X8_rarerThan_51 at h
  refine lv_iconst (v := (1 : Int32)) hx hb dX8_rarerThan_51 (by decide) ?_
  refine lv_goto (tgt := 56) hx hb dX8_rarerThan_52 (by decide) ?_
  exact gc_X8_rarerThan_56 C hr hlk h17 hk_6 _ _ _ _ _ _ _ _ _ hM (lv_sub hl [0, 1, 2, 3, 4] rfl) h
def fc_X8_rarerThan_55 (k_6 : cS → Int64 → Int32 → Int32 → Int32 → Option (Int32 × cS)) (σ : cS) (x1 : Int64) (x3 : Int32) (x4 : Int32) (x5 : Int32) : Option (Int32 × cS) :=
    fc_X8_rarerThan_56 k_6 σ x1 x3 x4 x5 (0 : Int32)
set_option maxHeartbeats 4000000 in
set_option maxRecDepth 100000 in
theorem gc_X8_rarerThan_55 {p : Program} {l : Launch} {e : Env} {s : State} {m : MethodId} {args : Array Value} {below : List Frame} {meth : Method} {c : Code} {D : va_G} {ca : Nat → ClassId} {A : Nat → Prop} {σ0 : cS} {α : cAl} {o : Int32 × cS} {k_6 : cS → Int64 → Int32 → Int32 → Int32 → Option (Int32 × cS)} (C : cC p s m args c cX8_rarerThan 7 RX8 D ca A α) (hr : meth.sig.returnType = (some FieldType.int)) (hlk : meth.locks = false) (h17 : 0 < cn σ0 17) (hk_6 : ∀ (σ : cS) (x1 : Int64) (x3 : Int32) (x4 : Int32) (x5 : Int32) (H : Heap) (locs : List Loc) (ls : Array Slot), cM D ca true A s.heap σ0 α σ α H locs → lv_has ls 7 [(0, cr α 4 (some 0)), (1, .long x1), (3, .int x3), (4, .int x4), (5, .int x5)] → k_6 σ x1 x3 x4 x5 = some o → W p l e rc_X8_rarerThan s m args below meth c H locs 0 0 (MQ below (cQ false D ca true A α σ0 (fun _ => some (.int o.1)) o.2) args s 0 0 A) (F0 m 6 ls [])) : ∀ (σ : cS) (x1 : Int64) (x3 : Int32) (x4 : Int32) (x5 : Int32) (H : Heap) (locs : List Loc) (ls : Array Slot), cM D ca true A s.heap σ0 α σ α H locs → lv_has ls 7 [(0, cr α 4 (some 0)), (1, .long x1), (3, .int x3), (4, .int x4), (5, .int x5)] → fc_X8_rarerThan_55 k_6 σ x1 x3 x4 x5 = some o → W p l e rc_X8_rarerThan s m args below meth c H locs 0 0 (MQ below (cQ false D ca true A α σ0 (fun _ => some (.int o.1)) o.2) args s 0 0 A) (F0 m 55 ls []) := by
  have hx := C.1
  have hb := C.2.1
  intro σ x1 x3 x4 x5 H locs ls hM hl h
  unfold fc_X8_rarerThan_55 at h
  refine lv_iconst (v := (0 : Int32)) hx hb dX8_rarerThan_55 (by decide) ?_
  exact gc_X8_rarerThan_56 C hr hlk h17 hk_6 _ _ _ _ _ _ _ _ _ hM (lv_sub hl [0, 1, 2, 3, 4] rfl) h
def fc_X8_rarerThan_6 : Nat → cS → Int64 → Int32 → Int32 → Int32 → Option (Int32 × cS)
  | 0, _, _, _, _, _ => none
  | n + 1, σ, x1, x3, x4, x5 =>
    if (40 : Int32) ≤ x5 then
      some (x4, σ)
    else
      if x5 < 0 ∨ 40 ≤ x5.toNatClampNeg then none else
      if x3 < 0 ∨ 40 ≤ x3.toNatClampNeg then none else
      if (cI σ 12 11 x5.toNatClampNeg) < (cI σ 12 11 x3.toNatClampNeg) then
        fc_X8_rarerThan_51 (fc_X8_rarerThan_6 n) σ x1 x3 x4 x5
      else
        if x5 < 0 ∨ 40 ≤ x5.toNatClampNeg then none else
        if x3 < 0 ∨ 40 ≤ x3.toNatClampNeg then none else
        if (cI σ 12 11 x5.toNatClampNeg) = (cI σ 12 11 x3.toNatClampNeg) then
          if x3 ≤ x5 then
            fc_X8_rarerThan_55 (fc_X8_rarerThan_6 n) σ x1 x3 x4 x5
          else
            fc_X8_rarerThan_51 (fc_X8_rarerThan_6 n) σ x1 x3 x4 x5
        else
          fc_X8_rarerThan_55 (fc_X8_rarerThan_6 n) σ x1 x3 x4 x5
set_option maxHeartbeats 4000000 in
set_option maxRecDepth 100000 in
theorem gc_X8_rarerThan_6 {p : Program} {l : Launch} {e : Env} {s : State} {m : MethodId} {args : Array Value} {below : List Frame} {meth : Method} {c : Code} {D : va_G} {ca : Nat → ClassId} {A : Nat → Prop} {σ0 : cS} {α : cAl} {o : Int32 × cS} (C : cC p s m args c cX8_rarerThan 7 RX8 D ca A α) (hr : meth.sig.returnType = (some FieldType.int)) (hlk : meth.locks = false) (h17 : 0 < cn σ0 17) : ∀ (n : Nat) (σ : cS) (x1 : Int64) (x3 : Int32) (x4 : Int32) (x5 : Int32) (H : Heap) (locs : List Loc) (ls : Array Slot), cM D ca true A s.heap σ0 α σ α H locs → lv_has ls 7 [(0, cr α 4 (some 0)), (1, .long x1), (3, .int x3), (4, .int x4), (5, .int x5)] → fc_X8_rarerThan_6 n σ x1 x3 x4 x5 = some o → W p l e rc_X8_rarerThan s m args below meth c H locs 0 0 (MQ below (cQ false D ca true A α σ0 (fun _ => some (.int o.1)) o.2) args s 0 0 A) (F0 m 6 ls []) := by
  have hx := C.1
  have hb := C.2.1
  intro n
  induction n with
  | zero =>
    intro σ x1 x3 x4 x5 H locs ls hM hl h
    cases h
  | succ n ih =>
    intro σ x1 x3 x4 x5 H locs ls hM hl h
    rw [fc_X8_rarerThan_6] at h
    refine lv_iload hx hb dX8_rarerThan_6 (lv_at hl 4 rfl) ?_
    refine lv_bipush (v := (40 : Int32)) hx hb dX8_rarerThan_8 (by decide) ?_
    refine lv_icmp_ge (tgt := 81) hx hb dX8_rarerThan_10 (by decide) (fun c_1 => ?_) (fun c_1 => ?_)
    · have h := br_T c_1 h
      refine lv_iload hx hb dX8_rarerThan_81 (lv_at hl 3 rfl) ?_
      exact c_ri C hM (fun _ => rfl) hr hlk dX8_rarerThan_83 h
    · have h := br_F c_1 h
      refine c_aload_n (t := 4) (x := (some 0)) hx hb dX8_rarerThan_13 rfl (lv_at hl 0 rfl) ?_
      refine c_getb C hM (k := 4) (f := 1) (j := 11) (t := 12) (hM.cst 4 0 rfl) (by decide) fl_X8_18 dX8_rarerThan_14 ?_
      refine lv_iload hx hb dX8_rarerThan_17 (lv_at hl 4 rfl) ?_
      obtain ⟨c_2, h⟩ := ko_of h
      refine c_iald C hM (hM.cst 12 11 rfl) (by rw [hM.ln 12 11 40 (by decide)]; exact c_2) dX8_rarerThan_19 ?_
      refine c_aload_n (t := 4) (x := (some 0)) hx hb dX8_rarerThan_20 rfl (lv_at hl 0 rfl) ?_
      refine c_getb C hM (k := 4) (f := 1) (j := 11) (t := 12) (hM.cst 4 0 rfl) (by decide) fl_X8_18 dX8_rarerThan_21 ?_
      refine lv_iload_n hx hb dX8_rarerThan_24 rfl (lv_at hl 2 rfl) ?_
      obtain ⟨c_3, h⟩ := ko_of h
      refine c_iald C hM (hM.cst 12 11 rfl) (by rw [hM.ln 12 11 40 (by decide)]; exact c_3) dX8_rarerThan_25 ?_
      refine lv_icmp_lt (tgt := 51) hx hb dX8_rarerThan_26 (by decide) (fun c_4 => ?_) (fun c_4 => ?_)
      · have h := br_T c_4 h
        exact gc_X8_rarerThan_51 C hr hlk h17 ih _ _ _ _ _ _ _ _ hM (lv_sub hl [0, 1, 2, 3, 4] rfl) h
      · have h := br_F c_4 h
        refine c_aload_n (t := 4) (x := (some 0)) hx hb dX8_rarerThan_29 rfl (lv_at hl 0 rfl) ?_
        refine c_getb C hM (k := 4) (f := 1) (j := 11) (t := 12) (hM.cst 4 0 rfl) (by decide) fl_X8_18 dX8_rarerThan_30 ?_
        refine lv_iload hx hb dX8_rarerThan_33 (lv_at hl 4 rfl) ?_
        obtain ⟨c_5, h⟩ := ko_of h
        refine c_iald C hM (hM.cst 12 11 rfl) (by rw [hM.ln 12 11 40 (by decide)]; exact c_5) dX8_rarerThan_35 ?_
        refine c_aload_n (t := 4) (x := (some 0)) hx hb dX8_rarerThan_36 rfl (lv_at hl 0 rfl) ?_
        refine c_getb C hM (k := 4) (f := 1) (j := 11) (t := 12) (hM.cst 4 0 rfl) (by decide) fl_X8_18 dX8_rarerThan_37 ?_
        refine lv_iload_n hx hb dX8_rarerThan_40 rfl (lv_at hl 2 rfl) ?_
        obtain ⟨c_6, h⟩ := ko_of h
        refine c_iald C hM (hM.cst 12 11 rfl) (by rw [hM.ln 12 11 40 (by decide)]; exact c_6) dX8_rarerThan_41 ?_
        refine lv_icmp_ne (tgt := 55) hx hb dX8_rarerThan_42 (by decide) (fun c_7 => ?_) (fun c_7 => ?_)
        · have h := br_F c_7 h
          exact gc_X8_rarerThan_55 C hr hlk h17 ih _ _ _ _ _ _ _ _ hM (lv_sub hl [0, 1, 2, 3, 4] rfl) h
        · have h := br_T c_7 h
          refine lv_iload hx hb dX8_rarerThan_45 (lv_at hl 4 rfl) ?_
          refine lv_iload_n hx hb dX8_rarerThan_47 rfl (lv_at hl 2 rfl) ?_
          refine lv_icmp_ge (tgt := 55) hx hb dX8_rarerThan_48 (by decide) (fun c_8 => ?_) (fun c_8 => ?_)
          · have h := br_T c_8 h
            exact gc_X8_rarerThan_55 C hr hlk h17 ih _ _ _ _ _ _ _ _ hM (lv_sub hl [0, 1, 2, 3, 4] rfl) h
          · have h := br_F c_8 h
            exact gc_X8_rarerThan_51 C hr hlk h17 ih _ _ _ _ _ _ _ _ hM (lv_sub hl [0, 1, 2, 3, 4] rfl) h
def fc_X8_rarerThan (σ : cS) (x1 : Int64) (x3 : Int32) : Option (Int32 × cS) :=
  fc_X8_rarerThan_6 3000 σ x1 x3 (0 : Int32) (0 : Int32)
set_option maxHeartbeats 4000000 in
set_option maxRecDepth 100000 in
theorem cc_X8_rarerThan (l : Launch) (D : va_G) (ca : Nat → ClassId) (A : Nat → Prop) (α : cAl) (σ : cS) (x1 : Int64) (x3 : Int32) (o : Int32 × cS) (h : fc_X8_rarerThan σ x1 x3 = some o) : cMet false l yX8_rarerThan cX8_rarerThan 7 ((some FieldType.int)) rc_X8_rarerThan 0 0 D ca true A α σ [cr α 4 (some 0), .long x1, .int x3] (fun _ => some (.int o.1)) o.2 := by
  refine Met.ofW (cc := cX8_rarerThan) (maxL := 7) (ret := (some FieldType.int)) (by decide) rfl ?_
  intro p e s m args below meth c s₁ B hml hv
  obtain ⟨rfl, hP, hK, hD0, hSh, hA, hG⟩ := hv
  have C : cC p s m _ c cX8_rarerThan 7 RX8 D ca A α := ⟨B.exec, B.bytes, hml, findClass_of_methodNamed B.named, fun w hw => atoms_spec (ws := mWs yX8_rarerThan cX8_rarerThan 7 ((some FieldType.int))) B.pre w (List.mem_cons_of_mem _ hw), hK, hG⟩
  have hM : cM D ca true A s.heap σ α σ α s.heap [] := ⟨hP, hD0, hSh, va_S.rf, hA, cX.rf⟩
  have h17 : 0 < cn σ 17 := c_17 hM
  have hr := B.returns
  have hlk := B.notSynchronized
  have hx := C.1
  have hb := C.2.1
  have hl := lv_entry ([cr α 4 (some 0), .long x1, .int x3]) (n := 7) (Nat.le_of_ble_eq_true rfl)
  rw [lg_entry_eq]
  generalize (lg_sl ([cr α 4 (some 0), .long x1, .int x3]) ++ List.replicate (7 - (lg_sl ([cr α 4 (some 0), .long x1, .int x3])).length) Slot.unset).toArray = ls at hl ⊢
  have hl : lv_has ls 7 [(0, cr α 4 (some 0)), (1, .long x1), (3, .int x3)] := hl
  unfold fc_X8_rarerThan at h
  refine lv_iconst (v := (0 : Int32)) hx hb dX8_rarerThan_0 (by decide) ?_
  refine lv_istore (lv' := [(4, .int (0 : Int32)), (0, cr α 4 (some 0)), (1, .long x1), (3, .int x3)]) hx hb dX8_rarerThan_1 hl (by decide) rfl (fun ls hl => ?_)
  refine lv_iconst (v := (0 : Int32)) hx hb dX8_rarerThan_3 (by decide) ?_
  refine lv_istore (lv' := [(5, .int (0 : Int32)), (4, .int (0 : Int32)), (0, cr α 4 (some 0)), (1, .long x1), (3, .int x3)]) hx hb dX8_rarerThan_4 hl (by decide) rfl (fun ls hl => ?_)
  exact gc_X8_rarerThan_6 C hr hlk h17  _ _ _ _ _ _ _ _ _ hM (lv_sub hl [2, 3, 4, 1, 0] rfl) h
/-! Lorewick$Tree.byRarity(JI)I -/
abbrev rc_X8_byRarity : Room := { frames := 2, cells := 0, slots := 0, locals := 48 }
def fc_X8_byRarity_33 (k_3 : cS → Int64 → Int32 → Int32 → Option (Int32 × cS)) (σ : cS) (x1 : Int64) (x3 : Int32) (x4 : Int32) : Option (Int32 × cS) :=
    k_3 σ x1 x3 (x4 + (1 : Int32))
set_option maxHeartbeats 4000000 in
set_option maxRecDepth 100000 in
theorem gc_X8_byRarity_33 {p : Program} {l : Launch} {e : Env} {s : State} {m : MethodId} {args : Array Value} {below : List Frame} {meth : Method} {c : Code} {D : va_G} {ca : Nat → ClassId} {A : Nat → Prop} {σ0 : cS} {α : cAl} {o : Int32 × cS} {k_3 : cS → Int64 → Int32 → Int32 → Option (Int32 × cS)} (C : cC p s m args c cX8_byRarity 5 RX8 D ca A α) (hr : meth.sig.returnType = (some FieldType.int)) (hlk : meth.locks = false) (h17 : 0 < cn σ0 17) (hk_3 : ∀ (σ : cS) (x1 : Int64) (x3 : Int32) (x4 : Int32) (H : Heap) (locs : List Loc) (ls : Array Slot), cM D ca true A s.heap σ0 α σ α H locs → lv_has ls 5 [(0, cr α 4 (some 0)), (1, .long x1), (3, .int x3), (4, .int x4)] → k_3 σ x1 x3 x4 = some o → W p l e rc_X8_byRarity s m args below meth c H locs 0 0 (MQ below (cQ false D ca true A α σ0 (fun _ => some (.int o.1)) o.2) args s 0 0 A) (F0 m 3 ls [])) : ∀ (σ : cS) (x1 : Int64) (x3 : Int32) (x4 : Int32) (H : Heap) (locs : List Loc) (ls : Array Slot), cM D ca true A s.heap σ0 α σ α H locs → lv_has ls 5 [(0, cr α 4 (some 0)), (1, .long x1), (3, .int x3), (4, .int x4)] → fc_X8_byRarity_33 k_3 σ x1 x3 x4 = some o → W p l e rc_X8_byRarity s m args below meth c H locs 0 0 (MQ below (cQ false D ca true A α σ0 (fun _ => some (.int o.1)) o.2) args s 0 0 A) (F0 m 33 ls []) := by
  have hx := C.1
  have hb := C.2.1
  intro σ x1 x3 x4 H locs ls hM hl h
  unfold fc_X8_byRarity_33 at h
  refine lv_iinc (v := (x4 + (1 : Int32))) (lv' := [(4, .int (x4 + (1 : Int32))), (0, cr α 4 (some 0)), (1, .long x1), (3, .int x3)]) hx hb dX8_byRarity_33 hl (k := 3) rfl rfl (by decide) rfl (fun ls hl => ?_)
  refine lv_goto (tgt := 3) hx hb dX8_byRarity_36 (by decide) ?_
  exact hk_3 _ _ _ _ _ _ _ hM (lv_sub hl [1, 2, 3, 0] rfl) h
def fc_X8_byRarity_3 : Nat → cS → Int64 → Int32 → Int32 → Option (Int32 × cS)
  | 0, _, _, _, _ => none
  | n + 1, σ, x1, x3, x4 =>
    if (40 : Int32) ≤ x4 then
      some ((-1 : Int32), σ)
    else
      (fc_X11_includes σ x1 x4).bind fun r_1 =>
      if r_1.1 = 0 then
        fc_X8_byRarity_33 (fc_X8_byRarity_3 n) r_1.2 x1 x3 x4
      else
        (fc_X8_rarerThan r_1.2 x1 x4).bind fun r_2 =>
        if r_2.1 = x3 then
          some (x4, r_2.2)
        else
          fc_X8_byRarity_33 (fc_X8_byRarity_3 n) r_2.2 x1 x3 x4
set_option maxHeartbeats 4000000 in
set_option maxRecDepth 100000 in
theorem gc_X8_byRarity_3 {p : Program} {l : Launch} {e : Env} {s : State} {m : MethodId} {args : Array Value} {below : List Frame} {meth : Method} {c : Code} {D : va_G} {ca : Nat → ClassId} {A : Nat → Prop} {σ0 : cS} {α : cAl} {o : Int32 × cS} (C : cC p s m args c cX8_byRarity 5 RX8 D ca A α) (hr : meth.sig.returnType = (some FieldType.int)) (hlk : meth.locks = false) (h17 : 0 < cn σ0 17) : ∀ (n : Nat) (σ : cS) (x1 : Int64) (x3 : Int32) (x4 : Int32) (H : Heap) (locs : List Loc) (ls : Array Slot), cM D ca true A s.heap σ0 α σ α H locs → lv_has ls 5 [(0, cr α 4 (some 0)), (1, .long x1), (3, .int x3), (4, .int x4)] → fc_X8_byRarity_3 n σ x1 x3 x4 = some o → W p l e rc_X8_byRarity s m args below meth c H locs 0 0 (MQ below (cQ false D ca true A α σ0 (fun _ => some (.int o.1)) o.2) args s 0 0 A) (F0 m 3 ls []) := by
  have hx := C.1
  have hb := C.2.1
  intro n
  induction n with
  | zero =>
    intro σ x1 x3 x4 H locs ls hM hl h
    cases h
  | succ n ih =>
    intro σ x1 x3 x4 H locs ls hM hl h
    rw [fc_X8_byRarity_3] at h
    refine lv_iload hx hb dX8_byRarity_3 (lv_at hl 3 rfl) ?_
    refine lv_bipush (v := (40 : Int32)) hx hb dX8_byRarity_5 (by decide) ?_
    refine lv_icmp_ge (tgt := 39) hx hb dX8_byRarity_7 (by decide) (fun c_1 => ?_) (fun c_1 => ?_)
    · have h := br_T c_1 h
      refine lv_iconst (v := (-1 : Int32)) hx hb dX8_byRarity_39 (by decide) ?_
      exact c_ri C hM (fun _ => rfl) hr hlk dX8_byRarity_40 h
    · have h := br_F c_1 h
      refine lv_lload_n hx hb dX8_byRarity_10 rfl (lv_at hl 1 rfl) ?_
      refine lv_iload hx hb dX8_byRarity_11 (lv_at hl 3 rfl) ?_
      obtain ⟨r_1, hr_1, h⟩ := bd_of h
      refine c_go0 (c_rSN (As := [.long x1, .int x4]) (rest := []) C hM h17 (cc_X11_includes l D ca A α σ x1 x4 _ hr_1) cw_X8_51 (wl_in (i := 399) (by decide +kernel)) ⟨rfl, rfl⟩ ⟨Nat.le_of_ble_eq_true rfl, Nat.le_of_ble_eq_true rfl⟩ rfl rfl (cats_le _ (Nat.le_of_ble_eq_true rfl)) hl.1 dX8_byRarity_13 ⟨Nat.le_of_ble_eq_true rfl, Nat.le_of_ble_eq_true rfl⟩) hM (fun H locs hM => ?_)
      refine W_st (st' := [.int r_1.1]) rfl ?_
      refine lv_if_eq (tgt := 33) hx hb dX8_byRarity_16 (by decide) (fun c_2 => ?_) (fun c_2 => ?_)
      · have h := br_T c_2 h
        exact gc_X8_byRarity_33 C hr hlk h17 ih _ _ _ _ _ _ _ hM (lv_sub hl [0, 1, 2, 3] rfl) h
      · have h := br_F c_2 h
        refine c_aload_n (t := 4) (x := (some 0)) hx hb dX8_byRarity_19 rfl (lv_at hl 0 rfl) ?_
        refine lv_lload_n hx hb dX8_byRarity_20 rfl (lv_at hl 1 rfl) ?_
        refine lv_iload hx hb dX8_byRarity_21 (lv_at hl 3 rfl) ?_
        obtain ⟨r_2, hr_2, h⟩ := bd_of h
        refine c_go0 (c_rV (As := [.long x1, .int x4]) (rest := []) C hM h17 (hM.cst 4 0 rfl) (by decide) (cc_X8_rarerThan l D ca A α r_1.2 x1 x4 _ hr_2) cw_X8_76 ⟨rfl, rfl⟩ ⟨Nat.le_of_ble_eq_true rfl, Nat.le_of_ble_eq_true rfl⟩ rfl rfl (cats_le _ (Nat.le_of_ble_eq_true rfl)) hl.1 dX8_byRarity_23 ⟨Nat.le_of_ble_eq_true rfl, Nat.le_of_ble_eq_true rfl⟩) hM (fun H locs hM => ?_)
        refine W_st (st' := [.int r_2.1]) rfl ?_
        refine lv_iload_n hx hb dX8_byRarity_26 rfl (lv_at hl 2 rfl) ?_
        refine lv_icmp_ne (tgt := 33) hx hb dX8_byRarity_27 (by decide) (fun c_3 => ?_) (fun c_3 => ?_)
        · have h := br_F c_3 h
          exact gc_X8_byRarity_33 C hr hlk h17 ih _ _ _ _ _ _ _ hM (lv_sub hl [0, 1, 2, 3] rfl) h
        · have h := br_T c_3 h
          refine lv_iload hx hb dX8_byRarity_30 (lv_at hl 3 rfl) ?_
          exact c_ri C hM (fun _ => rfl) hr hlk dX8_byRarity_32 h
def fc_X8_byRarity (σ : cS) (x1 : Int64) (x3 : Int32) : Option (Int32 × cS) :=
  fc_X8_byRarity_3 3000 σ x1 x3 (0 : Int32)
set_option maxHeartbeats 4000000 in
set_option maxRecDepth 100000 in
theorem cc_X8_byRarity (l : Launch) (D : va_G) (ca : Nat → ClassId) (A : Nat → Prop) (α : cAl) (σ : cS) (x1 : Int64) (x3 : Int32) (o : Int32 × cS) (h : fc_X8_byRarity σ x1 x3 = some o) : cMet false l yX8_byRarity cX8_byRarity 5 ((some FieldType.int)) rc_X8_byRarity 0 0 D ca true A α σ [cr α 4 (some 0), .long x1, .int x3] (fun _ => some (.int o.1)) o.2 := by
  refine Met.ofW (cc := cX8_byRarity) (maxL := 5) (ret := (some FieldType.int)) (by decide) rfl ?_
  intro p e s m args below meth c s₁ B hml hv
  obtain ⟨rfl, hP, hK, hD0, hSh, hA, hG⟩ := hv
  have C : cC p s m _ c cX8_byRarity 5 RX8 D ca A α := ⟨B.exec, B.bytes, hml, findClass_of_methodNamed B.named, fun w hw => atoms_spec (ws := mWs yX8_byRarity cX8_byRarity 5 ((some FieldType.int))) B.pre w (List.mem_cons_of_mem _ hw), hK, hG⟩
  have hM : cM D ca true A s.heap σ α σ α s.heap [] := ⟨hP, hD0, hSh, va_S.rf, hA, cX.rf⟩
  have h17 : 0 < cn σ 17 := c_17 hM
  have hr := B.returns
  have hlk := B.notSynchronized
  have hx := C.1
  have hb := C.2.1
  have hl := lv_entry ([cr α 4 (some 0), .long x1, .int x3]) (n := 5) (Nat.le_of_ble_eq_true rfl)
  rw [lg_entry_eq]
  generalize (lg_sl ([cr α 4 (some 0), .long x1, .int x3]) ++ List.replicate (5 - (lg_sl ([cr α 4 (some 0), .long x1, .int x3])).length) Slot.unset).toArray = ls at hl ⊢
  have hl : lv_has ls 5 [(0, cr α 4 (some 0)), (1, .long x1), (3, .int x3)] := hl
  unfold fc_X8_byRarity at h
  refine lv_iconst (v := (0 : Int32)) hx hb dX8_byRarity_0 (by decide) ?_
  refine lv_istore (lv' := [(4, .int (0 : Int32)), (0, cr α 4 (some 0)), (1, .long x1), (3, .int x3)]) hx hb dX8_byRarity_1 hl (by decide) rfl (fun ls hl => ?_)
  exact gc_X8_byRarity_3 C hr hlk h17  _ _ _ _ _ _ _ _ hM (lv_sub hl [1, 2, 3, 0] rfl) h
/-! Lorewick$World.hasWord(I)Z -/
abbrev rc_X10_hasWord : Room := { frames := 0, cells := 0, slots := 0, locals := 0 }
def fc_X10_hasWord_17 (σ : cS) (s0 : Int32) : Option (Int32 × cS) :=
    if s0 &&& 1 = s0 then some (s0, σ) else none
set_option maxHeartbeats 4000000 in
set_option maxRecDepth 100000 in
theorem gc_X10_hasWord_17 {p : Program} {l : Launch} {e : Env} {s : State} {m : MethodId} {args : Array Value} {below : List Frame} {meth : Method} {c : Code} {D : va_G} {ca : Nat → ClassId} {A : Nat → Prop} {σ0 : cS} {α : cAl} {o : Int32 × cS} (C : cC p s m args c cX10_hasWord 2 RX10 D ca A α) (hr : meth.sig.returnType = (some FieldType.boolean)) (hlk : meth.locks = false) (h17 : 0 < cn σ0 17) : ∀ (σ : cS) (s0 : Int32) (H : Heap) (locs : List Loc) (ls : Array Slot), cM D ca true A s.heap σ0 α σ α H locs → lv_has ls 2 [] → fc_X10_hasWord_17 σ s0 = some o → W p l e rc_X10_hasWord s m args below meth c H locs 0 0 (MQ below (cQ false D ca true A α σ0 (fun _ => some (.int o.1)) o.2) args s 0 0 A) (F0 m 17 ls [.int s0]) := by
  have hx := C.1
  have hb := C.2.1
  intro σ s0 H locs ls hM hl h
  unfold fc_X10_hasWord_17 at h
  exact c_rz C hM (fun _ => rfl) hr hlk dX10_hasWord_17 h
def fc_X10_hasWord_16 (σ : cS) : Option (Int32 × cS) :=
    fc_X10_hasWord_17 σ (0 : Int32)
set_option maxHeartbeats 4000000 in
set_option maxRecDepth 100000 in
theorem gc_X10_hasWord_16 {p : Program} {l : Launch} {e : Env} {s : State} {m : MethodId} {args : Array Value} {below : List Frame} {meth : Method} {c : Code} {D : va_G} {ca : Nat → ClassId} {A : Nat → Prop} {σ0 : cS} {α : cAl} {o : Int32 × cS} (C : cC p s m args c cX10_hasWord 2 RX10 D ca A α) (hr : meth.sig.returnType = (some FieldType.boolean)) (hlk : meth.locks = false) (h17 : 0 < cn σ0 17) : ∀ (σ : cS) (H : Heap) (locs : List Loc) (ls : Array Slot), cM D ca true A s.heap σ0 α σ α H locs → lv_has ls 2 [] → fc_X10_hasWord_16 σ = some o → W p l e rc_X10_hasWord s m args below meth c H locs 0 0 (MQ below (cQ false D ca true A α σ0 (fun _ => some (.int o.1)) o.2) args s 0 0 A) (F0 m 16 ls []) := by
  have hx := C.1
  have hb := C.2.1
  intro σ H locs ls hM hl h
  unfold fc_X10_hasWord_16 at h
  refine lv_iconst (v := (0 : Int32)) hx hb dX10_hasWord_16 (by decide) ?_
  exact gc_X10_hasWord_17 C hr hlk h17  _ _ _ _ _ hM (lv_sub hl [] rfl) h
def fc_X10_hasWord (σ : cS) (x1 : Int32) : Option (Int32 × cS) :=
  if x1 < 0 then
    fc_X10_hasWord_16 σ
  else
    if (cI σ 2 0 1) ≤ x1 then
      fc_X10_hasWord_16 σ
    else
      fc_X10_hasWord_17 σ (1 : Int32)
set_option maxHeartbeats 4000000 in
set_option maxRecDepth 100000 in
theorem cc_X10_hasWord (l : Launch) (D : va_G) (ca : Nat → ClassId) (A : Nat → Prop) (α : cAl) (σ : cS) (x1 : Int32) (o : Int32 × cS) (h : fc_X10_hasWord σ x1 = some o) : cMet false l yX10_hasWord cX10_hasWord 2 ((some FieldType.boolean)) rc_X10_hasWord 0 0 D ca true A α σ [cr α 2 (some 0), .int x1] (fun _ => some (.int o.1)) o.2 := by
  refine Met.ofW (cc := cX10_hasWord) (maxL := 2) (ret := (some FieldType.boolean)) (by decide) rfl ?_
  intro p e s m args below meth c s₁ B hml hv
  obtain ⟨rfl, hP, hK, hD0, hSh, hA, hG⟩ := hv
  have C : cC p s m _ c cX10_hasWord 2 RX10 D ca A α := ⟨B.exec, B.bytes, hml, findClass_of_methodNamed B.named, fun w hw => atoms_spec (ws := mWs yX10_hasWord cX10_hasWord 2 ((some FieldType.boolean))) B.pre w (List.mem_cons_of_mem _ hw), hK, hG⟩
  have hM : cM D ca true A s.heap σ α σ α s.heap [] := ⟨hP, hD0, hSh, va_S.rf, hA, cX.rf⟩
  have h17 : 0 < cn σ 17 := c_17 hM
  have hr := B.returns
  have hlk := B.notSynchronized
  have hx := C.1
  have hb := C.2.1
  have hl := lv_entry ([cr α 2 (some 0), .int x1]) (n := 2) (Nat.le_of_ble_eq_true rfl)
  rw [lg_entry_eq]
  generalize (lg_sl ([cr α 2 (some 0), .int x1]) ++ List.replicate (2 - (lg_sl ([cr α 2 (some 0), .int x1])).length) Slot.unset).toArray = ls at hl ⊢
  have hl : lv_has ls 2 [(0, cr α 2 (some 0)), (1, .int x1)] := hl
  unfold fc_X10_hasWord at h
  refine lv_iload_n hx hb dX10_hasWord_0 rfl (lv_at hl 1 rfl) ?_
  refine lv_if_lt (tgt := 16) hx hb dX10_hasWord_1 (by decide) (fun c_1 => ?_) (fun c_1 => ?_)
  · have h := br_T c_1 h
    exact gc_X10_hasWord_16 C hr hlk h17  _ _ _ _ hM (lv_sub hl [] rfl) h
  · have h := br_F c_1 h
    refine lv_iload_n hx hb dX10_hasWord_4 rfl (lv_at hl 1 rfl) ?_
    refine c_aload_n (t := 2) (x := (some 0)) hx hb dX10_hasWord_5 rfl (lv_at hl 0 rfl) ?_
    refine c_geti C hM (k := 2) (f := 1) (hM.cst 2 0 rfl) rfl fl_X10_60 dX10_hasWord_6 ?_
    refine lv_icmp_ge (tgt := 16) hx hb dX10_hasWord_9 (by decide) (fun c_2 => ?_) (fun c_2 => ?_)
    · have h := br_T c_2 h
      exact gc_X10_hasWord_16 C hr hlk h17  _ _ _ _ hM (lv_sub hl [] rfl) h
    · have h := br_F c_2 h
      refine lv_iconst (v := (1 : Int32)) hx hb dX10_hasWord_12 (by decide) ?_
      refine lv_goto (tgt := 17) hx hb dX10_hasWord_13 (by decide) ?_
      exact gc_X10_hasWord_17 C hr hlk h17  _ _ _ _ _ hM (lv_sub hl [] rfl) h
/-! Lorewick$World.hasRoom(I)Z -/
abbrev rc_X10_hasRoom : Room := { frames := 0, cells := 0, slots := 0, locals := 0 }
def fc_X10_hasRoom_17 (σ : cS) (s0 : Int32) : Option (Int32 × cS) :=
    if s0 &&& 1 = s0 then some (s0, σ) else none
set_option maxHeartbeats 4000000 in
set_option maxRecDepth 100000 in
theorem gc_X10_hasRoom_17 {p : Program} {l : Launch} {e : Env} {s : State} {m : MethodId} {args : Array Value} {below : List Frame} {meth : Method} {c : Code} {D : va_G} {ca : Nat → ClassId} {A : Nat → Prop} {σ0 : cS} {α : cAl} {o : Int32 × cS} (C : cC p s m args c cX10_hasRoom 2 RX10 D ca A α) (hr : meth.sig.returnType = (some FieldType.boolean)) (hlk : meth.locks = false) (h17 : 0 < cn σ0 17) : ∀ (σ : cS) (s0 : Int32) (H : Heap) (locs : List Loc) (ls : Array Slot), cM D ca true A s.heap σ0 α σ α H locs → lv_has ls 2 [] → fc_X10_hasRoom_17 σ s0 = some o → W p l e rc_X10_hasRoom s m args below meth c H locs 0 0 (MQ below (cQ false D ca true A α σ0 (fun _ => some (.int o.1)) o.2) args s 0 0 A) (F0 m 17 ls [.int s0]) := by
  have hx := C.1
  have hb := C.2.1
  intro σ s0 H locs ls hM hl h
  unfold fc_X10_hasRoom_17 at h
  exact c_rz C hM (fun _ => rfl) hr hlk dX10_hasRoom_17 h
def fc_X10_hasRoom_16 (σ : cS) : Option (Int32 × cS) :=
    fc_X10_hasRoom_17 σ (0 : Int32)
set_option maxHeartbeats 4000000 in
set_option maxRecDepth 100000 in
theorem gc_X10_hasRoom_16 {p : Program} {l : Launch} {e : Env} {s : State} {m : MethodId} {args : Array Value} {below : List Frame} {meth : Method} {c : Code} {D : va_G} {ca : Nat → ClassId} {A : Nat → Prop} {σ0 : cS} {α : cAl} {o : Int32 × cS} (C : cC p s m args c cX10_hasRoom 2 RX10 D ca A α) (hr : meth.sig.returnType = (some FieldType.boolean)) (hlk : meth.locks = false) (h17 : 0 < cn σ0 17) : ∀ (σ : cS) (H : Heap) (locs : List Loc) (ls : Array Slot), cM D ca true A s.heap σ0 α σ α H locs → lv_has ls 2 [] → fc_X10_hasRoom_16 σ = some o → W p l e rc_X10_hasRoom s m args below meth c H locs 0 0 (MQ below (cQ false D ca true A α σ0 (fun _ => some (.int o.1)) o.2) args s 0 0 A) (F0 m 16 ls []) := by
  have hx := C.1
  have hb := C.2.1
  intro σ H locs ls hM hl h
  unfold fc_X10_hasRoom_16 at h
  refine lv_iconst (v := (0 : Int32)) hx hb dX10_hasRoom_16 (by decide) ?_
  exact gc_X10_hasRoom_17 C hr hlk h17  _ _ _ _ _ hM (lv_sub hl [] rfl) h
def fc_X10_hasRoom (σ : cS) (x1 : Int32) : Option (Int32 × cS) :=
  if x1 < 0 then
    fc_X10_hasRoom_16 σ
  else
    if (cI σ 2 0 6) ≤ x1 then
      fc_X10_hasRoom_16 σ
    else
      fc_X10_hasRoom_17 σ (1 : Int32)
set_option maxHeartbeats 4000000 in
set_option maxRecDepth 100000 in
theorem cc_X10_hasRoom (l : Launch) (D : va_G) (ca : Nat → ClassId) (A : Nat → Prop) (α : cAl) (σ : cS) (x1 : Int32) (o : Int32 × cS) (h : fc_X10_hasRoom σ x1 = some o) : cMet false l yX10_hasRoom cX10_hasRoom 2 ((some FieldType.boolean)) rc_X10_hasRoom 0 0 D ca true A α σ [cr α 2 (some 0), .int x1] (fun _ => some (.int o.1)) o.2 := by
  refine Met.ofW (cc := cX10_hasRoom) (maxL := 2) (ret := (some FieldType.boolean)) (by decide) rfl ?_
  intro p e s m args below meth c s₁ B hml hv
  obtain ⟨rfl, hP, hK, hD0, hSh, hA, hG⟩ := hv
  have C : cC p s m _ c cX10_hasRoom 2 RX10 D ca A α := ⟨B.exec, B.bytes, hml, findClass_of_methodNamed B.named, fun w hw => atoms_spec (ws := mWs yX10_hasRoom cX10_hasRoom 2 ((some FieldType.boolean))) B.pre w (List.mem_cons_of_mem _ hw), hK, hG⟩
  have hM : cM D ca true A s.heap σ α σ α s.heap [] := ⟨hP, hD0, hSh, va_S.rf, hA, cX.rf⟩
  have h17 : 0 < cn σ 17 := c_17 hM
  have hr := B.returns
  have hlk := B.notSynchronized
  have hx := C.1
  have hb := C.2.1
  have hl := lv_entry ([cr α 2 (some 0), .int x1]) (n := 2) (Nat.le_of_ble_eq_true rfl)
  rw [lg_entry_eq]
  generalize (lg_sl ([cr α 2 (some 0), .int x1]) ++ List.replicate (2 - (lg_sl ([cr α 2 (some 0), .int x1])).length) Slot.unset).toArray = ls at hl ⊢
  have hl : lv_has ls 2 [(0, cr α 2 (some 0)), (1, .int x1)] := hl
  unfold fc_X10_hasRoom at h
  refine lv_iload_n hx hb dX10_hasRoom_0 rfl (lv_at hl 1 rfl) ?_
  refine lv_if_lt (tgt := 16) hx hb dX10_hasRoom_1 (by decide) (fun c_1 => ?_) (fun c_1 => ?_)
  · have h := br_T c_1 h
    exact gc_X10_hasRoom_16 C hr hlk h17  _ _ _ _ hM (lv_sub hl [] rfl) h
  · have h := br_F c_1 h
    refine lv_iload_n hx hb dX10_hasRoom_4 rfl (lv_at hl 1 rfl) ?_
    refine c_aload_n (t := 2) (x := (some 0)) hx hb dX10_hasRoom_5 rfl (lv_at hl 0 rfl) ?_
    refine c_geti C hM (k := 2) (f := 6) (hM.cst 2 0 rfl) rfl fl_X10_64 dX10_hasRoom_6 ?_
    refine lv_icmp_ge (tgt := 16) hx hb dX10_hasRoom_9 (by decide) (fun c_2 => ?_) (fun c_2 => ?_)
    · have h := br_T c_2 h
      exact gc_X10_hasRoom_16 C hr hlk h17  _ _ _ _ hM (lv_sub hl [] rfl) h
    · have h := br_F c_2 h
      refine lv_iconst (v := (1 : Int32)) hx hb dX10_hasRoom_12 (by decide) ?_
      refine lv_goto (tgt := 17) hx hb dX10_hasRoom_13 (by decide) ?_
      exact gc_X10_hasRoom_17 C hr hlk h17  _ _ _ _ _ hM (lv_sub hl [] rfl) h
/-! Lorewick$World.wordOf(J)I -/
abbrev rc_X10_wordOf : Room := { frames := 0, cells := 0, slots := 0, locals := 0 }
def fc_X10_wordOf_2 : Nat → cS → Int64 → Int32 → Option (Int32 × cS)
  | 0, _, _, _ => none
  | n + 1, σ, x1, x3 =>
    if (cI σ 2 0 1) ≤ x3 then
      some ((-1 : Int32), σ)
    else
      if x3 < 0 ∨ 40 ≤ x3.toNatClampNeg then none else
      if (lg_cmp (cJ σ 15 0 x3.toNatClampNeg) x1) = 0 then
        some (x3, σ)
      else
        (fc_X10_wordOf_2 n) σ x1 (x3 + (1 : Int32))
set_option maxHeartbeats 4000000 in
set_option maxRecDepth 100000 in
theorem gc_X10_wordOf_2 {p : Program} {l : Launch} {e : Env} {s : State} {m : MethodId} {args : Array Value} {below : List Frame} {meth : Method} {c : Code} {D : va_G} {ca : Nat → ClassId} {A : Nat → Prop} {σ0 : cS} {α : cAl} {o : Int32 × cS} (C : cC p s m args c cX10_wordOf 4 RX10 D ca A α) (hr : meth.sig.returnType = (some FieldType.int)) (hlk : meth.locks = false) (h17 : 0 < cn σ0 17) : ∀ (n : Nat) (σ : cS) (x1 : Int64) (x3 : Int32) (H : Heap) (locs : List Loc) (ls : Array Slot), cM D ca true A s.heap σ0 α σ α H locs → lv_has ls 4 [(0, cr α 2 (some 0)), (1, .long x1), (3, .int x3)] → fc_X10_wordOf_2 n σ x1 x3 = some o → W p l e rc_X10_wordOf s m args below meth c H locs 0 0 (MQ below (cQ false D ca true A α σ0 (fun _ => some (.int o.1)) o.2) args s 0 0 A) (F0 m 2 ls []) := by
  have hx := C.1
  have hb := C.2.1
  intro n
  induction n with
  | zero =>
    intro σ x1 x3 H locs ls hM hl h
    cases h
  | succ n ih =>
    intro σ x1 x3 H locs ls hM hl h
    rw [fc_X10_wordOf_2] at h
    refine lv_iload_n hx hb dX10_wordOf_2 rfl (lv_at hl 2 rfl) ?_
    refine c_aload_n (t := 2) (x := (some 0)) hx hb dX10_wordOf_3 rfl (lv_at hl 0 rfl) ?_
    refine c_geti C hM (k := 2) (f := 1) (hM.cst 2 0 rfl) rfl fl_X10_60 dX10_wordOf_4 ?_
    refine lv_icmp_ge (tgt := 29) hx hb dX10_wordOf_7 (by decide) (fun c_1 => ?_) (fun c_1 => ?_)
    · have h := br_T c_1 h
      refine lv_iconst (v := (-1 : Int32)) hx hb dX10_wordOf_29 (by decide) ?_
      exact c_ri C hM (fun _ => rfl) hr hlk dX10_wordOf_30 h
    · have h := br_F c_1 h
      refine c_aload_n (t := 2) (x := (some 0)) hx hb dX10_wordOf_10 rfl (lv_at hl 0 rfl) ?_
      refine c_getb C hM (k := 2) (f := 0) (j := 0) (t := 15) (hM.cst 2 0 rfl) (by decide) fl_X10_9 dX10_wordOf_11 ?_
      refine lv_iload_n hx hb dX10_wordOf_14 rfl (lv_at hl 2 rfl) ?_
      obtain ⟨c_2, h⟩ := ko_of h
      refine c_lald C hM (hM.cst 15 0 rfl) (by rw [hM.ln 15 0 40 (by decide)]; exact c_2) dX10_wordOf_15 ?_
      refine lv_lload_n hx hb dX10_wordOf_16 rfl (lv_at hl 1 rfl) ?_
      refine W.lcmp hx hb dX10_wordOf_17 ?_
      refine lv_if_ne (tgt := 23) hx hb dX10_wordOf_18 (by decide) (fun c_3 => ?_) (fun c_3 => ?_)
      · have h := br_F c_3 h
        refine lv_iinc (v := (x3 + (1 : Int32))) (lv' := [(3, .int (x3 + (1 : Int32))), (0, cr α 2 (some 0)), (1, .long x1)]) hx hb dX10_wordOf_23 hl (k := 2) rfl rfl (by decide) rfl (fun ls hl => ?_)
        refine lv_goto (tgt := 2) hx hb dX10_wordOf_26 (by decide) ?_
        exact ih _ _ _ _ _ _ hM (lv_sub hl [1, 2, 0] rfl) h
      · have h := br_T c_3 h
        refine lv_iload_n hx hb dX10_wordOf_21 rfl (lv_at hl 2 rfl) ?_
        exact c_ri C hM (fun _ => rfl) hr hlk dX10_wordOf_22 h
def fc_X10_wordOf (σ : cS) (x1 : Int64) : Option (Int32 × cS) :=
  fc_X10_wordOf_2 3000 σ x1 (0 : Int32)
set_option maxHeartbeats 4000000 in
set_option maxRecDepth 100000 in
theorem cc_X10_wordOf (l : Launch) (D : va_G) (ca : Nat → ClassId) (A : Nat → Prop) (α : cAl) (σ : cS) (x1 : Int64) (o : Int32 × cS) (h : fc_X10_wordOf σ x1 = some o) : cMet false l yX10_wordOf cX10_wordOf 4 ((some FieldType.int)) rc_X10_wordOf 0 0 D ca true A α σ [cr α 2 (some 0), .long x1] (fun _ => some (.int o.1)) o.2 := by
  refine Met.ofW (cc := cX10_wordOf) (maxL := 4) (ret := (some FieldType.int)) (by decide) rfl ?_
  intro p e s m args below meth c s₁ B hml hv
  obtain ⟨rfl, hP, hK, hD0, hSh, hA, hG⟩ := hv
  have C : cC p s m _ c cX10_wordOf 4 RX10 D ca A α := ⟨B.exec, B.bytes, hml, findClass_of_methodNamed B.named, fun w hw => atoms_spec (ws := mWs yX10_wordOf cX10_wordOf 4 ((some FieldType.int))) B.pre w (List.mem_cons_of_mem _ hw), hK, hG⟩
  have hM : cM D ca true A s.heap σ α σ α s.heap [] := ⟨hP, hD0, hSh, va_S.rf, hA, cX.rf⟩
  have h17 : 0 < cn σ 17 := c_17 hM
  have hr := B.returns
  have hlk := B.notSynchronized
  have hx := C.1
  have hb := C.2.1
  have hl := lv_entry ([cr α 2 (some 0), .long x1]) (n := 4) (Nat.le_of_ble_eq_true rfl)
  rw [lg_entry_eq]
  generalize (lg_sl ([cr α 2 (some 0), .long x1]) ++ List.replicate (4 - (lg_sl ([cr α 2 (some 0), .long x1])).length) Slot.unset).toArray = ls at hl ⊢
  have hl : lv_has ls 4 [(0, cr α 2 (some 0)), (1, .long x1)] := hl
  unfold fc_X10_wordOf at h
  refine lv_iconst (v := (0 : Int32)) hx hb dX10_wordOf_0 (by decide) ?_
  refine lv_istore_n (lv' := [(3, .int (0 : Int32)), (0, cr α 2 (some 0)), (1, .long x1)]) hx hb dX10_wordOf_1 rfl hl (by decide) rfl (fun ls hl => ?_)
  exact gc_X10_wordOf_2 C hr hlk h17  _ _ _ _ _ _ _ hM (lv_sub hl [1, 2, 0] rfl) h
/-! Lorewick.type(C)I -/
abbrev rc_X11_type : Room := { frames := 6, cells := 1, slots := 6, locals := 90 }
def fc_X11_type_18 (σ : cS) : Option ((Nat ⊕ Int32) × cS) :=
    some (.inl 1, σ)
set_option maxHeartbeats 4000000 in
set_option maxRecDepth 100000 in
theorem gc_X11_type_18 {p : Program} {l : Launch} {e : Env} {s : State} {m : MethodId} {args : Array Value} {below : List Frame} {meth : Method} {c : Code} {D : va_G} {ca : Nat → ClassId} {A : Nat → Prop} {σ0 : cS} {α : cAl} {o : (Nat ⊕ Int32) × cS} (C : cC p s m args c cX11_type 2 RX11 D ca A α) (hr : meth.sig.returnType = (some FieldType.int)) (hlk : meth.locks = false) (h17 : 0 < cn σ0 17) (hst : l.stackTraces = false) (hout : ∀ x ∈ c.exceptionTable.toList, False) : ∀ (σ : cS) (H : Heap) (locs : List Loc) (ls : Array Slot), cM D ca true A s.heap σ0 α σ α H locs → lv_has ls 2 [] → fc_X11_type_18 σ = some o → W p l e rc_X11_type s m args below meth c H locs 0 0 (vx_MQ below (cQx false D ca true A α σ0 (o.1.map id (fun (v : Int32) _ => some (.int v))) o.2) (cXC false D ca true A α σ0 (o.1.map id (fun (v : Int32) _ => some (.int v))) o.2) args s 1 6 A) (F0 m 18 ls []) := by
  have hx := C.1
  have hb := C.2.1
  intro σ H locs ls hM hl h
  unfold fc_X11_type_18 at h
  exact c_throw (k := 1) (text := "no such sign") C hM (fun _ => rfl) hst hout hlk (by decide +kernel) cx_at1 cx_ot1 (wl_in (i := 525) (by decide +kernel)) (wl_in (i := 20) (by decide +kernel)) rfl dX11_type_18 dX11_type_21 dX11_type_22 dX11_type_24 dX11_type_27 hl.1 (Nat.le_of_ble_eq_true rfl) (Nat.le_of_ble_eq_true rfl) (Nat.le_of_ble_eq_true rfl) (Nat.le_of_ble_eq_true rfl) (Nat.le_of_ble_eq_true rfl) (Nat.le_of_ble_eq_true rfl) h
def fc_X11_type_28 (σ : cS) (x1 : Int32) : Option ((Nat ⊕ Int32) × cS) :=
    if (cI σ 1 0 3) < (30 : Int32) then
      (fc_X7_add σ x1).bind fun r_1 =>
      some (.inr (cI r_1 1 0 3), r_1)
    else
      some (.inl 2, σ)
set_option maxHeartbeats 4000000 in
set_option maxRecDepth 100000 in
theorem gc_X11_type_28 {p : Program} {l : Launch} {e : Env} {s : State} {m : MethodId} {args : Array Value} {below : List Frame} {meth : Method} {c : Code} {D : va_G} {ca : Nat → ClassId} {A : Nat → Prop} {σ0 : cS} {α : cAl} {o : (Nat ⊕ Int32) × cS} (C : cC p s m args c cX11_type 2 RX11 D ca A α) (hr : meth.sig.returnType = (some FieldType.int)) (hlk : meth.locks = false) (h17 : 0 < cn σ0 17) (hst : l.stackTraces = false) (hout : ∀ x ∈ c.exceptionTable.toList, False) : ∀ (σ : cS) (x1 : Int32) (H : Heap) (locs : List Loc) (ls : Array Slot), cM D ca true A s.heap σ0 α σ α H locs → lv_has ls 2 [(0, cr α 0 (some 0)), (1, .int x1)] → fc_X11_type_28 σ x1 = some o → W p l e rc_X11_type s m args below meth c H locs 0 0 (vx_MQ below (cQx false D ca true A α σ0 (o.1.map id (fun (v : Int32) _ => some (.int v))) o.2) (cXC false D ca true A α σ0 (o.1.map id (fun (v : Int32) _ => some (.int v))) o.2) args s 1 6 A) (F0 m 28 ls []) := by
  have hx := C.1
  have hb := C.2.1
  intro σ x1 H locs ls hM hl h
  unfold fc_X11_type_28 at h
  refine c_aload_n (t := 0) (x := (some 0)) hx hb dX11_type_28 rfl (lv_at hl 0 rfl) ?_
  refine c_getb C hM (k := 0) (f := 0) (j := 0) (t := 1) (hM.cst 0 0 rfl) (by decide) fl_X11_18 dX11_type_29 ?_
  refine c_geti C hM (k := 1) (f := 3) (hM.cst 1 0 rfl) rfl fl_X11_73 dX11_type_32 ?_
  refine lv_bipush (v := (30 : Int32)) hx hb dX11_type_35 (by decide) ?_
  refine lv_icmp_lt (tgt := 50) hx hb dX11_type_37 (by decide) (fun c_1 => ?_) (fun c_1 => ?_)
  · have h := br_T c_1 h
    refine c_aload_n (t := 0) (x := (some 0)) hx hb dX11_type_50 rfl (lv_at hl 0 rfl) ?_
    refine c_getb C hM (k := 0) (f := 0) (j := 0) (t := 1) (hM.cst 0 0 rfl) (by decide) fl_X11_18 dX11_type_51 ?_
    refine lv_iload_n hx hb dX11_type_54 rfl (lv_at hl 1 rfl) ?_
    obtain ⟨r_1, hr_1, h⟩ := bd_of h
    refine c_go0 (c_rV (As := [.int x1]) (rest := []) C hM h17 (hM.cst 1 0 rfl) (by decide) (cc_X7_add l D ca A α σ x1 _ hr_1) cw_X11_82 ⟨rfl, rfl⟩ ⟨Nat.le_of_ble_eq_true rfl, Nat.le_of_ble_eq_true rfl⟩ rfl rfl (cats_le _ (Nat.le_of_ble_eq_true rfl)) hl.1 dX11_type_55 ⟨Nat.le_of_ble_eq_true rfl, Nat.le_of_ble_eq_true rfl⟩) hM (fun H locs hM => ?_)
    refine W_st (st' := []) rfl ?_
    refine c_aload_n (t := 0) (x := (some 0)) hx hb dX11_type_58 rfl (lv_at hl 0 rfl) ?_
    refine c_getb C hM (k := 0) (f := 0) (j := 0) (t := 1) (hM.cst 0 0 rfl) (by decide) fl_X11_18 dX11_type_59 ?_
    refine c_geti C hM (k := 1) (f := 3) (hM.cst 1 0 rfl) rfl fl_X11_73 dX11_type_62 ?_
    refine W.widen (k := 1) (n := 6) (Nat.le_of_ble_eq_true rfl) (Nat.le_of_ble_eq_true rfl) ?_
    exact c_xr h (c_ri (o := ((cI r_1 1 0 3), r_1)) C hM (fun _ => rfl) hr hlk dX11_type_65 rfl)
  · have h := br_F c_1 h
    exact c_throw (k := 2) (text := "30 signs are typed") C hM (fun _ => rfl) hst hout hlk (by decide +kernel) cx_at2 cx_ot2 (wl_in (i := 597) (by decide +kernel)) (wl_in (i := 21) (by decide +kernel)) rfl dX11_type_40 dX11_type_43 dX11_type_44 dX11_type_46 dX11_type_49 hl.1 (Nat.le_of_ble_eq_true rfl) (Nat.le_of_ble_eq_true rfl) (Nat.le_of_ble_eq_true rfl) (Nat.le_of_ble_eq_true rfl) (Nat.le_of_ble_eq_true rfl) (Nat.le_of_ble_eq_true rfl) h
def fc_X11_type (σ : cS) (x1 : Int32) : Option ((Nat ⊕ Int32) × cS) :=
  if x1 = (32 : Int32) then
    fc_X11_type_28 σ x1
  else
    if x1 < (97 : Int32) then
      fc_X11_type_18 σ
    else
      if x1 ≤ (122 : Int32) then
        fc_X11_type_28 σ x1
      else
        fc_X11_type_18 σ
set_option maxHeartbeats 4000000 in
set_option maxRecDepth 100000 in
theorem cc_X11_type (l : Launch) (hst : l.stackTraces = false) (D : va_G) (ca : Nat → ClassId) (A : Nat → Prop) (α : cAl) (σ : cS) (x1 : Int32) (o : (Nat ⊕ Int32) × cS) (h : fc_X11_type σ x1 = some o) : cMetX false l yX11_type cX11_type 2 ((some FieldType.int)) rc_X11_type 1 6 D ca true A α σ [cr α 0 (some 0), .int x1] (o.1.map id (fun (v : Int32) _ => some (.int v))) o.2 := by
  refine vx_ofW (cc := cX11_type) (maxL := 2) (ret := (some FieldType.int)) (by decide) rfl ?_
  intro p e s m args below meth c s₁ B hml hout hv
  obtain ⟨rfl, hP, hK, hD0, hSh, hA, hG⟩ := hv
  have C : cC p s m _ c cX11_type 2 RX11 D ca A α := ⟨B.exec, B.bytes, hml, findClass_of_methodNamed B.named, fun w hw => atoms_spec (ws := mWs yX11_type cX11_type 2 ((some FieldType.int))) B.pre w (List.mem_cons_of_mem _ hw), hK, hG⟩
  have hM : cM D ca true A s.heap σ α σ α s.heap [] := ⟨hP, hD0, hSh, va_S.rf, hA, cX.rf⟩
  have h17 : 0 < cn σ 17 := c_17 hM
  have hr := B.returns
  have hlk := B.notSynchronized
  have hx := C.1
  have hb := C.2.1
  have hl := lv_entry ([cr α 0 (some 0), .int x1]) (n := 2) (Nat.le_of_ble_eq_true rfl)
  rw [lg_entry_eq]
  generalize (lg_sl ([cr α 0 (some 0), .int x1]) ++ List.replicate (2 - (lg_sl ([cr α 0 (some 0), .int x1])).length) Slot.unset).toArray = ls at hl ⊢
  have hl : lv_has ls 2 [(0, cr α 0 (some 0)), (1, .int x1)] := hl
  unfold fc_X11_type at h
  refine lv_iload_n hx hb dX11_type_0 rfl (lv_at hl 1 rfl) ?_
  refine lv_bipush (v := (32 : Int32)) hx hb dX11_type_1 (by decide) ?_
  refine lv_icmp_eq (tgt := 28) hx hb dX11_type_3 (by decide) (fun c_1 => ?_) (fun c_1 => ?_)
  · have h := br_T c_1 h
    exact gc_X11_type_28 C hr hlk h17 hst hout  _ _ _ _ _ hM (lv_sub hl [0, 1] rfl) h
  · have h := br_F c_1 h
    refine lv_iload_n hx hb dX11_type_6 rfl (lv_at hl 1 rfl) ?_
    refine lv_bipush (v := (97 : Int32)) hx hb dX11_type_7 (by decide) ?_
    refine lv_icmp_lt (tgt := 18) hx hb dX11_type_9 (by decide) (fun c_2 => ?_) (fun c_2 => ?_)
    · have h := br_T c_2 h
      exact gc_X11_type_18 C hr hlk h17 hst hout  _ _ _ _ hM (lv_sub hl [] rfl) h
    · have h := br_F c_2 h
      refine lv_iload_n hx hb dX11_type_12 rfl (lv_at hl 1 rfl) ?_
      refine lv_bipush (v := (122 : Int32)) hx hb dX11_type_13 (by decide) ?_
      refine lv_icmp_le (tgt := 28) hx hb dX11_type_15 (by decide) (fun c_3 => ?_) (fun c_3 => ?_)
      · have h := br_T c_3 h
        exact gc_X11_type_28 C hr hlk h17 hst hout  _ _ _ _ _ hM (lv_sub hl [0, 1] rfl) h
      · have h := br_F c_3 h
        exact gc_X11_type_18 C hr hlk h17 hst hout  _ _ _ _ hM (lv_sub hl [] rfl) h
/-! Lorewick.clear()I -/
abbrev rc_X11_clear : Room := { frames := 0, cells := 0, slots := 0, locals := 0 }
def fc_X11_clear (σ : cS) : Option (Int32 × cS) :=
  some ((cI σ 1 0 3), (uI σ 1 0 3 (0 : Int32)))
set_option maxHeartbeats 4000000 in
set_option maxRecDepth 100000 in
theorem cc_X11_clear (l : Launch) (D : va_G) (ca : Nat → ClassId) (A : Nat → Prop) (α : cAl) (σ : cS) (o : Int32 × cS) (h : fc_X11_clear σ  = some o) : cMet false l yX11_clear cX11_clear 2 ((some FieldType.int)) rc_X11_clear 0 0 D ca true A α σ [cr α 0 (some 0)] (fun _ => some (.int o.1)) o.2 := by
  refine Met.ofW (cc := cX11_clear) (maxL := 2) (ret := (some FieldType.int)) (by decide) rfl ?_
  intro p e s m args below meth c s₁ B hml hv
  obtain ⟨rfl, hP, hK, hD0, hSh, hA, hG⟩ := hv
  have C : cC p s m _ c cX11_clear 2 RX11 D ca A α := ⟨B.exec, B.bytes, hml, findClass_of_methodNamed B.named, fun w hw => atoms_spec (ws := mWs yX11_clear cX11_clear 2 ((some FieldType.int))) B.pre w (List.mem_cons_of_mem _ hw), hK, hG⟩
  have hM : cM D ca true A s.heap σ α σ α s.heap [] := ⟨hP, hD0, hSh, va_S.rf, hA, cX.rf⟩
  have h17 : 0 < cn σ 17 := c_17 hM
  have hr := B.returns
  have hlk := B.notSynchronized
  have hx := C.1
  have hb := C.2.1
  have hl := lv_entry ([cr α 0 (some 0)]) (n := 2) (Nat.le_of_ble_eq_true rfl)
  rw [lg_entry_eq]
  generalize (lg_sl ([cr α 0 (some 0)]) ++ List.replicate (2 - (lg_sl ([cr α 0 (some 0)])).length) Slot.unset).toArray = ls at hl ⊢
  have hl : lv_has ls 2 [(0, cr α 0 (some 0))] := hl
  unfold fc_X11_clear at h
  refine c_aload_n (t := 0) (x := (some 0)) hx hb dX11_clear_0 rfl (lv_at hl 0 rfl) ?_
  refine c_getb C hM (k := 0) (f := 0) (j := 0) (t := 1) (hM.cst 0 0 rfl) (by decide) fl_X11_18 dX11_clear_1 ?_
  refine c_geti C hM (k := 1) (f := 3) (hM.cst 1 0 rfl) rfl fl_X11_73 dX11_clear_4 ?_
  refine lv_istore_n (lv' := [(1, .int (cI σ 1 0 3)), (0, cr α 0 (some 0))]) hx hb dX11_clear_7 rfl hl (by decide) rfl (fun ls hl => ?_)
  refine c_aload_n (t := 0) (x := (some 0)) hx hb dX11_clear_8 rfl (lv_at hl 1 rfl) ?_
  refine c_getb C hM (k := 0) (f := 0) (j := 0) (t := 1) (hM.cst 0 0 rfl) (by decide) fl_X11_18 dX11_clear_9 ?_
  refine lv_iconst (v := (0 : Int32)) hx hb dX11_clear_12 (by decide) ?_
  refine c_puti C hM (k := 1) (f := 3) (hM.cst 1 0 rfl) rfl fl_X11_73 (Or.inl rfl) dX11_clear_13 (fun H locs hM => ?_)
  refine lv_iload_n hx hb dX11_clear_16 rfl (lv_at hl 0 rfl) ?_
  exact c_ri C hM (fun _ => rfl) hr hlk dX11_clear_17 h
