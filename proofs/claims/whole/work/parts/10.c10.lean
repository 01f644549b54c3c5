/-! The class's methods: what each makes of the state (fc_..), as the bytecode has it; and that it does (cc_..). -/
theorem cw_X11_505 : cCallV RX11 505 (cRn 5) yX5_paid cX5_paid 3 ((some FieldType.int)) 0 := ⟨⟨wl_in (i := 512) (by decide +kernel), wl_in (i := 513) (by decide +kernel), wl_in (i := 514) (by decide +kernel), wl_in (i := 10) (by decide +kernel), wl_in (i := 515) (by decide +kernel)⟩, rfl, by decide, by decide, by decide +kernel⟩
theorem fl_X11_633 : Cond.fieldLink RX11 633 (cTt 7 2).1 (cTt 7 2).2.1 (cTt 7 2).2.2.1 ∈ wl := wl_in (i := 987) (by decide +kernel)
theorem cw_X11_659 : cCallV RX11 659 (cRn 0) yX11_canDoAnew cX11_canDoAnew 2 ((some FieldType.boolean)) 1 := ⟨⟨wl_in (i := 401) (by decide +kernel), wl_in (i := 403) (by decide +kernel), wl_inp (i := 1) (by decide +kernel), wl_in (i := 1) (by decide +kernel), wl_in (i := 404) (by decide +kernel)⟩, rfl, by decide, by decide, by decide +kernel⟩
theorem cw_X11_656 : cCallV RX11 656 (cRn 6) yX6_isLike cX6_isLike 3 ((some FieldType.boolean)) 1 := ⟨⟨wl_in (i := 383) (by decide +kernel), wl_in (i := 384) (by decide +kernel), wl_in (i := 385) (by decide +kernel), wl_in (i := 11) (by decide +kernel), wl_in (i := 386) (by decide +kernel)⟩, rfl, by decide, by decide, by decide +kernel⟩
theorem cw_X11_511 : cCallV RX11 511 (cRn 5) yX5_isAnySoldTwice cX5_isAnySoldTwice 5 ((some FieldType.boolean)) 0 := ⟨⟨wl_in (i := 498) (by decide +kernel), wl_in (i := 499) (by decide +kernel), wl_in (i := 500) (by decide +kernel), wl_in (i := 10) (by decide +kernel), wl_in (i := 501) (by decide +kernel)⟩, rfl, by decide, by decide, by decide +kernel⟩
theorem cw_X11_508 : cCallV RX11 508 (cRn 0) yX11_isSameAnew cX11_isSameAnew 2 ((some FieldType.boolean)) 1 := ⟨⟨wl_in (i := 375) (by decide +kernel), wl_in (i := 377) (by decide +kernel), wl_inp (i := 0) (by decide +kernel), wl_in (i := 1) (by decide +kernel), wl_in (i := 378) (by decide +kernel)⟩, rfl, by decide, by decide, by decide +kernel⟩
/-! Lorewick.checksum()J -/
abbrev rc_X11_checksum : Room := { frames := 8, cells := 1, slots := 6, locals := 142 }
def fc_X11_checksum_61 (k_18 : cS → Option Nat → Int64 → Int32 → Option ((Nat ⊕ Int64) × cS)) (σ : cS) (x1 : Option Nat) (x4 : Int32) (s0 : Int64) (s1 : Int64) : Option ((Nat ⊕ Int64) × cS) :=
    (dr σ 6 x1).bind fun i_1 =>
    (dr σ 12 (cR σ 6 i_1 2)).bind fun i_2 =>
    if x4 < 0 ∨ cln σ 12 i_2 ≤ x4.toNatClampNeg then none else
    k_18 σ x1 ((s1 + s0) + ((10000 : Int64) * ((cI σ 12 i_2 x4.toNatClampNeg).toInt64))) (x4 + (1 : Int32))
set_option maxHeartbeats 4000000 in
set_option maxRecDepth 100000 in
theorem gc_X11_checksum_61 {p : Program} {l : Launch} {e : Env} {s : State} {m : MethodId} {args : Array Value} {below : List Frame} {meth : Method} {c : Code} {D : va_G} {ca : Nat → ClassId} {A : Nat → Prop} {σ0 : cS} {α : cAl} {o : (Nat ⊕ Int64) × cS} {k_18 : cS → Option Nat → Int64 → Int32 → Option ((Nat ⊕ Int64) × cS)} (C : cC p s m args c cX11_checksum 5 RX11 D ca A α) (hr : meth.sig.returnType = (some FieldType.long)) (hlk : meth.locks = false) (h17 : 0 < cn σ0 17) (hst : l.stackTraces = false) (hout : ∀ x ∈ c.exceptionTable.toList, False) (hk_18 : ∀ (σ : cS) (x1 : Option Nat) (x2 : Int64) (x4 : Int32) (H : Heap) (locs : List Loc) (ls : Array Slot), cM D ca true A s.heap σ0 α σ α H locs → lv_has ls 5 [(0, cr α 0 (some 0)), (1, cr α 6 x1), (2, .long x2), (4, .int x4)] → k_18 σ x1 x2 x4 = some o → W p l e rc_X11_checksum s m args below meth c H locs 1 6 (vx_MQ below (cQx false D ca true A α σ0 (o.1.map id (fun (v : Int64) _ => some (.long v))) o.2) (cXC false D ca true A α σ0 (o.1.map id (fun (v : Int64) _ => some (.long v))) o.2) args s 1 6 A) (F0 m 18 ls [])) : ∀ (σ : cS) (x1 : Option Nat) (x4 : Int32) (s0 : Int64) (s1 : Int64) (H : Heap) (locs : List Loc) (ls : Array Slot), cM D ca true A s.heap σ0 α σ α H locs → lv_has ls 5 [(0, cr α 0 (some 0)), (1, cr α 6 x1), (4, .int x4)] → fc_X11_checksum_61 k_18 σ x1 x4 s0 s1 = some o → W p l e rc_X11_checksum s m args below meth c H locs 1 6 (vx_MQ below (cQx false D ca true A α σ0 (o.1.map id (fun (v : Int64) _ => some (.long v))) o.2) (cXC false D ca true A α σ0 (o.1.map id (fun (v : Int64) _ => some (.long v))) o.2) args s 1 6 A) (F0 m 61 ls [.long s0, .long s1]) := by
  have hx := C.1
  have hb := C.2.1
  intro σ x1 x4 s0 s1 H locs ls hM hl h
  unfold fc_X11_checksum_61 at h
  refine lv_ladd hx hb dX11_checksum_61 ?_
  refine lv_ldc2 (own := RX11) (v := (10000 : Int64)) hx hb C.2.2.2.1 (C.2.2.2.2.1 _ (wl_in (i := 1807) (by decide +kernel))) dX11_checksum_62 ?_
  refine c_aload_n (t := 6) (x := x1) hx hb dX11_checksum_65 rfl (lv_at hl 1 rfl) ?_
  obtain ⟨i_1, hd_1, h⟩ := bd_of h
  refine c_getrt C hM (k := 6) (f := 2) (t := 12) hd_1 (by decide) fl_X11_291 dX11_checksum_66 ?_
  refine lv_iload hx hb dX11_checksum_69 (lv_at hl 2 rfl) ?_
  obtain ⟨i_2, hd_2, h⟩ := bd_of h
  obtain ⟨c_1, h⟩ := ko_of h
  refine c_iald C hM hd_2 c_1 dX11_checksum_71 ?_
  refine lv_i2l (v := (cI σ 12 i_2 x4.toNatClampNeg).toInt64) hx hb dX11_checksum_72 rfl ?_
  refine lv_lmul hx hb dX11_checksum_73 ?_
  refine lv_ladd hx hb dX11_checksum_74 ?_
  refine lv_lstore_n (lv' := [(2, .long ((s1 + s0) + ((10000 : Int64) * ((cI σ 12 i_2 x4.toNatClampNeg).toInt64)))), (0, cr α 0 (some 0)), (1, cr α 6 x1), (4, .int x4)]) hx hb dX11_checksum_75 rfl hl (by decide) (by first | rfl | (simp only [List.filter, cr_cat]; rfl)) (fun ls hl => ?_)
  refine lv_iinc (v := (x4 + (1 : Int32))) (lv' := [(4, .int (x4 + (1 : Int32))), (2, .long ((s1 + s0) + ((10000 : Int64) * ((cI σ 12 i_2 x4.toNatClampNeg).toInt64)))), (0, cr α 0 (some 0)), (1, cr α 6 x1)]) hx hb dX11_checksum_76 hl (k := 3) rfl rfl (by decide) rfl (fun ls hl => ?_)
  refine lv_goto (tgt := 18) hx hb dX11_checksum_79 (by decide) ?_
  exact hk_18 _ _ _ _ _ _ _ hM (lv_sub hl [2, 3, 1, 0] rfl) h
def fc_X11_checksum_18 : Nat → cS → Option Nat → Int64 → Int32 → Option ((Nat ⊕ Int64) × cS)
  | 0, _, _, _, _ => none
  | n + 1, σ, x1, x2, x4 =>
    if (cI σ 2 0 13) ≤ x4 then
      some (.inr x2, σ)
    else
      (dr σ 6 x1).bind fun i_1 =>
      (dr σ 12 (cR σ 6 i_1 1)).bind fun i_2 =>
      if x4 < 0 ∨ cln σ 12 i_2 ≤ x4.toNatClampNeg then none else
      (dr σ 13 (cR σ 6 i_1 3)).bind fun i_3 =>
      if x4 < 0 ∨ cln σ 13 i_3 ≤ x4.toNatClampNeg then none else
      if (cI σ 13 i_3 x4.toNatClampNeg) = 0 then
        fc_X11_checksum_61 (fc_X11_checksum_18 n) σ x1 x4 (0 : Int64) ((x2 * (31 : Int64)) + ((cI σ 12 i_2 x4.toNatClampNeg).toInt64))
      else
        fc_X11_checksum_61 (fc_X11_checksum_18 n) σ x1 x4 (1000 : Int64) ((x2 * (31 : Int64)) + ((cI σ 12 i_2 x4.toNatClampNeg).toInt64))
set_option maxHeartbeats 4000000 in
set_option maxRecDepth 100000 in
theorem gc_X11_checksum_18 {p : Program} {l : Launch} {e : Env} {s : State} {m : MethodId} {args : Array Value} {below : List Frame} {meth : Method} {c : Code} {D : va_G} {ca : Nat → ClassId} {A : Nat → Prop} {σ0 : cS} {α : cAl} {o : (Nat ⊕ Int64) × cS} (C : cC p s m args c cX11_checksum 5 RX11 D ca A α) (hr : meth.sig.returnType = (some FieldType.long)) (hlk : meth.locks = false) (h17 : 0 < cn σ0 17) (hst : l.stackTraces = false) (hout : ∀ x ∈ c.exceptionTable.toList, False) : ∀ (n : Nat) (σ : cS) (x1 : Option Nat) (x2 : Int64) (x4 : Int32) (H : Heap) (locs : List Loc) (ls : Array Slot), cM D ca true A s.heap σ0 α σ α H locs → lv_has ls 5 [(0, cr α 0 (some 0)), (1, cr α 6 x1), (2, .long x2), (4, .int x4)] → fc_X11_checksum_18 n σ x1 x2 x4 = some o → W p l e rc_X11_checksum s m args below meth c H locs 1 6 (vx_MQ below (cQx false D ca true A α σ0 (o.1.map id (fun (v : Int64) _ => some (.long v))) o.2) (cXC false D ca true A α σ0 (o.1.map id (fun (v : Int64) _ => some (.long v))) o.2) args s 1 6 A) (F0 m 18 ls []) := by
  have hx := C.1
  have hb := C.2.1
  intro n
  induction n with
  | zero =>
    intro σ x1 x2 x4 H locs ls hM hl h
    cases h
  | succ n ih =>
    intro σ x1 x2 x4 H locs ls hM hl h
    rw [fc_X11_checksum_18] at h
    refine lv_iload hx hb dX11_checksum_18 (lv_at hl 3 rfl) ?_
    refine c_aload_n (t := 0) (x := (some 0)) hx hb dX11_checksum_20 rfl (lv_at hl 0 rfl) ?_
    refine c_getb C hM (k := 0) (f := 1) (j := 0) (t := 2) (hM.cst 0 0 rfl) (by decide) fl_X11_25 dX11_checksum_21 ?_
    refine c_geti C hM (k := 2) (f := 13) (hM.cst 2 0 rfl) rfl fl_X11_163 dX11_checksum_24 ?_
    refine lv_icmp_ge (tgt := 82) hx hb dX11_checksum_27 (by decide) (fun c_1 => ?_) (fun c_1 => ?_)
    · have h := br_T c_1 h
      refine lv_lload_n hx hb dX11_checksum_82 rfl (lv_at hl 2 rfl) ?_
      exact c_xr h (c_rl (o := (x2, σ)) C hM (fun _ => rfl) hr hlk dX11_checksum_83 rfl)
    · have h := br_F c_1 h
      refine lv_lload_n hx hb dX11_checksum_30 rfl (lv_at hl 2 rfl) ?_
      refine lv_ldc2 (own := RX11) (v := (31 : Int64)) hx hb C.2.2.2.1 (C.2.2.2.2.1 _ (wl_in (i := 1805) (by decide +kernel))) dX11_checksum_31 ?_
      refine lv_lmul hx hb dX11_checksum_34 ?_
      refine c_aload_n (t := 6) (x := x1) hx hb dX11_checksum_35 rfl (lv_at hl 1 rfl) ?_
      obtain ⟨i_1, hd_1, h⟩ := bd_of h
      refine c_getrt C hM (k := 6) (f := 1) (t := 12) hd_1 (by decide) fl_X11_285 dX11_checksum_36 ?_
      refine lv_iload hx hb dX11_checksum_39 (lv_at hl 3 rfl) ?_
      obtain ⟨i_2, hd_2, h⟩ := bd_of h
      obtain ⟨c_2, h⟩ := ko_of h
      refine c_iald C hM hd_2 c_2 dX11_checksum_41 ?_
      refine lv_i2l (v := (cI σ 12 i_2 x4.toNatClampNeg).toInt64) hx hb dX11_checksum_42 rfl ?_
      refine lv_ladd hx hb dX11_checksum_43 ?_
      refine c_aload_n (t := 6) (x := x1) hx hb dX11_checksum_44 rfl (lv_at hl 1 rfl) ?_
      refine c_getrt C hM (k := 6) (f := 3) (t := 13) hd_1 (by decide) fl_X11_288 dX11_checksum_45 ?_
      refine lv_iload hx hb dX11_checksum_48 (lv_at hl 3 rfl) ?_
      obtain ⟨i_3, hd_3, h⟩ := bd_of h
      obtain ⟨c_3, h⟩ := ko_of h
      refine c_zald C hM hd_3 c_3 dX11_checksum_50 ?_
      refine lv_if_eq (tgt := 60) hx hb dX11_checksum_51 (by decide) (fun c_4 => ?_) (fun c_4 => ?_)
      · have h := br_T c_4 h
        refine lv_lconst (v := (0 : Int64)) hx hb dX11_checksum_60 (by decide) ?_
        exact gc_X11_checksum_61 C hr hlk h17 hst hout ih _ _ _ _ _ _ _ _ hM (lv_sub hl [0, 1, 3] rfl) h
      · have h := br_F c_4 h
        refine lv_ldc2 (own := RX11) (v := (1000 : Int64)) hx hb C.2.2.2.1 (C.2.2.2.2.1 _ (wl_in (i := 1806) (by decide +kernel))) dX11_checksum_54 ?_
        refine lv_goto (tgt := 61) hx hb dX11_checksum_57 (by decide) ?_
        exact gc_X11_checksum_61 C hr hlk h17 hst hout ih _ _ _ _ _ _ _ _ hM (lv_sub hl [0, 1, 3] rfl) h
def fc_X11_checksum (σ : cS) : Option ((Nat ⊕ Int64) × cS) :=
  xb (fc_X11_stateHere σ) fun v_1 u_1 =>
  (dr u_1 6 v_1).bind fun i_2 =>
  fc_X11_checksum_18 3000 u_1 v_1 ((217 : Int64) + ((cI u_1 6 i_2 0).toInt64)) (0 : Int32)
set_option maxHeartbeats 4000000 in
set_option maxRecDepth 100000 in
theorem cc_X11_checksum (l : Launch) (hst : l.stackTraces = false) (D : va_G) (ca : Nat → ClassId) (A : Nat → Prop) (α : cAl) (σ : cS) (o : (Nat ⊕ Int64) × cS) (h : fc_X11_checksum σ  = some o) : cMetX false l yX11_checksum cX11_checksum 5 ((some FieldType.long)) rc_X11_checksum 1 6 D ca true A α σ [cr α 0 (some 0)] (o.1.map id (fun (v : Int64) _ => some (.long v))) o.2 := by
  refine vx_ofW (cc := cX11_checksum) (maxL := 5) (ret := (some FieldType.long)) (by decide) rfl ?_
  intro p e s m args below meth c s₁ B hml hout hv
  obtain ⟨rfl, hP, hK, hD0, hSh, hA, hG⟩ := hv
  have C : cC p s m _ c cX11_checksum 5 RX11 D ca A α := ⟨B.exec, B.bytes, hml, findClass_of_methodNamed B.named, fun w hw => atoms_spec (ws := mWs yX11_checksum cX11_checksum 5 ((some FieldType.long))) B.pre w (List.mem_cons_of_mem _ hw), hK, hG⟩
  have hM : cM D ca true A s.heap σ α σ α s.heap [] := ⟨hP, hD0, hSh, va_S.rf, hA, cX.rf⟩
  have h17 : 0 < cn σ 17 := c_17 hM
  have hr := B.returns
  have hlk := B.notSynchronized
  have hx := C.1
  have hb := C.2.1
  have hl := lv_entry ([cr α 0 (some 0)]) (n := 5) (Nat.le_of_ble_eq_true rfl)
  rw [lg_entry_eq]
  generalize (lg_sl ([cr α 0 (some 0)]) ++ List.replicate (5 - (lg_sl ([cr α 0 (some 0)])).length) Slot.unset).toArray = ls at hl ⊢
  have hl : lv_has ls 5 [(0, cr α 0 (some 0))] := hl
  unfold fc_X11_checksum at h
  refine c_aload_n (t := 0) (x := (some 0)) hx hb dX11_checksum_0 rfl (lv_at hl 0 rfl) ?_
  obtain ⟨r_1, u_1, hr_1⟩ := xb_some h
  refine c_gox2 (T := (fun (v : Option Nat) α1 => some (cr α1 6 v))) (T2 := (fun (v : Int64) _ => some (.long v))) h hr_1 (c_rVx (As := []) (rest := []) C hM h17 (hM.cst 0 0 rfl) (by decide) (cc_X11_stateHere l hst D ca A α σ _ hr_1) cw_X11_278 ⟨rfl, rfl⟩ ⟨Nat.le_of_ble_eq_true rfl, Nat.le_of_ble_eq_true rfl⟩ rfl rfl (cats_le _ (Nat.le_of_ble_eq_true rfl)) hl.1 dX11_checksum_1 ⟨Nat.le_of_ble_eq_true rfl, Nat.le_of_ble_eq_true rfl⟩) C hM (fun _ => ⟨rfl, rfl⟩) hout hlk (Nat.le_of_ble_eq_true rfl) (Nat.le_of_ble_eq_true rfl) (fun v_1 H locs α9 hα h hX_1 hM => ?_)
  obtain rfl : α = α9 := (hα rfl).symm
  refine W_st (st' := [cr α 6 v_1]) rfl ?_
  refine c_astore_n (t := 6) (x := v_1) (lv' := [(1, cr α 6 v_1), (0, cr α 0 (some 0))]) hx hb dX11_checksum_4 rfl hl (by decide) rfl (fun ls hl => ?_)
  refine lv_ldc2 (own := RX11) (v := (217 : Int64)) hx hb C.2.2.2.1 (C.2.2.2.2.1 _ (wl_in (i := 1804) (by decide +kernel))) dX11_checksum_5 ?_
  refine c_aload_n (t := 6) (x := v_1) hx hb dX11_checksum_8 rfl (lv_at hl 0 rfl) ?_
  obtain ⟨i_2, hd_2, h⟩ := bd_of h
  refine c_geti C hM (k := 6) (f := 0) hd_2 rfl fl_X11_282 dX11_checksum_9 ?_
  refine lv_i2l (v := (cI u_1 6 i_2 0).toInt64) hx hb dX11_checksum_12 rfl ?_
  refine lv_ladd hx hb dX11_checksum_13 ?_
  refine lv_lstore_n (lv' := [(2, .long ((217 : Int64) + ((cI u_1 6 i_2 0).toInt64))), (1, cr α 6 v_1), (0, cr α 0 (some 0))]) hx hb dX11_checksum_14 rfl hl (by decide) (by first | rfl | (simp only [List.filter, cr_cat]; rfl)) (fun ls hl => ?_)
  refine lv_iconst (v := (0 : Int32)) hx hb dX11_checksum_15 (by decide) ?_
  refine lv_istore (lv' := [(4, .int (0 : Int32)), (2, .long ((217 : Int64) + ((cI u_1 6 i_2 0).toInt64))), (1, cr α 6 v_1), (0, cr α 0 (some 0))]) hx hb dX11_checksum_16 hl (by decide) rfl (fun ls hl => ?_)
  exact gc_X11_checksum_18 C hr hlk h17 hst hout  _ _ _ _ _ _ _ _ hM (lv_sub hl [3, 2, 1, 0] rfl) h
/-! Lorewick.knownShare()F -/
abbrev rc_X11_knownShare : Room := { frames := 7, cells := 2, slots := 12, locals := 142 }
def fc_X11_knownShare (σ : cS) : Option ((Nat ⊕ UInt32) × cS) :=
  xb (fc_X11_needPlay σ) fun v_1 u_1 =>
  if (cI u_1 2 0 1) = 0 then
    some (.inl 6, u_1)
  else
    (fc_X11_wordsKnown u_1).bind fun r_2 =>
    if ¬ ((FP.fdiv (FP.i2f r_2.1) (FP.i2f (cI r_2.2 2 0 1))) &&& 0x7fffffff ≤ 0x7f800000) then none else
    some (.inr (FP.fdiv (FP.i2f r_2.1) (FP.i2f (cI r_2.2 2 0 1))), r_2.2)
set_option maxHeartbeats 4000000 in
set_option maxRecDepth 100000 in
theorem cc_X11_knownShare (l : Launch) (hst : l.stackTraces = false) (D : va_G) (ca : Nat → ClassId) (A : Nat → Prop) (α : cAl) (σ : cS) (o : (Nat ⊕ UInt32) × cS) (h : fc_X11_knownShare σ  = some o) : cMetX false l yX11_knownShare cX11_knownShare 1 ((some FieldType.float)) rc_X11_knownShare 2 12 D ca true A α σ [cr α 0 (some 0)] (o.1.map id (fun (v : UInt32) _ => some (.float v))) o.2 := by
  refine vx_ofW (cc := cX11_knownShare) (maxL := 1) (ret := (some FieldType.float)) (by decide) rfl ?_
  intro p e s m args below meth c s₁ B hml hout hv
  obtain ⟨rfl, hP, hK, hD0, hSh, hA, hG⟩ := hv
  have C : cC p s m _ c cX11_knownShare 1 RX11 D ca A α := ⟨B.exec, B.bytes, hml, findClass_of_methodNamed B.named, fun w hw => atoms_spec (ws := mWs yX11_knownShare cX11_knownShare 1 ((some FieldType.float))) B.pre w (List.mem_cons_of_mem _ hw), hK, hG⟩
  have hM : cM D ca true A s.heap σ α σ α s.heap [] := ⟨hP, hD0, hSh, va_S.rf, hA, cX.rf⟩
  have h17 : 0 < cn σ 17 := c_17 hM
  have hr := B.returns
  have hlk := B.notSynchronized
  have hx := C.1
  have hb := C.2.1
  have hl := lv_entry ([cr α 0 (some 0)]) (n := 1) (Nat.le_of_ble_eq_true rfl)
  rw [lg_entry_eq]
  generalize (lg_sl ([cr α 0 (some 0)]) ++ List.replicate (1 - (lg_sl ([cr α 0 (some 0)])).length) Slot.unset).toArray = ls at hl ⊢
  have hl : lv_has ls 1 [(0, cr α 0 (some 0))] := hl
  unfold fc_X11_knownShare at h
  refine c_aload_n (t := 0) (x := (some 0)) hx hb dX11_knownShare_0 rfl (lv_at hl 0 rfl) ?_
  obtain ⟨r_1, u_1, hr_1⟩ := xb_some h
  refine c_gox2 (T := (fun (_ : Unit) _ => none)) (T2 := (fun (v : UInt32) _ => some (.float v))) h hr_1 (c_rVx (As := []) (rest := []) C hM h17 (hM.cst 0 0 rfl) (by decide) (cc_X11_needPlay l hst D ca A α σ _ hr_1) cw_X11_260 ⟨rfl, rfl⟩ ⟨Nat.le_of_ble_eq_true rfl, Nat.le_of_ble_eq_true rfl⟩ rfl rfl (cats_le _ (Nat.le_of_ble_eq_true rfl)) hl.1 dX11_knownShare_1 ⟨Nat.le_of_ble_eq_true rfl, Nat.le_of_ble_eq_true rfl⟩) C hM (fun _ => ⟨rfl, rfl⟩) hout hlk (Nat.le_of_ble_eq_true rfl) (Nat.le_of_ble_eq_true rfl) (fun v_1 H locs α9 hα h hX_1 hM => ?_)
  obtain rfl : α = α9 := (hα rfl).symm
  refine W_st (st' := []) rfl ?_
  refine c_aload_n (t := 0) (x := (some 0)) hx hb dX11_knownShare_4 rfl (lv_at hl 0 rfl) ?_
  refine c_getb C hM (k := 0) (f := 1) (j := 0) (t := 2) (hM.cst 0 0 rfl) (by decide) fl_X11_25 dX11_knownShare_5 ?_
  refine c_geti C hM (k := 2) (f := 1) (hM.cst 2 0 rfl) rfl fl_X11_101 dX11_knownShare_8 ?_
  refine lv_if_ne (tgt := 25) hx hb dX11_knownShare_11 (by decide) (fun c_1 => ?_) (fun c_1 => ?_)
  · have h := br_F c_1 h
    refine c_aload_n (t := 0) (x := (some 0)) hx hb dX11_knownShare_25 rfl (lv_at hl 0 rfl) ?_
    obtain ⟨r_2, hr_2, h⟩ := bd_of h
    refine c_go0 (c_rV (As := []) (rest := []) C hM h17 (hM.cst 0 0 rfl) (by decide) (cc_X11_wordsKnown l D ca A α u_1 _ hr_2) cw_X11_256 ⟨rfl, rfl⟩ ⟨Nat.le_of_ble_eq_true rfl, Nat.le_of_ble_eq_true rfl⟩ rfl rfl (cats_le _ (Nat.le_of_ble_eq_true rfl)) hl.1 dX11_knownShare_26 ⟨Nat.le_of_ble_eq_true rfl, Nat.le_of_ble_eq_true rfl⟩) hM (fun H locs hM => ?_)
    refine W_st (st' := [.int r_2.1]) rfl ?_
    refine lv_i2f hx hb dX11_knownShare_29 ?_
    refine c_aload_n (t := 0) (x := (some 0)) hx hb dX11_knownShare_30 rfl (lv_at hl 0 rfl) ?_
    refine c_getb C hM (k := 0) (f := 1) (j := 0) (t := 2) (hM.cst 0 0 rfl) (by decide) fl_X11_25 dX11_knownShare_31 ?_
    refine c_geti C hM (k := 2) (f := 1) (hM.cst 2 0 rfl) rfl fl_X11_101 dX11_knownShare_34 ?_
    refine lv_i2f hx hb dX11_knownShare_37 ?_
    obtain ⟨c_2, h⟩ := ko_of h
    refine lv_fdiv hx hb dX11_knownShare_38 (Classical.not_not.mp c_2) ?_
    refine W.widen (k := 2) (n := 12) (Nat.le_of_ble_eq_true rfl) (Nat.le_of_ble_eq_true rfl) ?_
    exact c_xr h (c_rf (o := ((FP.fdiv (FP.i2f r_2.1) (FP.i2f (cI r_2.2 2 0 1))), r_2.2)) C hM (fun _ => rfl) hr hlk dX11_knownShare_39 rfl)
  · have h := br_T c_1 h
    exact c_throwW (k := 6) (text := "no words") C hM (fun _ => rfl) hst hout hlk (by decide +kernel) cx_at6 cx_ot6 (wl_in (i := 1829) (by decide +kernel)) (wl_in (i := 43) (by decide +kernel)) rfl dX11_knownShare_14 dX11_knownShare_17 dX11_knownShare_18 dX11_knownShare_21 dX11_knownShare_24 hl.1 (Nat.le_of_ble_eq_true rfl) (Nat.le_of_ble_eq_true rfl) (Nat.le_of_ble_eq_true rfl) (Nat.le_of_ble_eq_true rfl) (Nat.le_of_ble_eq_true rfl) (Nat.le_of_ble_eq_true rfl) h
/-! Lorewick.meanPrice()D -/
abbrev rc_X11_meanPrice : Room := { frames := 6, cells := 1, slots := 6, locals := 124 }
def fc_X11_meanPrice (σ : cS) : Option ((Nat ⊕ UInt64) × cS) :=
  (fc_Jx4a65c_size_8abf5 σ (some 1)).bind fun r_1 =>
  if r_1.1 = 0 then
    some (.inl 5, r_1.2)
  else
    (fc_X5_paid r_1.2).bind fun r_2 =>
    if ¬ ((FP.ddiv (FP.i2d r_2.1) (FP.i2d r_1.1)) &&& 0x7fffffffffffffff ≤ 0x7ff0000000000000) then none else
    some (.inr (FP.ddiv (FP.i2d r_2.1) (FP.i2d r_1.1)), r_2.2)
set_option maxHeartbeats 4000000 in
set_option maxRecDepth 100000 in
theorem cc_X11_meanPrice (l : Launch) (hst : l.stackTraces = false) (D : va_G) (ca : Nat → ClassId) (A : Nat → Prop) (α : cAl) (σ : cS) (o : (Nat ⊕ UInt64) × cS) (h : fc_X11_meanPrice σ  = some o) : cMetX false l yX11_meanPrice cX11_meanPrice 2 ((some FieldType.double)) rc_X11_meanPrice 1 6 D ca true A α σ [cr α 0 (some 0)] (o.1.map id (fun (v : UInt64) _ => some (.double v))) o.2 := by
  refine vx_ofW (cc := cX11_meanPrice) (maxL := 2) (ret := (some FieldType.double)) (by decide) rfl ?_
  intro p e s m args below meth c s₁ B hml hout hv
  obtain ⟨rfl, hP, hK, hD0, hSh, hA, hG⟩ := hv
  have C : cC p s m _ c cX11_meanPrice 2 RX11 D ca A α := ⟨B.exec, B.bytes, hml, findClass_of_methodNamed B.named, fun w hw => atoms_spec (ws := mWs yX11_meanPrice cX11_meanPrice 2 ((some FieldType.double))) B.pre w (List.mem_cons_of_mem _ hw), hK, hG⟩
  have hM : cM D ca true A s.heap σ α σ α s.heap [] := ⟨hP, hD0, hSh, va_S.rf, hA, cX.rf⟩
  have h17 : 0 < cn σ 17 := c_17 hM
  have hr := B.returns
  have hlk := B.notSynchronized
  have hx := C.1
  have hb := C.2.1
  have hl := lv_entry ([cr α 0 (some 0)]) (n := 2) (Nat.le_of_ble_eq_true rfl)
  rw [lg_entry_eq]
  generalize (lg_sl ([cr α 0 (some 0)]) ++ List.replicate (2 - (lg_sl ([cr α 0 (some 0)])).length) Slot.unset).toArray = ls at hl ⊢
  have hl : lv_has ls 2 [(0, cr α 0 (some 0))] := hl
  unfold fc_X11_meanPrice at h
  refine c_aload_n (t := 0) (x := (some 0)) hx hb dX11_meanPrice_0 rfl (lv_at hl 0 rfl) ?_
  refine c_getb C hM (k := 0) (f := 4) (j := 0) (t := 5) (hM.cst 0 0 rfl) (by decide) fl_X11_48 dX11_meanPrice_1 ?_
  refine c_getb C hM (k := 5) (f := 3) (j := 1) (t := 10) (hM.cst 5 0 rfl) (by decide) fl_X11_418 dX11_meanPrice_4 ?_
  obtain ⟨r_1, hr_1, h⟩ := bd_of h
  refine c_go0 (c_rV (As := []) (rest := []) C hM h17 (hM.cst 10 1 rfl) (by decide) (cc_Jx4a65c_size_8abf5 l D ca A α σ (some 1) _ hr_1) cw_X11_307 ⟨rfl, rfl⟩ ⟨Nat.le_of_ble_eq_true rfl, Nat.le_of_ble_eq_true rfl⟩ rfl rfl (cats_le _ (Nat.le_of_ble_eq_true rfl)) hl.1 dX11_meanPrice_7 ⟨Nat.le_of_ble_eq_true rfl, Nat.le_of_ble_eq_true rfl⟩) hM (fun H locs hM => ?_)
  refine W_st (st' := [.int r_1.1]) rfl ?_
  refine lv_istore_n (lv' := [(1, .int r_1.1), (0, cr α 0 (some 0))]) hx hb dX11_meanPrice_10 rfl hl (by decide) rfl (fun ls hl => ?_)
  refine lv_iload_n hx hb dX11_meanPrice_11 rfl (lv_at hl 0 rfl) ?_
  refine lv_if_ne (tgt := 26) hx hb dX11_meanPrice_12 (by decide) (fun c_1 => ?_) (fun c_1 => ?_)
  · have h := br_F c_1 h
    refine c_aload_n (t := 0) (x := (some 0)) hx hb dX11_meanPrice_26 rfl (lv_at hl 1 rfl) ?_
    refine c_getb C hM (k := 0) (f := 4) (j := 0) (t := 5) (hM.cst 0 0 rfl) (by decide) fl_X11_48 dX11_meanPrice_27 ?_
    obtain ⟨r_2, hr_2, h⟩ := bd_of h
    refine c_go0 (c_rV (As := []) (rest := []) C hM h17 (hM.cst 5 0 rfl) (by decide) (cc_X5_paid l D ca A α r_1.2 _ hr_2) cw_X11_505 ⟨rfl, rfl⟩ ⟨Nat.le_of_ble_eq_true rfl, Nat.le_of_ble_eq_true rfl⟩ rfl rfl (cats_le _ (Nat.le_of_ble_eq_true rfl)) hl.1 dX11_meanPrice_30 ⟨Nat.le_of_ble_eq_true rfl, Nat.le_of_ble_eq_true rfl⟩) hM (fun H locs hM => ?_)
    refine W_st (st' := [.int r_2.1]) rfl ?_
    refine lv_i2d hx hb dX11_meanPrice_33 ?_
    refine lv_iload_n hx hb dX11_meanPrice_34 rfl (lv_at hl 0 rfl) ?_
    refine lv_i2d hx hb dX11_meanPrice_35 ?_
    obtain ⟨c_2, h⟩ := ko_of h
    refine lv_ddiv hx hb dX11_meanPrice_36 (Classical.not_not.mp c_2) ?_
    refine W.widen (k := 1) (n := 6) (Nat.le_of_ble_eq_true rfl) (Nat.le_of_ble_eq_true rfl) ?_
    exact c_xr h (c_rd (o := ((FP.ddiv (FP.i2d r_2.1) (FP.i2d r_1.1)), r_2.2)) C hM (fun _ => rfl) hr hlk dX11_meanPrice_37 rfl)
  · have h := br_T c_1 h
    exact c_throwW5 (text := "none was sold") C hM (fun _ => rfl) hst hout hlk (by decide +kernel) (wl_in (i := 1244) (by decide +kernel)) (wl_in (i := 39) (by decide +kernel)) dX11_meanPrice_15 dX11_meanPrice_18 dX11_meanPrice_19 dX11_meanPrice_22 dX11_meanPrice_25 hl.1 (Nat.le_of_ble_eq_true rfl) (Nat.le_of_ble_eq_true rfl) (Nat.le_of_ble_eq_true rfl) (Nat.le_of_ble_eq_true rfl) (Nat.le_of_ble_eq_true rfl) (Nat.le_of_ble_eq_true rfl) h
/-! Lorewick.canDoAnew(LLorewick$Command;)Z -/
abbrev rc_X11_canDoAnew : Room := { frames := 5, cells := 0, slots := 0, locals := 116 }
def fc_X11_canDoAnew_99 (σ : cS) (s0 : Int32) : Option (Int32 × cS) :=
    if s0 &&& 1 = s0 then some (s0, σ) else none
set_option maxHeartbeats 4000000 in
set_option maxRecDepth 100000 in
theorem gc_X11_canDoAnew_99 {p : Program} {l : Launch} {e : Env} {s : State} {m : MethodId} {args : Array Value} {below : List Frame} {meth : Method} {c : Code} {D : va_G} {ca : Nat → ClassId} {A : Nat → Prop} {σ0 : cS} {α : cAl} {o : Int32 × cS} (C : cC p s m args c cX11_canDoAnew 2 RX11 D ca A α) (hr : meth.sig.returnType = (some FieldType.boolean)) (hlk : meth.locks = false) (h17 : 0 < cn σ0 17) : ∀ (σ : cS) (s0 : Int32) (H : Heap) (locs : List Loc) (ls : Array Slot), cM D ca true A s.heap σ0 α σ α H locs → lv_has ls 2 [] → fc_X11_canDoAnew_99 σ s0 = some o → W p l e rc_X11_canDoAnew s m args below meth c H locs 0 0 (MQ below (cQ false D ca true A α σ0 (fun _ => some (.int o.1)) o.2) args s 0 0 A) (F0 m 99 ls [.int s0]) := by
  have hx := C.1
  have hb := C.2.1
  intro σ s0 H locs ls hM hl h
  unfold fc_X11_canDoAnew_99 at h
  exact c_rz C hM (fun _ => rfl) hr hlk dX11_canDoAnew_99 h
def fc_X11_canDoAnew_98 (σ : cS) : Option (Int32 × cS) :=
    fc_X11_canDoAnew_99 σ (0 : Int32)
set_option maxHeartbeats 4000000 in
set_option maxRecDepth 100000 in
theorem gc_X11_canDoAnew_98 {p : Program} {l : Launch} {e : Env} {s : State} {m : MethodId} {args : Array Value} {below : List Frame} {meth : Method} {c : Code} {D : va_G} {ca : Nat → ClassId} {A : Nat → Prop} {σ0 : cS} {α : cAl} {o : Int32 × cS} (C : cC p s m args c cX11_canDoAnew 2 RX11 D ca A α) (hr : meth.sig.returnType = (some FieldType.boolean)) (hlk : meth.locks = false) (h17 : 0 < cn σ0 17) : ∀ (σ : cS) (H : Heap) (locs : List Loc) (ls : Array Slot), cM D ca true A s.heap σ0 α σ α H locs → lv_has ls 2 [] → fc_X11_canDoAnew_98 σ = some o → W p l e rc_X11_canDoAnew s m args below meth c H locs 0 0 (MQ below (cQ false D ca true A α σ0 (fun _ => some (.int o.1)) o.2) args s 0 0 A) (F0 m 98 ls []) := by
  have hx := C.1
  have hb := C.2.1
  intro σ H locs ls hM hl h
  unfold fc_X11_canDoAnew_98 at h
  refine lv_iconst (v := (0 : Int32)) hx hb dX11_canDoAnew_98 (by decide) ?_
  exact gc_X11_canDoAnew_99 C hr hlk h17  _ _ _ _ _ hM (lv_sub hl [] rfl) h
def fc_X11_canDoAnew (σ : cS) (x1 : Option Nat) : Option (Int32 × cS) :=
  (dr σ 8 x1).bind fun i_1 =>
  (dv (cR σ 8 i_1 0)).bind fun i_2 =>
  if ¬ (¬ ((nI i_2) < 0 ∨ 15 ≤ (nI i_2).toNatClampNeg)) then none else
  if (vM.getD (nI i_2).toNatClampNeg 0) = (8 : Int32) then
    if (1 : Int32) &&& 1 = (1 : Int32) then some ((1 : Int32), σ) else none
  else
  if (vM.getD (nI i_2).toNatClampNeg 0) = (9 : Int32) then
    if (1 : Int32) &&& 1 = (1 : Int32) then some ((1 : Int32), σ) else none
  else
  if (vM.getD (nI i_2).toNatClampNeg 0) = (14 : Int32) then
    (fc_X8_has σ (cI σ 8 i_1 1)).bind fun r_3 =>
    if r_3.1 = 0 then
      fc_X11_canDoAnew_98 r_3.2
    else
      (dr r_3.2 8 x1).bind fun i_4 =>
      (fc_Jx4a65c_get_915e3 r_3.2 (some 0) (cI r_3.2 8 i_4 1) 7).bind fun r_5 =>
      if ¬ (lvq r_5.2 7 r_5.1 = true) then none else
      (dr r_5.2 7 r_5.1).bind fun i_6 =>
      (fc_X3_pickUpAsIn r_5.2 (some 0) (cR r_5.2 7 i_6 3)).bind fun r_7 =>
      if r_7.1 ≤ 0 then
        fc_X11_canDoAnew_98 r_7.2
      else
        fc_X11_canDoAnew_99 r_7.2 (1 : Int32)
  else
    (fc_X3_perform σ (some 0) x1).bind fun r_8 =>
    if r_8.1 &&& 1 = r_8.1 then some (r_8.1, r_8.2) else none
set_option maxHeartbeats 4000000 in
set_option maxRecDepth 100000 in
theorem cc_X11_canDoAnew (l : Launch) (D : va_G) (ca : Nat → ClassId) (A : Nat → Prop) (α : cAl) (σ : cS) (x1 : Option Nat) (o : Int32 × cS) (h : fc_X11_canDoAnew σ x1 = some o) : cMet false l yX11_canDoAnew cX11_canDoAnew 2 ((some FieldType.boolean)) rc_X11_canDoAnew 0 0 D ca true A α σ [cr α 0 (some 0), cr α 8 x1] (fun _ => some (.int o.1)) o.2 := by
  refine Met.ofW (cc := cX11_canDoAnew) (maxL := 2) (ret := (some FieldType.boolean)) (by decide) rfl ?_
  intro p e s m args below meth c s₁ B hml hv
  obtain ⟨rfl, hP, hK, hD0, hSh, hA, hG⟩ := hv
  have C : cC p s m _ c cX11_canDoAnew 2 RX11 D ca A α := ⟨B.exec, B.bytes, hml, findClass_of_methodNamed B.named, fun w hw => atoms_spec (ws := mWs yX11_canDoAnew cX11_canDoAnew 2 ((some FieldType.boolean))) B.pre w (List.mem_cons_of_mem _ hw), hK, hG⟩
  have hM : cM D ca true A s.heap σ α σ α s.heap [] := ⟨hP, hD0, hSh, va_S.rf, hA, cX.rf⟩
  have h17 : 0 < cn σ 17 := c_17 hM
  have hr := B.returns
  have hlk := B.notSynchronized
  have hx := C.1
  have hb := C.2.1
  have hl := lv_entry ([cr α 0 (some 0), cr α 8 x1]) (n := 2) (by simp [lg_r, lg_i, lg_l, lg_n])
  rw [lg_entry_eq]
  generalize (lg_sl ([cr α 0 (some 0), cr α 8 x1]) ++ List.replicate (2 - (lg_sl ([cr α 0 (some 0), cr α 8 x1])).length) Slot.unset).toArray = ls at hl ⊢
  have hl : lv_has ls 2 [(0, cr α 0 (some 0)), (1, cr α 8 x1)] := (lv_to hl (by simp only [la_r, la_i, la_l, la_n]))
  unfold fc_X11_canDoAnew at h
  refine c_getSM C hM fl_X11_622 dX11_canDoAnew_0 ?_
  refine c_aload_n (t := 8) (x := x1) hx hb dX11_canDoAnew_3 rfl (lv_at hl 1 rfl) ?_
  obtain ⟨i_1, hd_1, h⟩ := bd_of h
  refine c_getrt C hM (k := 8) (f := 0) (t := 18) hd_1 (by decide) fl_X11_606 dX11_canDoAnew_4 ?_
  obtain ⟨i_2, hv_2, h⟩ := bd_of h
  refine c_ordinal C hM h17 hv_2 ol_X11_627 (rest := [cr α 20 (some 1)]) (cats_le _ (Nat.le_of_ble_eq_true rfl)) (Nat.le_of_ble_eq_true rfl) (Nat.le_of_ble_eq_true rfl) ⟨Nat.le_of_ble_eq_true rfl, Nat.le_of_ble_eq_true rfl⟩ hl.1 dX11_canDoAnew_7 (fun H locs hM => ?_)
  obtain ⟨c_1, h⟩ := ko_of h
  refine c_SMat C hM (Classical.not_not.mp c_1) dX11_canDoAnew_10 ?_
  by_cases c_2 : (vM.getD (nI i_2).toNatClampNeg 0) = (8 : Int32)
  · have h := br_T c_2 h
    refine xr_int c_2 ?_
    refine lv_lookup (tgt := 44) hx hb dX11_canDoAnew_11 rfl rfl (by decide) ?_
    refine lv_iconst (v := (1 : Int32)) hx hb dX11_canDoAnew_44 (by decide) ?_
    exact c_rz C hM (fun _ => rfl) hr hlk dX11_canDoAnew_45 h
  · have h := br_F c_2 h
    by_cases c_3 : (vM.getD (nI i_2).toNatClampNeg 0) = (9 : Int32)
    · have h := br_T c_3 h
      refine xr_int c_3 ?_
      refine lv_lookup (tgt := 44) hx hb dX11_canDoAnew_11 rfl rfl (by decide) ?_
      refine lv_iconst (v := (1 : Int32)) hx hb dX11_canDoAnew_44 (by decide) ?_
      exact c_rz C hM (fun _ => rfl) hr hlk dX11_canDoAnew_45 h
    · have h := br_F c_3 h
      by_cases c_4 : (vM.getD (nI i_2).toNatClampNeg 0) = (14 : Int32)
      · have h := br_T c_4 h
        refine xr_int c_4 ?_
        refine lv_lookup (tgt := 46) hx hb dX11_canDoAnew_11 rfl rfl (by decide) ?_
        refine c_aload_n (t := 0) (x := (some 0)) hx hb dX11_canDoAnew_46 rfl (lv_at hl 0 rfl) ?_
        refine c_getb C hM (k := 0) (f := 3) (j := 0) (t := 4) (hM.cst 0 0 rfl) (by decide) fl_X11_41 dX11_canDoAnew_47 ?_
        refine c_aload_n (t := 8) (x := x1) hx hb dX11_canDoAnew_50 rfl (lv_at hl 1 rfl) ?_
        refine c_geti C hM (k := 8) (f := 1) hd_1 rfl fl_X11_609 dX11_canDoAnew_51 ?_
        obtain ⟨r_3, hr_3, h⟩ := bd_of h
        refine c_go0 (c_rV (As := [.int (cI σ 8 i_1 1)]) (rest := []) C hM h17 (hM.cst 4 0 rfl) (by decide) (cc_X8_has l D ca A α σ (cI σ 8 i_1 1) _ hr_3) cw_X11_554 ⟨rfl, rfl⟩ ⟨Nat.le_of_ble_eq_true rfl, Nat.le_of_ble_eq_true rfl⟩ rfl rfl (cats_le _ (Nat.le_of_ble_eq_true rfl)) hl.1 dX11_canDoAnew_54 ⟨Nat.le_of_ble_eq_true rfl, Nat.le_of_ble_eq_true rfl⟩) hM (fun H locs hM => ?_)
        refine W_st (st' := [.int r_3.1]) rfl ?_
        refine lv_if_eq (tgt := 98) hx hb dX11_canDoAnew_57 (by decide) (fun c_5 => ?_) (fun c_5 => ?_)
        · have h := br_T c_5 h
          exact gc_X11_canDoAnew_98 C hr hlk h17  _ _ _ _ hM (lv_sub hl [] rfl) h
        · have h := br_F c_5 h
          refine c_aload_n (t := 0) (x := (some 0)) hx hb dX11_canDoAnew_60 rfl (lv_at hl 0 rfl) ?_
          refine c_getb C hM (k := 0) (f := 2) (j := 0) (t := 3) (hM.cst 0 0 rfl) (by decide) fl_X11_34 dX11_canDoAnew_61 ?_
          refine c_aload_n (t := 0) (x := (some 0)) hx hb dX11_canDoAnew_64 rfl (lv_at hl 0 rfl) ?_
          refine c_getb C hM (k := 0) (f := 5) (j := 0) (t := 6) (hM.cst 0 0 rfl) (by decide) fl_X11_55 dX11_canDoAnew_65 ?_
          refine c_aload_n (t := 0) (x := (some 0)) hx hb dX11_canDoAnew_68 rfl (lv_at hl 0 rfl) ?_
          refine c_getb C hM (k := 0) (f := 3) (j := 0) (t := 4) (hM.cst 0 0 rfl) (by decide) fl_X11_41 dX11_canDoAnew_69 ?_
          refine c_getb C hM (k := 4) (f := 0) (j := 0) (t := 10) (hM.cst 4 0 rfl) (by decide) fl_X11_303 dX11_canDoAnew_72 ?_
          refine c_aload_n (t := 8) (x := x1) hx hb dX11_canDoAnew_75 rfl (lv_at hl 1 rfl) ?_
          obtain ⟨i_4, hd_4, h⟩ := bd_of h
          refine c_geti C hM (k := 8) (f := 1) hd_4 rfl fl_X11_609 dX11_canDoAnew_76 ?_
          obtain ⟨r_5, hr_5, h⟩ := bd_of h
          refine c_go0 (c_rV (As := [.int (cI r_3.2 8 i_4 1)]) (rest := [cr α 6 (some 0), cr α 3 (some 0)]) C hM h17 (hM.cst 10 0 rfl) (by decide) (cc_Jx4a65c_get_915e3 l D ca A α r_3.2 (some 0) (cI r_3.2 8 i_4 1) 7 _ hr_5) cw_X11_448 ⟨rfl, rfl⟩ ⟨Nat.le_of_ble_eq_true rfl, Nat.le_of_ble_eq_true rfl⟩ rfl rfl (cats_le _ (Nat.le_of_ble_eq_true rfl)) hl.1 dX11_canDoAnew_79 ⟨Nat.le_of_ble_eq_true rfl, Nat.le_of_ble_eq_true rfl⟩) hM (fun H locs hM => ?_)
          refine W_st (st' := [cr α 7 r_5.1, cr α 6 (some 0), cr α 3 (some 0)]) rfl ?_
          obtain ⟨c_6, h⟩ := ko_of h
          refine c_castk C hM (k := 7) (Classical.not_not.mp c_6) (by decide) kl_X11_2 dX11_canDoAnew_82 ?_
          obtain ⟨i_6, hd_6, h⟩ := bd_of h
          refine c_getrt C hM (k := 7) (f := 3) (t := 6) hd_6 (by decide) fl_X11_408 dX11_canDoAnew_85 ?_
          obtain ⟨r_7, hr_7, h⟩ := bd_of h
          refine c_go0 (c_rV (As := [cr α 6 (some 0), cr α 6 (cR r_5.2 7 i_6 3)]) (rest := []) C hM h17 (hM.cst 3 0 rfl) (by decide) (cc_X3_pickUpAsIn l D ca A α r_5.2 (some 0) (cR r_5.2 7 i_6 3) _ hr_7) cw_X11_463 ⟨rfl, rfl⟩ ⟨Nat.le_of_ble_eq_true rfl, Nat.le_of_ble_eq_true rfl⟩ rfl rfl (cats_le _ (Nat.le_of_ble_eq_true rfl)) hl.1 dX11_canDoAnew_88 ⟨Nat.le_of_ble_eq_true rfl, Nat.le_of_ble_eq_true rfl⟩) hM (fun H locs hM => ?_)
          refine W_st (st' := [.int r_7.1]) rfl ?_
          refine lv_if_le (tgt := 98) hx hb dX11_canDoAnew_91 (by decide) (fun c_7 => ?_) (fun c_7 => ?_)
          · have h := br_T c_7 h
            exact gc_X11_canDoAnew_98 C hr hlk h17  _ _ _ _ hM (lv_sub hl [] rfl) h
          · have h := br_F c_7 h
            refine lv_iconst (v := (1 : Int32)) hx hb dX11_canDoAnew_94 (by decide) ?_
            refine lv_goto (tgt := 99) hx hb dX11_canDoAnew_95 (by decide) ?_
            exact gc_X11_canDoAnew_99 C hr hlk h17  _ _ _ _ _ hM (lv_sub hl [] rfl) h
      · have h := br_F c_4 h
        refine lv_lookup (tgt := 100) (off := 89) hx hb dX11_canDoAnew_11 rfl ((lv_osw c_2 rfl).trans ((lv_osw c_3 rfl).trans ((lv_osw c_4 rfl).trans rfl))) (by decide) ?_
        refine c_aload_n (t := 0) (x := (some 0)) hx hb dX11_canDoAnew_100 rfl (lv_at hl 0 rfl) ?_
        refine c_getb C hM (k := 0) (f := 2) (j := 0) (t := 3) (hM.cst 0 0 rfl) (by decide) fl_X11_34 dX11_canDoAnew_101 ?_
        refine c_aload_n (t := 0) (x := (some 0)) hx hb dX11_canDoAnew_104 rfl (lv_at hl 0 rfl) ?_
        refine c_getb C hM (k := 0) (f := 5) (j := 0) (t := 6) (hM.cst 0 0 rfl) (by decide) fl_X11_55 dX11_canDoAnew_105 ?_
        refine c_aload_n (t := 8) (x := x1) hx hb dX11_canDoAnew_108 rfl (lv_at hl 1 rfl) ?_
        obtain ⟨r_8, hr_8, h⟩ := bd_of h
        refine c_go0 (c_rV (As := [cr α 6 (some 0), cr α 8 x1]) (rest := []) C hM h17 (hM.cst 3 0 rfl) (by decide) (cc_X3_perform l D ca A α σ (some 0) x1 _ hr_8) cw_X11_602 ⟨rfl, rfl⟩ ⟨Nat.le_of_ble_eq_true rfl, Nat.le_of_ble_eq_true rfl⟩ rfl rfl (cats_le _ (Nat.le_of_ble_eq_true rfl)) hl.1 dX11_canDoAnew_109 ⟨Nat.le_of_ble_eq_true rfl, Nat.le_of_ble_eq_true rfl⟩) hM (fun H locs hM => ?_)
        refine W_st (st' := [.int r_8.1]) rfl ?_
        exact c_rz C hM (fun _ => rfl) hr hlk dX11_canDoAnew_112 h
/-! Lorewick.isSameAnew(LLorewick$Node;)Z -/
abbrev rc_X11_isSameAnew : Room := { frames := 6, cells := 0, slots := 0, locals := 137 }
def fc_X11_isSameAnew_76 (σ : cS) : Option (Int32 × cS) :=
    if (0 : Int32) &&& 1 = (0 : Int32) then some ((0 : Int32), σ) else none
set_option maxHeartbeats 4000000 in
set_option maxRecDepth 100000 in
theorem gc_X11_isSameAnew_76 {p : Program} {l : Launch} {e : Env} {s : State} {m : MethodId} {args : Array Value} {below : List Frame} {meth : Method} {c : Code} {D : va_G} {ca : Nat → ClassId} {A : Nat → Prop} {σ0 : cS} {α : cAl} {o : Int32 × cS} (C : cC p s m args c cX11_isSameAnew 2 RX11 D ca A α) (hr : meth.sig.returnType = (some FieldType.boolean)) (hlk : meth.locks = false) (h17 : 0 < cn σ0 17) : ∀ (σ : cS) (H : Heap) (locs : List Loc) (ls : Array Slot), cM D ca true A s.heap σ0 α σ α H locs → lv_has ls 2 [] → fc_X11_isSameAnew_76 σ = some o → W p l e rc_X11_isSameAnew s m args below meth c H locs 0 0 (MQ below (cQ false D ca true A α σ0 (fun _ => some (.int o.1)) o.2) args s 0 0 A) (F0 m 76 ls []) := by
  have hx := C.1
  have hb := C.2.1
  intro σ H locs ls hM hl h
  unfold fc_X11_isSameAnew_76 at h
  refine lv_iconst (v := (0 : Int32)) hx hb dX11_isSameAnew_76 (by decide) ?_
  exact c_rz C hM (fun _ => rfl) hr hlk dX11_isSameAnew_77 h
def fc_X11_isSameAnew (σ : cS) (x1 : Option Nat) : Option (Int32 × cS) :=
  (dr σ 7 x1).bind fun i_1 =>
  if (cR σ 7 i_1 1) = none then
    (dr σ 8 (cR σ 7 i_1 2)).bind fun i_11 =>
    (fc_X3_setUp σ (some 0) (cI σ 8 i_11 1)).bind fun r_12 =>
    (dr r_12 7 x1).bind fun i_13 =>
    (fc_X6_isLike r_12 (some 0) (cR r_12 7 i_13 3)).bind fun r_14 =>
    if r_14.1 &&& 1 = r_14.1 then some (r_14.1, r_14.2) else none
  else
    (dr σ 7 (cR σ 7 i_1 1)).bind fun i_2 =>
    (fc_X6_copy σ (some 0) (cR σ 7 i_2 3)).bind fun r_3 =>
    (dr r_3 7 x1).bind fun i_4 =>
    (fc_X11_usesKnownWords r_3 (cR r_3 7 i_4 2) (cR r_3 7 i_4 1)).bind fun r_5 =>
    if r_5.1 = 0 then
      fc_X11_isSameAnew_76 r_5.2
    else
      (dr r_5.2 7 x1).bind fun i_6 =>
      (fc_X11_canDoAnew r_5.2 (cR r_5.2 7 i_6 2)).bind fun r_7 =>
      if r_7.1 = 0 then
        fc_X11_isSameAnew_76 r_7.2
      else
        (fc_X3_burn r_7.2 (some 0)).bind fun r_8 =>
        (dr r_8 7 x1).bind fun i_9 =>
        (fc_X6_isLike r_8 (some 0) (cR r_8 7 i_9 3)).bind fun r_10 =>
        if r_10.1 &&& 1 = r_10.1 then some (r_10.1, r_10.2) else none
set_option maxHeartbeats 4000000 in
set_option maxRecDepth 100000 in
theorem cc_X11_isSameAnew (l : Launch) (D : va_G) (ca : Nat → ClassId) (A : Nat → Prop) (α : cAl) (σ : cS) (x1 : Option Nat) (o : Int32 × cS) (h : fc_X11_isSameAnew σ x1 = some o) : cMet false l yX11_isSameAnew cX11_isSameAnew 2 ((some FieldType.boolean)) rc_X11_isSameAnew 0 0 D ca true A α σ [cr α 0 (some 0), cr α 7 x1] (fun _ => some (.int o.1)) o.2 := by
  refine Met.ofW (cc := cX11_isSameAnew) (maxL := 2) (ret := (some FieldType.boolean)) (by decide) rfl ?_
  intro p e s m args below meth c s₁ B hml hv
  obtain ⟨rfl, hP, hK, hD0, hSh, hA, hG⟩ := hv
  have C : cC p s m _ c cX11_isSameAnew 2 RX11 D ca A α := ⟨B.exec, B.bytes, hml, findClass_of_methodNamed B.named, fun w hw => atoms_spec (ws := mWs yX11_isSameAnew cX11_isSameAnew 2 ((some FieldType.boolean))) B.pre w (List.mem_cons_of_mem _ hw), hK, hG⟩
  have hM : cM D ca true A s.heap σ α σ α s.heap [] := ⟨hP, hD0, hSh, va_S.rf, hA, cX.rf⟩
  have h17 : 0 < cn σ 17 := c_17 hM
  have hr := B.returns
  have hlk := B.notSynchronized
  have hx := C.1
  have hb := C.2.1
  have hl := lv_entry ([cr α 0 (some 0), cr α 7 x1]) (n := 2) (by simp [lg_r, lg_i, lg_l, lg_n])
  rw [lg_entry_eq]
  generalize (lg_sl ([cr α 0 (some 0), cr α 7 x1]) ++ List.replicate (2 - (lg_sl ([cr α 0 (some 0), cr α 7 x1])).length) Slot.unset).toArray = ls at hl ⊢
  have hl : lv_has ls 2 [(0, cr α 0 (some 0)), (1, cr α 7 x1)] := (lv_to hl (by simp only [la_r, la_i, la_l, la_n]))
  unfold fc_X11_isSameAnew at h
  refine c_aload_n (t := 7) (x := x1) hx hb dX11_isSameAnew_0 rfl (lv_at hl 1 rfl) ?_
  obtain ⟨i_1, hd_1, h⟩ := bd_of h
  refine c_getrt C hM (k := 7) (f := 1) (t := 7) hd_1 (by decide) fl_X11_316 dX11_isSameAnew_1 ?_
  refine c_ifnonnull (tgt := 37) hx hb dX11_isSameAnew_4 (by decide) (fun c_1 => ?_) (fun c_1 => ?_)
  · have h := br_F c_1 h
    refine c_aload_n (t := 0) (x := (some 0)) hx hb dX11_isSameAnew_37 rfl (lv_at hl 0 rfl) ?_
    refine c_getb C hM (k := 0) (f := 5) (j := 0) (t := 6) (hM.cst 0 0 rfl) (by decide) fl_X11_55 dX11_isSameAnew_38 ?_
    refine c_aload_n (t := 7) (x := x1) hx hb dX11_isSameAnew_41 rfl (lv_at hl 1 rfl) ?_
    refine c_getrt C hM (k := 7) (f := 1) (t := 7) hd_1 (by decide) fl_X11_316 dX11_isSameAnew_42 ?_
    obtain ⟨i_2, hd_2, h⟩ := bd_of h
    refine c_getrt C hM (k := 7) (f := 3) (t := 6) hd_2 (by decide) fl_X11_408 dX11_isSameAnew_45 ?_
    obtain ⟨r_3, hr_3, h⟩ := bd_of h
    refine c_go0 (c_rV (As := [cr α 6 (cR σ 7 i_2 3)]) (rest := []) C hM h17 (hM.cst 6 0 rfl) (by decide) (cc_X6_copy l D ca A α σ (some 0) (cR σ 7 i_2 3) _ hr_3) cw_X11_411 ⟨rfl, rfl⟩ ⟨Nat.le_of_ble_eq_true rfl, Nat.le_of_ble_eq_true rfl⟩ rfl rfl (cats_le _ (Nat.le_of_ble_eq_true rfl)) hl.1 dX11_isSameAnew_48 ⟨Nat.le_of_ble_eq_true rfl, Nat.le_of_ble_eq_true rfl⟩) hM (fun H locs hM => ?_)
    refine W_st (st' := []) rfl ?_
    refine c_aload_n (t := 7) (x := x1) hx hb dX11_isSameAnew_51 rfl (lv_at hl 1 rfl) ?_
    obtain ⟨i_4, hd_4, h⟩ := bd_of h
    refine c_getrt C hM (k := 7) (f := 2) (t := 8) hd_4 (by decide) fl_X11_633 dX11_isSameAnew_52 ?_
    refine c_aload_n (t := 7) (x := x1) hx hb dX11_isSameAnew_55 rfl (lv_at hl 1 rfl) ?_
    refine c_getrt C hM (k := 7) (f := 1) (t := 7) hd_4 (by decide) fl_X11_316 dX11_isSameAnew_56 ?_
    obtain ⟨r_5, hr_5, h⟩ := bd_of h
    refine c_go0 (c_rS (As := [cr α 8 (cR r_3 7 i_4 2), cr α 7 (cR r_3 7 i_4 1)]) (rest := []) C hM h17 (cc_X11_usesKnownWords l D ca A α r_3 (cR r_3 7 i_4 2) (cR r_3 7 i_4 1) _ hr_5) cw_X11_598 ⟨rfl, rfl⟩ ⟨Nat.le_of_ble_eq_true rfl, Nat.le_of_ble_eq_true rfl⟩ rfl rfl (cats_le _ (Nat.le_of_ble_eq_true rfl)) hl.1 dX11_isSameAnew_59 ⟨Nat.le_of_ble_eq_true rfl, Nat.le_of_ble_eq_true rfl⟩) hM (fun H locs hM => ?_)
    refine W_st (st' := [.int r_5.1]) rfl ?_
    refine lv_if_eq (tgt := 76) hx hb dX11_isSameAnew_62 (by decide) (fun c_2 => ?_) (fun c_2 => ?_)
    · have h := br_T c_2 h
      exact gc_X11_isSameAnew_76 C hr hlk h17  _ _ _ _ hM (lv_sub hl [] rfl) h
    · have h := br_F c_2 h
      refine c_aload_n (t := 0) (x := (some 0)) hx hb dX11_isSameAnew_65 rfl (lv_at hl 0 rfl) ?_
      refine c_aload_n (t := 7) (x := x1) hx hb dX11_isSameAnew_66 rfl (lv_at hl 1 rfl) ?_
      obtain ⟨i_6, hd_6, h⟩ := bd_of h
      refine c_getrt C hM (k := 7) (f := 2) (t := 8) hd_6 (by decide) fl_X11_633 dX11_isSameAnew_67 ?_
      obtain ⟨r_7, hr_7, h⟩ := bd_of h
      refine c_go0 (c_rV (As := [cr α 8 (cR r_5.2 7 i_6 2)]) (rest := []) C hM h17 (hM.cst 0 0 rfl) (by decide) (cc_X11_canDoAnew l D ca A α r_5.2 (cR r_5.2 7 i_6 2) _ hr_7) cw_X11_659 ⟨rfl, rfl⟩ ⟨Nat.le_of_ble_eq_true rfl, Nat.le_of_ble_eq_true rfl⟩ rfl rfl (cats_le _ (Nat.le_of_ble_eq_true rfl)) hl.1 dX11_isSameAnew_70 ⟨Nat.le_of_ble_eq_true rfl, Nat.le_of_ble_eq_true rfl⟩) hM (fun H locs hM => ?_)
      refine W_st (st' := [.int r_7.1]) rfl ?_
      refine lv_if_ne (tgt := 78) hx hb dX11_isSameAnew_73 (by decide) (fun c_3 => ?_) (fun c_3 => ?_)
      · have h := br_F c_3 h
        refine c_aload_n (t := 0) (x := (some 0)) hx hb dX11_isSameAnew_78 rfl (lv_at hl 0 rfl) ?_
        refine c_getb C hM (k := 0) (f := 2) (j := 0) (t := 3) (hM.cst 0 0 rfl) (by decide) fl_X11_34 dX11_isSameAnew_79 ?_
        refine c_aload_n (t := 0) (x := (some 0)) hx hb dX11_isSameAnew_82 rfl (lv_at hl 0 rfl) ?_
        refine c_getb C hM (k := 0) (f := 5) (j := 0) (t := 6) (hM.cst 0 0 rfl) (by decide) fl_X11_55 dX11_isSameAnew_83 ?_
        obtain ⟨r_8, hr_8, h⟩ := bd_of h
        refine c_go0 (c_rV (As := [cr α 6 (some 0)]) (rest := []) C hM h17 (hM.cst 3 0 rfl) (by decide) (cc_X3_burn l D ca A α r_7.2 (some 0) _ hr_8) cw_X11_615 ⟨rfl, rfl⟩ ⟨Nat.le_of_ble_eq_true rfl, Nat.le_of_ble_eq_true rfl⟩ rfl rfl (cats_le _ (Nat.le_of_ble_eq_true rfl)) hl.1 dX11_isSameAnew_86 ⟨Nat.le_of_ble_eq_true rfl, Nat.le_of_ble_eq_true rfl⟩) hM (fun H locs hM => ?_)
        refine W_st (st' := []) rfl ?_
        refine c_aload_n (t := 0) (x := (some 0)) hx hb dX11_isSameAnew_89 rfl (lv_at hl 0 rfl) ?_
        refine c_getb C hM (k := 0) (f := 5) (j := 0) (t := 6) (hM.cst 0 0 rfl) (by decide) fl_X11_55 dX11_isSameAnew_90 ?_
        refine c_aload_n (t := 7) (x := x1) hx hb dX11_isSameAnew_93 rfl (lv_at hl 1 rfl) ?_
        obtain ⟨i_9, hd_9, h⟩ := bd_of h
        refine c_getrt C hM (k := 7) (f := 3) (t := 6) hd_9 (by decide) fl_X11_408 dX11_isSameAnew_94 ?_
        obtain ⟨r_10, hr_10, h⟩ := bd_of h
        refine c_go0 (c_rV (As := [cr α 6 (cR r_8 7 i_9 3)]) (rest := []) C hM h17 (hM.cst 6 0 rfl) (by decide) (cc_X6_isLike l D ca A α r_8 (some 0) (cR r_8 7 i_9 3) _ hr_10) cw_X11_656 ⟨rfl, rfl⟩ ⟨Nat.le_of_ble_eq_true rfl, Nat.le_of_ble_eq_true rfl⟩ rfl rfl (cats_le _ (Nat.le_of_ble_eq_true rfl)) hl.1 dX11_isSameAnew_97 ⟨Nat.le_of_ble_eq_true rfl, Nat.le_of_ble_eq_true rfl⟩) hM (fun H locs hM => ?_)
        refine W_st (st' := [.int r_10.1]) rfl ?_
        exact c_rz C hM (fun _ => rfl) hr hlk dX11_isSameAnew_100 h
      · have h := br_T c_3 h
        exact gc_X11_isSameAnew_76 C hr hlk h17  _ _ _ _ hM (lv_sub hl [] rfl) h
  · have h := br_T c_1 h
    refine c_aload_n (t := 0) (x := (some 0)) hx hb dX11_isSameAnew_7 rfl (lv_at hl 0 rfl) ?_
    refine c_getb C hM (k := 0) (f := 2) (j := 0) (t := 3) (hM.cst 0 0 rfl) (by decide) fl_X11_34 dX11_isSameAnew_8 ?_
    refine c_aload_n (t := 0) (x := (some 0)) hx hb dX11_isSameAnew_11 rfl (lv_at hl 0 rfl) ?_
    refine c_getb C hM (k := 0) (f := 5) (j := 0) (t := 6) (hM.cst 0 0 rfl) (by decide) fl_X11_55 dX11_isSameAnew_12 ?_
    refine c_aload_n (t := 7) (x := x1) hx hb dX11_isSameAnew_15 rfl (lv_at hl 1 rfl) ?_
    refine c_getrt C hM (k := 7) (f := 2) (t := 8) hd_1 (by decide) fl_X11_633 dX11_isSameAnew_16 ?_
    obtain ⟨i_11, hd_11, h⟩ := bd_of h
    refine c_geti C hM (k := 8) (f := 1) hd_11 rfl fl_X11_609 dX11_isSameAnew_19 ?_
    obtain ⟨r_12, hr_12, h⟩ := bd_of h
    refine c_go0 (c_rV (As := [cr α 6 (some 0), .int (cI σ 8 i_11 1)]) (rest := []) C hM h17 (hM.cst 3 0 rfl) (by decide) (cc_X3_setUp l D ca A α σ (some 0) (cI σ 8 i_11 1) _ hr_12) cw_X11_234 ⟨rfl, rfl⟩ ⟨Nat.le_of_ble_eq_true rfl, Nat.le_of_ble_eq_true rfl⟩ rfl rfl (cats_le _ (Nat.le_of_ble_eq_true rfl)) hl.1 dX11_isSameAnew_22 ⟨Nat.le_of_ble_eq_true rfl, Nat.le_of_ble_eq_true rfl⟩) hM (fun H locs hM => ?_)
    refine W_st (st' := []) rfl ?_
    refine c_aload_n (t := 0) (x := (some 0)) hx hb dX11_isSameAnew_25 rfl (lv_at hl 0 rfl) ?_
    refine c_getb C hM (k := 0) (f := 5) (j := 0) (t := 6) (hM.cst 0 0 rfl) (by decide) fl_X11_55 dX11_isSameAnew_26 ?_
    refine c_aload_n (t := 7) (x := x1) hx hb dX11_isSameAnew_29 rfl (lv_at hl 1 rfl) ?_
    obtain ⟨i_13, hd_13, h⟩ := bd_of h
    refine c_getrt C hM (k := 7) (f := 3) (t := 6) hd_13 (by decide) fl_X11_408 dX11_isSameAnew_30 ?_
    obtain ⟨r_14, hr_14, h⟩ := bd_of h
    refine c_go0 (c_rV (As := [cr α 6 (cR r_12 7 i_13 3)]) (rest := []) C hM h17 (hM.cst 6 0 rfl) (by decide) (cc_X6_isLike l D ca A α r_12 (some 0) (cR r_12 7 i_13 3) _ hr_14) cw_X11_656 ⟨rfl, rfl⟩ ⟨Nat.le_of_ble_eq_true rfl, Nat.le_of_ble_eq_true rfl⟩ rfl rfl (cats_le _ (Nat.le_of_ble_eq_true rfl)) hl.1 dX11_isSameAnew_33 ⟨Nat.le_of_ble_eq_true rfl, Nat.le_of_ble_eq_true rfl⟩) hM (fun H locs hM => ?_)
    refine W_st (st' := [.int r_14.1]) rfl ?_
    exact c_rz C hM (fun _ => rfl) hr hlk dX11_isSameAnew_36 h
/-! Lorewick.isSound()Z -/
abbrev rc_X11_isSound : Room := { frames := 7, cells := 0, slots := 0, locals := 158 }
def fc_X11_isSound_88 (σ : cS) (s0 : Int32) : Option (Int32 × cS) :=
    if s0 &&& 1 = s0 then some (s0, σ) else none
set_option maxHeartbeats 4000000 in
set_option maxRecDepth 100000 in
theorem gc_X11_isSound_88 {p : Program} {l : Launch} {e : Env} {s : State} {m : MethodId} {args : Array Value} {below : List Frame} {meth : Method} {c : Code} {D : va_G} {ca : Nat → ClassId} {A : Nat → Prop} {σ0 : cS} {α : cAl} {o : Int32 × cS} (C : cC p s m args c cX11_isSound 2 RX11 D ca A α) (hr : meth.sig.returnType = (some FieldType.boolean)) (hlk : meth.locks = false) (h17 : 0 < cn σ0 17) : ∀ (σ : cS) (s0 : Int32) (H : Heap) (locs : List Loc) (ls : Array Slot), cM D ca true A s.heap σ0 α σ α H locs → lv_has ls 2 [] → fc_X11_isSound_88 σ s0 = some o → W p l e rc_X11_isSound s m args below meth c H locs 0 0 (MQ below (cQ false D ca true A α σ0 (fun _ => some (.int o.1)) o.2) args s 0 0 A) (F0 m 88 ls [.int s0]) := by
  have hx := C.1
  have hb := C.2.1
  intro σ s0 H locs ls hM hl h
  unfold fc_X11_isSound_88 at h
  exact c_rz C hM (fun _ => rfl) hr hlk dX11_isSound_88 h
def fc_X11_isSound_87 (σ : cS) : Option (Int32 × cS) :=
    fc_X11_isSound_88 σ (0 : Int32)
set_option maxHeartbeats 4000000 in
set_option maxRecDepth 100000 in
theorem gc_X11_isSound_87 {p : Program} {l : Launch} {e : Env} {s : State} {m : MethodId} {args : Array Value} {below : List Frame} {meth : Method} {c : Code} {D : va_G} {ca : Nat → ClassId} {A : Nat → Prop} {σ0 : cS} {α : cAl} {o : Int32 × cS} (C : cC p s m args c cX11_isSound 2 RX11 D ca A α) (hr : meth.sig.returnType = (some FieldType.boolean)) (hlk : meth.locks = false) (h17 : 0 < cn σ0 17) : ∀ (σ : cS) (H : Heap) (locs : List Loc) (ls : Array Slot), cM D ca true A s.heap σ0 α σ α H locs → lv_has ls 2 [] → fc_X11_isSound_87 σ = some o → W p l e rc_X11_isSound s m args below meth c H locs 0 0 (MQ below (cQ false D ca true A α σ0 (fun _ => some (.int o.1)) o.2) args s 0 0 A) (F0 m 87 ls []) := by
  have hx := C.1
  have hb := C.2.1
  intro σ H locs ls hM hl h
  unfold fc_X11_isSound_87 at h
  refine lv_iconst (v := (0 : Int32)) hx hb dX11_isSound_87 (by decide) ?_
  exact gc_X11_isSound_88 C hr hlk h17  _ _ _ _ _ hM (lv_sub hl [] rfl) h
def fc_X11_isSound_2 : Nat → cS → Int32 → Option (Int32 × cS)
  | 0, _, _ => none
  | n + 1, σ, x1 =>
    (fc_Jx4a65c_size_8abf5 σ (some 0)).bind fun r_1 =>
    if r_1.1 ≤ x1 then
      (fc_X5_isAnySoldTwice r_1.2).bind fun r_2 =>
      if r_2.1 = 0 then
        (fc_X5_paid r_2.2).bind fun r_3 =>
        if (r_3.1 + (cI r_3.2 5 0 4)) = ((100 : Int32) + (cI r_3.2 5 0 5)) then
          fc_X11_isSound_88 r_3.2 (1 : Int32)
        else
          fc_X11_isSound_87 r_3.2
      else
        fc_X11_isSound_87 r_2.2
    else
      (fc_Jx4a65c_get_915e3 r_1.2 (some 0) x1 7).bind fun r_4 =>
      if ¬ (lvq r_4.2 7 r_4.1 = true) then none else
      (fc_X11_isSameAnew r_4.2 r_4.1).bind fun r_5 =>
      if r_5.1 = 0 then
        if (0 : Int32) &&& 1 = (0 : Int32) then some ((0 : Int32), r_5.2) else none
      else
        (fc_X11_isSound_2 n) r_5.2 (x1 + (1 : Int32))
set_option maxHeartbeats 4000000 in
set_option maxRecDepth 100000 in
theorem gc_X11_isSound_2 {p : Program} {l : Launch} {e : Env} {s : State} {m : MethodId} {args : Array Value} {below : List Frame} {meth : Method} {c : Code} {D : va_G} {ca : Nat → ClassId} {A : Nat → Prop} {σ0 : cS} {α : cAl} {o : Int32 × cS} (C : cC p s m args c cX11_isSound 2 RX11 D ca A α) (hr : meth.sig.returnType = (some FieldType.boolean)) (hlk : meth.locks = false) (h17 : 0 < cn σ0 17) : ∀ (n : Nat) (σ : cS) (x1 : Int32) (H : Heap) (locs : List Loc) (ls : Array Slot), cM D ca true A s.heap σ0 α σ α H locs → lv_has ls 2 [(0, cr α 0 (some 0)), (1, .int x1)] → fc_X11_isSound_2 n σ x1 = some o → W p l e rc_X11_isSound s m args below meth c H locs 0 0 (MQ below (cQ false D ca true A α σ0 (fun _ => some (.int o.1)) o.2) args s 0 0 A) (F0 m 2 ls []) := by
  have hx := C.1
  have hb := C.2.1
  intro n
  induction n with
  | zero =>
    intro σ x1 H locs ls hM hl h
    cases h
  | succ n ih =>
    intro σ x1 H locs ls hM hl h
    rw [fc_X11_isSound_2] at h
    refine lv_iload_n hx hb dX11_isSound_2 rfl (lv_at hl 1 rfl) ?_
    refine c_aload_n (t := 0) (x := (some 0)) hx hb dX11_isSound_3 rfl (lv_at hl 0 rfl) ?_
    refine c_getb C hM (k := 0) (f := 3) (j := 0) (t := 4) (hM.cst 0 0 rfl) (by decide) fl_X11_41 dX11_isSound_4 ?_
    refine c_getb C hM (k := 4) (f := 0) (j := 0) (t := 10) (hM.cst 4 0 rfl) (by decide) fl_X11_303 dX11_isSound_7 ?_
    obtain ⟨r_1, hr_1, h⟩ := bd_of h
    refine c_go0 (c_rV (As := []) (rest := [.int x1]) C hM h17 (hM.cst 10 0 rfl) (by decide) (cc_Jx4a65c_size_8abf5 l D ca A α σ (some 0) _ hr_1) cw_X11_307 ⟨rfl, rfl⟩ ⟨Nat.le_of_ble_eq_true rfl, Nat.le_of_ble_eq_true rfl⟩ rfl rfl (cats_le _ (Nat.le_of_ble_eq_true rfl)) hl.1 dX11_isSound_10 ⟨Nat.le_of_ble_eq_true rfl, Nat.le_of_ble_eq_true rfl⟩) hM (fun H locs hM => ?_)
    refine W_st (st' := [.int r_1.1, .int x1]) rfl ?_
    refine lv_icmp_ge (tgt := 45) hx hb dX11_isSound_13 (by decide) (fun c_1 => ?_) (fun c_1 => ?_)
    · have h := br_T c_1 h
      refine c_aload_n (t := 0) (x := (some 0)) hx hb dX11_isSound_45 rfl (lv_at hl 0 rfl) ?_
      refine c_getb C hM (k := 0) (f := 4) (j := 0) (t := 5) (hM.cst 0 0 rfl) (by decide) fl_X11_48 dX11_isSound_46 ?_
      obtain ⟨r_2, hr_2, h⟩ := bd_of h
      refine c_go0 (c_rV (As := []) (rest := []) C hM h17 (hM.cst 5 0 rfl) (by decide) (cc_X5_isAnySoldTwice l D ca A α r_1.2 _ hr_2) cw_X11_511 ⟨rfl, rfl⟩ ⟨Nat.le_of_ble_eq_true rfl, Nat.le_of_ble_eq_true rfl⟩ rfl rfl (cats_le _ (Nat.le_of_ble_eq_true rfl)) hl.1 dX11_isSound_49 ⟨Nat.le_of_ble_eq_true rfl, Nat.le_of_ble_eq_true rfl⟩) hM (fun H locs hM => ?_)
      refine W_st (st' := [.int r_2.1]) rfl ?_
      refine lv_if_ne (tgt := 87) hx hb dX11_isSound_52 (by decide) (fun c_2 => ?_) (fun c_2 => ?_)
      · have h := br_F c_2 h
        exact gc_X11_isSound_87 C hr hlk h17  _ _ _ _ hM (lv_sub hl [] rfl) h
      · have h := br_T c_2 h
        refine c_aload_n (t := 0) (x := (some 0)) hx hb dX11_isSound_55 rfl (lv_at hl 0 rfl) ?_
        refine c_getb C hM (k := 0) (f := 4) (j := 0) (t := 5) (hM.cst 0 0 rfl) (by decide) fl_X11_48 dX11_isSound_56 ?_
        obtain ⟨r_3, hr_3, h⟩ := bd_of h
        refine c_go0 (c_rV (As := []) (rest := []) C hM h17 (hM.cst 5 0 rfl) (by decide) (cc_X5_paid l D ca A α r_2.2 _ hr_3) cw_X11_505 ⟨rfl, rfl⟩ ⟨Nat.le_of_ble_eq_true rfl, Nat.le_of_ble_eq_true rfl⟩ rfl rfl (cats_le _ (Nat.le_of_ble_eq_true rfl)) hl.1 dX11_isSound_59 ⟨Nat.le_of_ble_eq_true rfl, Nat.le_of_ble_eq_true rfl⟩) hM (fun H locs hM => ?_)
        refine W_st (st' := [.int r_3.1]) rfl ?_
        refine c_aload_n (t := 0) (x := (some 0)) hx hb dX11_isSound_62 rfl (lv_at hl 0 rfl) ?_
        refine c_getb C hM (k := 0) (f := 4) (j := 0) (t := 5) (hM.cst 0 0 rfl) (by decide) fl_X11_48 dX11_isSound_63 ?_
        refine c_geti C hM (k := 5) (f := 4) (hM.cst 5 0 rfl) rfl fl_X11_403 dX11_isSound_66 ?_
        refine lv_iadd hx hb dX11_isSound_69 ?_
        refine lv_bipush (v := (100 : Int32)) hx hb dX11_isSound_70 (by decide) ?_
        refine c_aload_n (t := 0) (x := (some 0)) hx hb dX11_isSound_72 rfl (lv_at hl 0 rfl) ?_
        refine c_getb C hM (k := 0) (f := 4) (j := 0) (t := 5) (hM.cst 0 0 rfl) (by decide) fl_X11_48 dX11_isSound_73 ?_
        refine c_geti C hM (k := 5) (f := 5) (hM.cst 5 0 rfl) rfl fl_X11_440 dX11_isSound_76 ?_
        refine lv_iadd hx hb dX11_isSound_79 ?_
        refine lv_icmp_ne (tgt := 87) hx hb dX11_isSound_80 (by decide) (fun c_3 => ?_) (fun c_3 => ?_)
        · have h := br_F c_3 h
          exact gc_X11_isSound_87 C hr hlk h17  _ _ _ _ hM (lv_sub hl [] rfl) h
        · have h := br_T c_3 h
          refine lv_iconst (v := (1 : Int32)) hx hb dX11_isSound_83 (by decide) ?_
          refine lv_goto (tgt := 88) hx hb dX11_isSound_84 (by decide) ?_
          exact gc_X11_isSound_88 C hr hlk h17  _ _ _ _ _ hM (lv_sub hl [] rfl) h
    · have h := br_F c_1 h
      refine c_aload_n (t := 0) (x := (some 0)) hx hb dX11_isSound_16 rfl (lv_at hl 0 rfl) ?_
      refine c_aload_n (t := 0) (x := (some 0)) hx hb dX11_isSound_17 rfl (lv_at hl 0 rfl) ?_
      refine c_getb C hM (k := 0) (f := 3) (j := 0) (t := 4) (hM.cst 0 0 rfl) (by decide) fl_X11_41 dX11_isSound_18 ?_
      refine c_getb C hM (k := 4) (f := 0) (j := 0) (t := 10) (hM.cst 4 0 rfl) (by decide) fl_X11_303 dX11_isSound_21 ?_
      refine lv_iload_n hx hb dX11_isSound_24 rfl (lv_at hl 1 rfl) ?_
      obtain ⟨r_4, hr_4, h⟩ := bd_of h
      refine c_go0 (c_rV (As := [.int x1]) (rest := [cr α 0 (some 0)]) C hM h17 (hM.cst 10 0 rfl) (by decide) (cc_Jx4a65c_get_915e3 l D ca A α r_1.2 (some 0) x1 7 _ hr_4) cw_X11_448 ⟨rfl, rfl⟩ ⟨Nat.le_of_ble_eq_true rfl, Nat.le_of_ble_eq_true rfl⟩ rfl rfl (cats_le _ (Nat.le_of_ble_eq_true rfl)) hl.1 dX11_isSound_25 ⟨Nat.le_of_ble_eq_true rfl, Nat.le_of_ble_eq_true rfl⟩) hM (fun H locs hM => ?_)
      refine W_st (st' := [cr α 7 r_4.1, cr α 0 (some 0)]) rfl ?_
      obtain ⟨c_4, h⟩ := ko_of h
      refine c_castk C hM (k := 7) (Classical.not_not.mp c_4) (by decide) kl_X11_2 dX11_isSound_28 ?_
      obtain ⟨r_5, hr_5, h⟩ := bd_of h
      refine c_go0 (c_rV (As := [cr α 7 r_4.1]) (rest := []) C hM h17 (hM.cst 0 0 rfl) (by decide) (cc_X11_isSameAnew l D ca A α r_4.2 r_4.1 _ hr_5) cw_X11_508 ⟨rfl, rfl⟩ ⟨Nat.le_of_ble_eq_true rfl, Nat.le_of_ble_eq_true rfl⟩ rfl rfl (cats_le _ (Nat.le_of_ble_eq_true rfl)) hl.1 dX11_isSound_31 ⟨Nat.le_of_ble_eq_true rfl, Nat.le_of_ble_eq_true rfl⟩) hM (fun H locs hM => ?_)
      refine W_st (st' := [.int r_5.1]) rfl ?_
      refine lv_if_ne (tgt := 39) hx hb dX11_isSound_34 (by decide) (fun c_5 => ?_) (fun c_5 => ?_)
      · have h := br_F c_5 h
        refine lv_iinc (v := (x1 + (1 : Int32))) (lv' := [(1, .int (x1 + (1 : Int32))), (0, cr α 0 (some 0))]) hx hb dX11_isSound_39 hl (k := 1) rfl rfl (by decide) rfl (fun ls hl => ?_)
        refine lv_goto (tgt := 2) hx hb dX11_isSound_42 (by decide) ?_
        exact ih _ _ _ _ _ hM (lv_sub hl [1, 0] rfl) h
      · have h := br_T c_5 h
        refine lv_iconst (v := (0 : Int32)) hx hb dX11_isSound_37 (by decide) ?_
        exact c_rz C hM (fun _ => rfl) hr hlk dX11_isSound_38 h
def fc_X11_isSound (σ : cS) : Option (Int32 × cS) :=
  fc_X11_isSound_2 3000 σ (0 : Int32)
set_option maxHeartbeats 4000000 in
set_option maxRecDepth 100000 in
theorem cc_X11_isSound (l : Launch) (D : va_G) (ca : Nat → ClassId) (A : Nat → Prop) (α : cAl) (σ : cS) (o : Int32 × cS) (h : fc_X11_isSound σ  = some o) : cMet false l yX11_isSound cX11_isSound 2 ((some FieldType.boolean)) rc_X11_isSound 0 0 D ca true A α σ [cr α 0 (some 0)] (fun _ => some (.int o.1)) o.2 := by
  refine Met.ofW (cc := cX11_isSound) (maxL := 2) (ret := (some FieldType.boolean)) (by decide) rfl ?_
  intro p e s m args below meth c s₁ B hml hv
  obtain ⟨rfl, hP, hK, hD0, hSh, hA, hG⟩ := hv
  have C : cC p s m _ c cX11_isSound 2 RX11 D ca A α := ⟨B.exec, B.bytes, hml, findClass_of_methodNamed B.named, fun w hw => atoms_spec (ws := mWs yX11_isSound cX11_isSound 2 ((some FieldType.boolean))) B.pre w (List.mem_cons_of_mem _ hw), hK, hG⟩
  have hM : cM D ca true A s.heap σ α σ α s.heap [] := ⟨hP, hD0, hSh, va_S.rf, hA, cX.rf⟩
  have h17 : 0 < cn σ 17 := c_17 hM
  have hr := B.returns
  have hlk := B.notSynchronized
  have hx := C.1
  have hb := C.2.1
  have hl := lv_entry ([cr α 0 (some 0)]) (n := 2) (Nat.le_of_ble_eq_true rfl)
  rw [lg_entry_eq]
  generalize (lg_sl ([cr α 0 (some 0)]) ++ List.replicate (2 - (lg_sl ([cr α 0 (some 0)])).length) Slot.unset).toArray = ls at hl ⊢
  have hl : lv_has ls 2 [(0, cr α 0 (some 0))] := hl
  unfold fc_X11_isSound at h
  refine lv_iconst (v := (0 : Int32)) hx hb dX11_isSound_0 (by decide) ?_
  refine lv_istore_n (lv' := [(1, .int (0 : Int32)), (0, cr α 0 (some 0))]) hx hb dX11_isSound_1 rfl hl (by decide) rfl (fun ls hl => ?_)
  exact gc_X11_isSound_2 C hr hlk h17  _ _ _ _ _ _ hM (lv_sub hl [1, 0] rfl) h
