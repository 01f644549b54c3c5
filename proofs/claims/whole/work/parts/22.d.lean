/-! The law's own methods: contracts. -/
theorem cwv_type : cCallV RV 7 (cRn 0) yX11_type cX11_type 2 ((some FieldType.int)) 1 := ⟨⟨wl_in (i := 521) (by decide +kernel), wl_in (i := 522) (by decide +kernel), wl_in (i := 523) (by decide +kernel), wl_in (i := 1) (by decide +kernel), wl_in (i := 524) (by decide +kernel)⟩, rfl, by decide, by decide, by decide +kernel⟩
abbrev rv_type : Room := ({ frames := 7, cells := 1, slots := 6, locals := 111 } : Room)
set_option maxHeartbeats 4000000 in
set_option maxRecDepth 100000 in
theorem cv_type (l : Launch) (hst : l.stackTraces = false) (D : va_G) (ca : Nat → ClassId) (A : Nat → Prop) (bo : Nat) (cO : ClassId) (α : cAl) (σ : cS) (f : Nat → Int64) (hbo : ¬ A bo) (hb17 : α 17 0 ≠ bo) (x1 : Int32) (o : (Nat ⊕ Int32) × cS) (h : fc_X11_type σ x1 = some o) (j : Nat) (hj : ∀ k, o.1 = .inl k → ([1, 2] : List Nat)[j]? = some k) : lMet false l yLaw_type cLaw_type 4 (lHh [1, 2] 9 (fun j => ([12, 15] : List Nat).getD j 0)) rv_type 1 6 D ca A bo α σ [cr α 0 (some 0), .int x1, .ref bo] (lO bo cO f) [(cO, .long)] (lK j o.1) o.2 (lO bo cO (lV (fun x => vp_updL f 0 (x.toInt64)) f o.1)) := by
  refine va_MetW (hh := (lHh [1, 2] 9 (fun j => ([12, 15] : List Nat).getD j 0))) (cc := cLaw_type) (maxL := 4) (ret := some .int) (by decide) rfl ?_
  intro p e s m args below meth c s₁ B hml hv
  obtain ⟨rfl, ⟨hP, hK, hD0, hSh, hA, hG⟩, hO, hKO, hN⟩ := hv
  have hts := atoms_spec (ws := lWs yLaw_type cLaw_type 4 (lHh [1, 2] 9 (fun j => ([12, 15] : List Nat).getD j 0))) B.pre
  have C : cC p s m _ c cLaw_type 4 RV D ca A α := ⟨B.exec, B.bytes, hml, findClass_of_methodNamed B.named, fun w hw => hts w (List.mem_cons_of_mem _ hw), hK, hG⟩
  have hM : cM D ca true A s.heap σ α σ α s.heap [] := ⟨hP, hD0, hSh, va_S.rf, hA, cX.rf⟩
  have htab := vx_table (x := yLaw_type) B (hts _ List.mem_cons_self)
  have h17 := c_17 hM
  have hr := B.returns
  have hlk := B.notSynchronized
  have hx := C.1
  have hb := C.2.1
  have hl := lv_entry ([cr α 0 (some 0), .int x1, .ref bo]) (n := 4) (Nat.le_of_ble_eq_true rfl)
  rw [lg_entry_eq]
  generalize (lg_sl ([cr α 0 (some 0), .int x1, .ref bo]) ++ List.replicate (4 - (lg_sl ([cr α 0 (some 0), .int x1, .ref bo])).length) Slot.unset).toArray = ls at hl ⊢
  have hl : lv_has ls 4 [(0, cr α 0 (some 0)), (1, .int x1), (2, .ref bo)] := hl
  refine lv_aload_n hx hb dLaw_type_0 rfl (lv_at hl 2 rfl) ?_
  refine lv_iconst (v := (0 : Int32)) hx hb dLaw_type_1 (by decide) ?_
  refine c_aload_n (t := 0) (x := (some 0)) hx hb dLaw_type_2 rfl (lv_at hl 0 rfl) ?_
  refine lv_iload_n hx hb dLaw_type_3 rfl (lv_at hl 1 rfl) ?_
  refine l_call (tv := fun v => .int v) (As := [.int x1]) (rest := [.int 0, .ref bo]) C hM (cc_X11_type l hst D ca A α σ x1 o h) cwv_type ⟨rfl, rfl⟩ ⟨Nat.le_of_ble_eq_true rfl, Nat.le_of_ble_eq_true rfl⟩ rfl rfl (cats_le _ (Nat.le_of_ble_eq_true rfl)) hl.1 dLaw_type_4 ⟨Nat.le_of_ble_eq_true rfl, Nat.le_of_ble_eq_true rfl⟩ (fun k q ce H1 locs1 α1 ho hα hM1 h1 h2 h3 => ?_) (fun v H1 locs1 α1 ho hα hM1 => ?_)
  · have hjk := hj k ho
    have hOt := l_out hO (fun q hq => by rw [List.mem_singleton] at hq; rw [hq]; exact hbo) hM1
    refine l_catch (k := k) (j := j) C.2.2.2.1 C.2.2.2.2.1 hG.1.2.2.2 hN htab (by decide) (by decide) (by decide) hjk h1 h2 h3 ?_
    have hjl : j < 2 := (List.getElem?_eq_some_iff.mp hjk).1
    rcases (show j = 0 ∨ j = 1 by omega) with rfl | rfl
    · refine W_pc (pc' := 12) rfl ?_
      refine lv_astore_n (lv' := [(3, .ref q), (0, cr α 0 (some 0)), (1, .int x1), (2, .ref bo)]) hx hb dLaw_type_12 rfl hl (by decide) rfl (fun ls hl => ?_)
      refine lv_iconst (v := nI 1) hx hb dLaw_type_13 (by decide) ?_
      exact l_end C hα hM1 hM1.1 hOt (hM1.2.2.2.1.wk (fun q h => Or.inl h)) hr hlk rfl (by rw [ho]; rfl) (by rw [ho]; rfl) dLaw_type_14
    · refine W_pc (pc' := 15) rfl ?_
      refine lv_astore_n (lv' := [(3, .ref q), (0, cr α 0 (some 0)), (1, .int x1), (2, .ref bo)]) hx hb dLaw_type_15 rfl hl (by decide) rfl (fun ls hl => ?_)
      refine lv_iconst (v := nI 2) hx hb dLaw_type_16 (by decide) ?_
      exact l_end C hα hM1 hM1.1 hOt (hM1.2.2.2.1.wk (fun q h => Or.inl h)) hr hlk rfl (by rw [ho]; rfl) (by rw [ho]; rfl) dLaw_type_17
  · refine lv_i2l hx hb dLaw_type_7 rfl ?_
    refine l_storeJ C hM1 h17 hO hKO hbo hb17 dLaw_type_8 (fun H2 locs2 hP2 hO2 hS2 => ?_)
    refine lv_goto (tgt := 18) hx hb dLaw_type_9 (by decide) ?_
    refine lv_iconst (v := nI 0) hx hb dLaw_type_18 (by decide) ?_
    exact l_end C hα hM1 hP2 hO2 hS2 hr hlk rfl (by rw [ho]; rfl) (by rw [ho]; rfl) dLaw_type_19
theorem cwv_word : cCallV RV 17 (cRn 0) yX11_word cX11_word 3 ((some FieldType.int)) 0 := ⟨⟨wl_in (i := 621) (by decide +kernel), wl_in (i := 622) (by decide +kernel), wl_in (i := 623) (by decide +kernel), wl_in (i := 1) (by decide +kernel), wl_in (i := 624) (by decide +kernel)⟩, rfl, by decide, by decide, by decide +kernel⟩
abbrev rv_word : Room := ({ frames := 7, cells := 1, slots := 6, locals := 112 } : Room)
set_option maxHeartbeats 4000000 in
set_option maxRecDepth 100000 in
theorem cv_word (l : Launch) (hst : l.stackTraces = false) (D : va_G) (ca : Nat → ClassId) (A : Nat → Prop) (bo : Nat) (cO : ClassId) (α : cAl) (σ : cS) (f : Nat → Int64) (hbo : ¬ A bo) (hb17 : α 17 0 ≠ bo)  (o : (Nat ⊕ Int32) × cS) (h : fc_X11_word σ = some o) (j : Nat) (hj : ∀ k, o.1 = .inl k → ([1, 3, 2] : List Nat)[j]? = some k) : lMet false l yLaw_word cLaw_word 3 (lHh [1, 3, 2] 8 (fun j => ([11, 14, 17] : List Nat).getD j 0)) rv_word 1 6 D ca A bo α σ [cr α 0 (some 0), .ref bo] (lO bo cO f) [(cO, .long)] (lK j o.1) o.2 (lO bo cO (lV (fun x => vp_updL f 0 (x.toInt64)) f o.1)) := by
  refine va_MetW (hh := (lHh [1, 3, 2] 8 (fun j => ([11, 14, 17] : List Nat).getD j 0))) (cc := cLaw_word) (maxL := 3) (ret := some .int) (by decide) rfl ?_
  intro p e s m args below meth c s₁ B hml hv
  obtain ⟨rfl, ⟨hP, hK, hD0, hSh, hA, hG⟩, hO, hKO, hN⟩ := hv
  have hts := atoms_spec (ws := lWs yLaw_word cLaw_word 3 (lHh [1, 3, 2] 8 (fun j => ([11, 14, 17] : List Nat).getD j 0))) B.pre
  have C : cC p s m _ c cLaw_word 3 RV D ca A α := ⟨B.exec, B.bytes, hml, findClass_of_methodNamed B.named, fun w hw => hts w (List.mem_cons_of_mem _ hw), hK, hG⟩
  have hM : cM D ca true A s.heap σ α σ α s.heap [] := ⟨hP, hD0, hSh, va_S.rf, hA, cX.rf⟩
  have htab := vx_table (x := yLaw_word) B (hts _ List.mem_cons_self)
  have h17 := c_17 hM
  have hr := B.returns
  have hlk := B.notSynchronized
  have hx := C.1
  have hb := C.2.1
  have hl := lv_entry ([cr α 0 (some 0), .ref bo]) (n := 3) (Nat.le_of_ble_eq_true rfl)
  rw [lg_entry_eq]
  generalize (lg_sl ([cr α 0 (some 0), .ref bo]) ++ List.replicate (3 - (lg_sl ([cr α 0 (some 0), .ref bo])).length) Slot.unset).toArray = ls at hl ⊢
  have hl : lv_has ls 3 [(0, cr α 0 (some 0)), (1, .ref bo)] := hl
  refine lv_aload_n hx hb dLaw_word_0 rfl (lv_at hl 1 rfl) ?_
  refine lv_iconst (v := (0 : Int32)) hx hb dLaw_word_1 (by decide) ?_
  refine c_aload_n (t := 0) (x := (some 0)) hx hb dLaw_word_2 rfl (lv_at hl 0 rfl) ?_
  refine l_call (tv := fun v => .int v) (As := []) (rest := [.int 0, .ref bo]) C hM (cc_X11_word l hst D ca A α σ  o h) cwv_word ⟨rfl, rfl⟩ ⟨Nat.le_of_ble_eq_true rfl, Nat.le_of_ble_eq_true rfl⟩ rfl rfl (cats_le _ (Nat.le_of_ble_eq_true rfl)) hl.1 dLaw_word_3 ⟨Nat.le_of_ble_eq_true rfl, Nat.le_of_ble_eq_true rfl⟩ (fun k q ce H1 locs1 α1 ho hα hM1 h1 h2 h3 => ?_) (fun v H1 locs1 α1 ho hα hM1 => ?_)
  · have hjk := hj k ho
    have hOt := l_out hO (fun q hq => by rw [List.mem_singleton] at hq; rw [hq]; exact hbo) hM1
    refine l_catch (k := k) (j := j) C.2.2.2.1 C.2.2.2.2.1 hG.1.2.2.2 hN htab (by decide) (by decide) (by decide) hjk h1 h2 h3 ?_
    have hjl : j < 3 := (List.getElem?_eq_some_iff.mp hjk).1
    rcases (show j = 0 ∨ j = 1 ∨ j = 2 by omega) with rfl | rfl | rfl
    · refine W_pc (pc' := 11) rfl ?_
      refine lv_astore_n (lv' := [(2, .ref q), (0, cr α 0 (some 0)), (1, .ref bo)]) hx hb dLaw_word_11 rfl hl (by decide) rfl (fun ls hl => ?_)
      refine lv_iconst (v := nI 1) hx hb dLaw_word_12 (by decide) ?_
      exact l_end C hα hM1 hM1.1 hOt (hM1.2.2.2.1.wk (fun q h => Or.inl h)) hr hlk rfl (by rw [ho]; rfl) (by rw [ho]; rfl) dLaw_word_13
    · refine W_pc (pc' := 14) rfl ?_
      refine lv_astore_n (lv' := [(2, .ref q), (0, cr α 0 (some 0)), (1, .ref bo)]) hx hb dLaw_word_14 rfl hl (by decide) rfl (fun ls hl => ?_)
      refine lv_iconst (v := nI 2) hx hb dLaw_word_15 (by decide) ?_
      exact l_end C hα hM1 hM1.1 hOt (hM1.2.2.2.1.wk (fun q h => Or.inl h)) hr hlk rfl (by rw [ho]; rfl) (by rw [ho]; rfl) dLaw_word_16
    · refine W_pc (pc' := 17) rfl ?_
      refine lv_astore_n (lv' := [(2, .ref q), (0, cr α 0 (some 0)), (1, .ref bo)]) hx hb dLaw_word_17 rfl hl (by decide) rfl (fun ls hl => ?_)
      refine lv_iconst (v := nI 3) hx hb dLaw_word_18 (by decide) ?_
      exact l_end C hα hM1 hM1.1 hOt (hM1.2.2.2.1.wk (fun q h => Or.inl h)) hr hlk rfl (by rw [ho]; rfl) (by rw [ho]; rfl) dLaw_word_19
  · refine lv_i2l hx hb dLaw_word_6 rfl ?_
    refine l_storeJ C hM1 h17 hO hKO hbo hb17 dLaw_word_7 (fun H2 locs2 hP2 hO2 hS2 => ?_)
    refine lv_goto (tgt := 20) hx hb dLaw_word_8 (by decide) ?_
    refine lv_iconst (v := nI 0) hx hb dLaw_word_20 (by decide) ?_
    exact l_end C hα hM1 hP2 hO2 hS2 hr hlk rfl (by rw [ho]; rfl) (by rw [ho]; rfl) dLaw_word_21
theorem cwv_room : cCallV RV 23 (cRn 0) yX11_room cX11_room 2 ((some FieldType.int)) 1 := ⟨⟨wl_in (i := 658) (by decide +kernel), wl_in (i := 659) (by decide +kernel), wl_in (i := 660) (by decide +kernel), wl_in (i := 1) (by decide +kernel), wl_in (i := 661) (by decide +kernel)⟩, rfl, by decide, by decide, by decide +kernel⟩
abbrev rv_room : Room := ({ frames := 8, cells := 2, slots := 12, locals := 131 } : Room)
set_option maxHeartbeats 4000000 in
set_option maxRecDepth 100000 in
theorem cv_room (l : Launch) (hst : l.stackTraces = false) (D : va_G) (ca : Nat → ClassId) (A : Nat → Prop) (bo : Nat) (cO : ClassId) (α : cAl) (σ : cS) (f : Nat → Int64) (hbo : ¬ A bo) (hb17 : α 17 0 ≠ bo) (x1 : Int32) (o : (Nat ⊕ Int32) × cS) (h : fc_X11_room σ x1 = some o) (j : Nat) (hj : ∀ k, o.1 = .inl k → ([2] : List Nat)[j]? = some k) : lMet false l yLaw_room cLaw_room 4 (lHh [2] 9 (fun j => ([12] : List Nat).getD j 0)) rv_room 2 12 D ca A bo α σ [cr α 0 (some 0), .int x1, .ref bo] (lO bo cO f) [(cO, .long)] (lK j o.1) o.2 (lO bo cO (lV (fun x => vp_updL f 0 (x.toInt64)) f o.1)) := by
  refine va_MetW (hh := (lHh [2] 9 (fun j => ([12] : List Nat).getD j 0))) (cc := cLaw_room) (maxL := 4) (ret := some .int) (by decide) rfl ?_
  intro p e s m args below meth c s₁ B hml hv
  obtain ⟨rfl, ⟨hP, hK, hD0, hSh, hA, hG⟩, hO, hKO, hN⟩ := hv
  have hts := atoms_spec (ws := lWs yLaw_room cLaw_room 4 (lHh [2] 9 (fun j => ([12] : List Nat).getD j 0))) B.pre
  have C : cC p s m _ c cLaw_room 4 RV D ca A α := ⟨B.exec, B.bytes, hml, findClass_of_methodNamed B.named, fun w hw => hts w (List.mem_cons_of_mem _ hw), hK, hG⟩
  have hM : cM D ca true A s.heap σ α σ α s.heap [] := ⟨hP, hD0, hSh, va_S.rf, hA, cX.rf⟩
  have htab := vx_table (x := yLaw_room) B (hts _ List.mem_cons_self)
  have h17 := c_17 hM
  have hr := B.returns
  have hlk := B.notSynchronized
  have hx := C.1
  have hb := C.2.1
  have hl := lv_entry ([cr α 0 (some 0), .int x1, .ref bo]) (n := 4) (Nat.le_of_ble_eq_true rfl)
  rw [lg_entry_eq]
  generalize (lg_sl ([cr α 0 (some 0), .int x1, .ref bo]) ++ List.replicate (4 - (lg_sl ([cr α 0 (some 0), .int x1, .ref bo])).length) Slot.unset).toArray = ls at hl ⊢
  have hl : lv_has ls 4 [(0, cr α 0 (some 0)), (1, .int x1), (2, .ref bo)] := hl
  refine lv_aload_n hx hb dLaw_room_0 rfl (lv_at hl 2 rfl) ?_
  refine lv_iconst (v := (0 : Int32)) hx hb dLaw_room_1 (by decide) ?_
  refine c_aload_n (t := 0) (x := (some 0)) hx hb dLaw_room_2 rfl (lv_at hl 0 rfl) ?_
  refine lv_iload_n hx hb dLaw_room_3 rfl (lv_at hl 1 rfl) ?_
  refine l_call (tv := fun v => .int v) (As := [.int x1]) (rest := [.int 0, .ref bo]) C hM (cc_X11_room l hst D ca A α σ x1 o h) cwv_room ⟨rfl, rfl⟩ ⟨Nat.le_of_ble_eq_true rfl, Nat.le_of_ble_eq_true rfl⟩ rfl rfl (cats_le _ (Nat.le_of_ble_eq_true rfl)) hl.1 dLaw_room_4 ⟨Nat.le_of_ble_eq_true rfl, Nat.le_of_ble_eq_true rfl⟩ (fun k q ce H1 locs1 α1 ho hα hM1 h1 h2 h3 => ?_) (fun v H1 locs1 α1 ho hα hM1 => ?_)
  · have hjk := hj k ho
    have hOt := l_out hO (fun q hq => by rw [List.mem_singleton] at hq; rw [hq]; exact hbo) hM1
    refine l_catch (k := k) (j := j) C.2.2.2.1 C.2.2.2.2.1 hG.1.2.2.2 hN htab (by decide) (by decide) (by decide) hjk h1 h2 h3 ?_
    have hjl : j < 1 := (List.getElem?_eq_some_iff.mp hjk).1
    rcases (show j = 0 by omega) with rfl
    · refine W_pc (pc' := 12) rfl ?_
      refine lv_astore_n (lv' := [(3, .ref q), (0, cr α 0 (some 0)), (1, .int x1), (2, .ref bo)]) hx hb dLaw_room_12 rfl hl (by decide) rfl (fun ls hl => ?_)
      refine lv_iconst (v := nI 1) hx hb dLaw_room_13 (by decide) ?_
      exact l_end C hα hM1 hM1.1 hOt (hM1.2.2.2.1.wk (fun q h => Or.inl h)) hr hlk rfl (by rw [ho]; rfl) (by rw [ho]; rfl) dLaw_room_14
  · refine lv_i2l hx hb dLaw_room_7 rfl ?_
    refine l_storeJ C hM1 h17 hO hKO hbo hb17 dLaw_room_8 (fun H2 locs2 hP2 hO2 hS2 => ?_)
    refine lv_goto (tgt := 15) hx hb dLaw_room_9 (by decide) ?_
    refine lv_iconst (v := nI 0) hx hb dLaw_room_15 (by decide) ?_
    exact l_end C hα hM1 hP2 hO2 hS2 hr hlk rfl (by rw [ho]; rfl) (by rw [ho]; rfl) dLaw_room_16
theorem cwv_show : cCallV RV 27 (cRn 0) yX11_show cX11_show 3 ((some FieldType.int)) 2 := ⟨⟨wl_in (i := 703) (by decide +kernel), wl_in (i := 704) (by decide +kernel), wl_in (i := 705) (by decide +kernel), wl_in (i := 1) (by decide +kernel), wl_in (i := 706) (by decide +kernel)⟩, rfl, by decide, by decide, by decide +kernel⟩
abbrev rv_show : Room := ({ frames := 8, cells := 3, slots := 18, locals := 133 } : Room)
set_option maxHeartbeats 4000000 in
set_option maxRecDepth 100000 in
theorem cv_show (l : Launch) (hst : l.stackTraces = false) (D : va_G) (ca : Nat → ClassId) (A : Nat → Prop) (bo : Nat) (cO : ClassId) (α : cAl) (σ : cS) (f : Nat → Int64) (hbo : ¬ A bo) (hb17 : α 17 0 ≠ bo) (x1 : Int32) (x2 : Int32) (o : (Nat ⊕ Int32) × cS) (h : fc_X11_show σ x1 x2 = some o) (j : Nat) (hj : ∀ k, o.1 = .inl k → ([4, 2] : List Nat)[j]? = some k) : lMet false l yLaw_show cLaw_show 5 (lHh [4, 2] 10 (fun j => ([13, 17] : List Nat).getD j 0)) rv_show 3 18 D ca A bo α σ [cr α 0 (some 0), .int x1, .int x2, .ref bo] (lO bo cO f) [(cO, .long)] (lK j o.1) o.2 (lO bo cO (lV (fun x => vp_updL f 0 (x.toInt64)) f o.1)) := by
  refine va_MetW (hh := (lHh [4, 2] 10 (fun j => ([13, 17] : List Nat).getD j 0))) (cc := cLaw_show) (maxL := 5) (ret := some .int) (by decide) rfl ?_
  intro p e s m args below meth c s₁ B hml hv
  obtain ⟨rfl, ⟨hP, hK, hD0, hSh, hA, hG⟩, hO, hKO, hN⟩ := hv
  have hts := atoms_spec (ws := lWs yLaw_show cLaw_show 5 (lHh [4, 2] 10 (fun j => ([13, 17] : List Nat).getD j 0))) B.pre
  have C : cC p s m _ c cLaw_show 5 RV D ca A α := ⟨B.exec, B.bytes, hml, findClass_of_methodNamed B.named, fun w hw => hts w (List.mem_cons_of_mem _ hw), hK, hG⟩
  have hM : cM D ca true A s.heap σ α σ α s.heap [] := ⟨hP, hD0, hSh, va_S.rf, hA, cX.rf⟩
  have htab := vx_table (x := yLaw_show) B (hts _ List.mem_cons_self)
  have h17 := c_17 hM
  have hr := B.returns
  have hlk := B.notSynchronized
  have hx := C.1
  have hb := C.2.1
  have hl := lv_entry ([cr α 0 (some 0), .int x1, .int x2, .ref bo]) (n := 5) (Nat.le_of_ble_eq_true rfl)
  rw [lg_entry_eq]
  generalize (lg_sl ([cr α 0 (some 0), .int x1, .int x2, .ref bo]) ++ List.replicate (5 - (lg_sl ([cr α 0 (some 0), .int x1, .int x2, .ref bo])).length) Slot.unset).toArray = ls at hl ⊢
  have hl : lv_has ls 5 [(0, cr α 0 (some 0)), (1, .int x1), (2, .int x2), (3, .ref bo)] := hl
  refine lv_aload_n hx hb dLaw_show_0 rfl (lv_at hl 3 rfl) ?_
  refine lv_iconst (v := (0 : Int32)) hx hb dLaw_show_1 (by decide) ?_
  refine c_aload_n (t := 0) (x := (some 0)) hx hb dLaw_show_2 rfl (lv_at hl 0 rfl) ?_
  refine lv_iload_n hx hb dLaw_show_3 rfl (lv_at hl 1 rfl) ?_
  refine lv_iload_n hx hb dLaw_show_4 rfl (lv_at hl 2 rfl) ?_
  refine l_call (tv := fun v => .int v) (As := [.int x1, .int x2]) (rest := [.int 0, .ref bo]) C hM (cc_X11_show l hst D ca A α σ x1 x2 o h) cwv_show ⟨rfl, rfl⟩ ⟨Nat.le_of_ble_eq_true rfl, Nat.le_of_ble_eq_true rfl⟩ rfl rfl (cats_le _ (Nat.le_of_ble_eq_true rfl)) hl.1 dLaw_show_5 ⟨Nat.le_of_ble_eq_true rfl, Nat.le_of_ble_eq_true rfl⟩ (fun k q ce H1 locs1 α1 ho hα hM1 h1 h2 h3 => ?_) (fun v H1 locs1 α1 ho hα hM1 => ?_)
  · have hjk := hj k ho
    have hOt := l_out hO (fun q hq => by rw [List.mem_singleton] at hq; rw [hq]; exact hbo) hM1
    refine l_catch (k := k) (j := j) C.2.2.2.1 C.2.2.2.2.1 hG.1.2.2.2 hN htab (by decide) (by decide) (by decide) hjk h1 h2 h3 ?_
    have hjl : j < 2 := (List.getElem?_eq_some_iff.mp hjk).1
    rcases (show j = 0 ∨ j = 1 by omega) with rfl | rfl
    · refine W_pc (pc' := 13) rfl ?_
      refine lv_astore (lv' := [(4, .ref q), (0, cr α 0 (some 0)), (1, .int x1), (2, .int x2), (3, .ref bo)]) hx hb dLaw_show_13 hl (by decide) rfl (fun ls hl => ?_)
      refine lv_iconst (v := nI 1) hx hb dLaw_show_15 (by decide) ?_
      exact l_end C hα hM1 hM1.1 hOt (hM1.2.2.2.1.wk (fun q h => Or.inl h)) hr hlk rfl (by rw [ho]; rfl) (by rw [ho]; rfl) dLaw_show_16
    · refine W_pc (pc' := 17) rfl ?_
      refine lv_astore (lv' := [(4, .ref q), (0, cr α 0 (some 0)), (1, .int x1), (2, .int x2), (3, .ref bo)]) hx hb dLaw_show_17 hl (by decide) rfl (fun ls hl => ?_)
      refine lv_iconst (v := nI 2) hx hb dLaw_show_19 (by decide) ?_
      exact l_end C hα hM1 hM1.1 hOt (hM1.2.2.2.1.wk (fun q h => Or.inl h)) hr hlk rfl (by rw [ho]; rfl) (by rw [ho]; rfl) dLaw_show_20
  · refine lv_i2l hx hb dLaw_show_8 rfl ?_
    refine l_storeJ C hM1 h17 hO hKO hbo hb17 dLaw_show_9 (fun H2 locs2 hP2 hO2 hS2 => ?_)
    refine lv_goto (tgt := 21) hx hb dLaw_show_10 (by decide) ?_
    refine lv_iconst (v := nI 0) hx hb dLaw_show_21 (by decide) ?_
    exact l_end C hα hM1 hP2 hO2 hS2 hr hlk rfl (by rw [ho]; rfl) (by rw [ho]; rfl) dLaw_show_22
theorem cwv_exit : cCallV RV 33 (cRn 0) yX11_exit cX11_exit 6 ((some FieldType.int)) 3 := ⟨⟨wl_in (i := 746) (by decide +kernel), wl_in (i := 747) (by decide +kernel), wl_in (i := 748) (by decide +kernel), wl_in (i := 1) (by decide +kernel), wl_in (i := 749) (by decide +kernel)⟩, rfl, by decide, by decide, by decide +kernel⟩
abbrev rv_exit : Room := ({ frames := 8, cells := 4, slots := 24, locals := 139 } : Room)
set_option maxHeartbeats 4000000 in
set_option maxRecDepth 100000 in
theorem cv_exit (l : Launch) (hst : l.stackTraces = false) (D : va_G) (ca : Nat → ClassId) (A : Nat → Prop) (bo : Nat) (cO : ClassId) (α : cAl) (σ : cS) (f : Nat → Int64) (hbo : ¬ A bo) (hb17 : α 17 0 ≠ bo) (x1 : Int32) (x2 : Int32) (x3 : Int32) (o : (Nat ⊕ Int32) × cS) (h : fc_X11_exit σ x1 x2 x3 = some o) (j : Nat) (hj : ∀ k, o.1 = .inl k → ([4, 1, 2] : List Nat)[j]? = some k) : lMet false l yLaw_exit cLaw_exit 6 (lHh [4, 1, 2] 12 (fun j => ([15, 19, 23] : List Nat).getD j 0)) rv_exit 4 24 D ca A bo α σ [cr α 0 (some 0), .int x1, .int x2, .int x3, .ref bo] (lO bo cO f) [(cO, .long)] (lK j o.1) o.2 (lO bo cO (lV (fun x => vp_updL f 0 (x.toInt64)) f o.1)) := by
  refine va_MetW (hh := (lHh [4, 1, 2] 12 (fun j => ([15, 19, 23] : List Nat).getD j 0))) (cc := cLaw_exit) (maxL := 6) (ret := some .int) (by decide) rfl ?_
  intro p e s m args below meth c s₁ B hml hv
  obtain ⟨rfl, ⟨hP, hK, hD0, hSh, hA, hG⟩, hO, hKO, hN⟩ := hv
  have hts := atoms_spec (ws := lWs yLaw_exit cLaw_exit 6 (lHh [4, 1, 2] 12 (fun j => ([15, 19, 23] : List Nat).getD j 0))) B.pre
  have C : cC p s m _ c cLaw_exit 6 RV D ca A α := ⟨B.exec, B.bytes, hml, findClass_of_methodNamed B.named, fun w hw => hts w (List.mem_cons_of_mem _ hw), hK, hG⟩
  have hM : cM D ca true A s.heap σ α σ α s.heap [] := ⟨hP, hD0, hSh, va_S.rf, hA, cX.rf⟩
  have htab := vx_table (x := yLaw_exit) B (hts _ List.mem_cons_self)
  have h17 := c_17 hM
  have hr := B.returns
  have hlk := B.notSynchronized
  have hx := C.1
  have hb := C.2.1
  have hl := lv_entry ([cr α 0 (some 0), .int x1, .int x2, .int x3, .ref bo]) (n := 6) (Nat.le_of_ble_eq_true rfl)
  rw [lg_entry_eq]
  generalize (lg_sl ([cr α 0 (some 0), .int x1, .int x2, .int x3, .ref bo]) ++ List.replicate (6 - (lg_sl ([cr α 0 (some 0), .int x1, .int x2, .int x3, .ref bo])).length) Slot.unset).toArray = ls at hl ⊢
  have hl : lv_has ls 6 [(0, cr α 0 (some 0)), (1, .int x1), (2, .int x2), (3, .int x3), (4, .ref bo)] := hl
  refine lv_aload hx hb dLaw_exit_0 (lv_at hl 4 rfl) ?_
  refine lv_iconst (v := (0 : Int32)) hx hb dLaw_exit_2 (by decide) ?_
  refine c_aload_n (t := 0) (x := (some 0)) hx hb dLaw_exit_3 rfl (lv_at hl 0 rfl) ?_
  refine lv_iload_n hx hb dLaw_exit_4 rfl (lv_at hl 1 rfl) ?_
  refine lv_iload_n hx hb dLaw_exit_5 rfl (lv_at hl 2 rfl) ?_
  refine lv_iload_n hx hb dLaw_exit_6 rfl (lv_at hl 3 rfl) ?_
  refine l_call (tv := fun v => .int v) (As := [.int x1, .int x2, .int x3]) (rest := [.int 0, .ref bo]) C hM (cc_X11_exit l hst D ca A α σ x1 x2 x3 o h) cwv_exit ⟨rfl, rfl⟩ ⟨Nat.le_of_ble_eq_true rfl, Nat.le_of_ble_eq_true rfl⟩ rfl rfl (cats_le _ (Nat.le_of_ble_eq_true rfl)) hl.1 dLaw_exit_7 ⟨Nat.le_of_ble_eq_true rfl, Nat.le_of_ble_eq_true rfl⟩ (fun k q ce H1 locs1 α1 ho hα hM1 h1 h2 h3 => ?_) (fun v H1 locs1 α1 ho hα hM1 => ?_)
  · have hjk := hj k ho
    have hOt := l_out hO (fun q hq => by rw [List.mem_singleton] at hq; rw [hq]; exact hbo) hM1
    refine l_catch (k := k) (j := j) C.2.2.2.1 C.2.2.2.2.1 hG.1.2.2.2 hN htab (by decide) (by decide) (by decide) hjk h1 h2 h3 ?_
    have hjl : j < 3 := (List.getElem?_eq_some_iff.mp hjk).1
    rcases (show j = 0 ∨ j = 1 ∨ j = 2 by omega) with rfl | rfl | rfl
    · refine W_pc (pc' := 15) rfl ?_
      refine lv_astore (lv' := [(5, .ref q), (0, cr α 0 (some 0)), (1, .int x1), (2, .int x2), (3, .int x3), (4, .ref bo)]) hx hb dLaw_exit_15 hl (by decide) rfl (fun ls hl => ?_)
      refine lv_iconst (v := nI 1) hx hb dLaw_exit_17 (by decide) ?_
      exact l_end C hα hM1 hM1.1 hOt (hM1.2.2.2.1.wk (fun q h => Or.inl h)) hr hlk rfl (by rw [ho]; rfl) (by rw [ho]; rfl) dLaw_exit_18
    · refine W_pc (pc' := 19) rfl ?_
      refine lv_astore (lv' := [(5, .ref q), (0, cr α 0 (some 0)), (1, .int x1), (2, .int x2), (3, .int x3), (4, .ref bo)]) hx hb dLaw_exit_19 hl (by decide) rfl (fun ls hl => ?_)
      refine lv_iconst (v := nI 2) hx hb dLaw_exit_21 (by decide) ?_
      exact l_end C hα hM1 hM1.1 hOt (hM1.2.2.2.1.wk (fun q h => Or.inl h)) hr hlk rfl (by rw [ho]; rfl) (by rw [ho]; rfl) dLaw_exit_22
    · refine W_pc (pc' := 23) rfl ?_
      refine lv_astore (lv' := [(5, .ref q), (0, cr α 0 (some 0)), (1, .int x1), (2, .int x2), (3, .int x3), (4, .ref bo)]) hx hb dLaw_exit_23 hl (by decide) rfl (fun ls hl => ?_)
      refine lv_iconst (v := nI 3) hx hb dLaw_exit_25 (by decide) ?_
      exact l_end C hα hM1 hM1.1 hOt (hM1.2.2.2.1.wk (fun q h => Or.inl h)) hr hlk rfl (by rw [ho]; rfl) (by rw [ho]; rfl) dLaw_exit_26
  · refine lv_i2l hx hb dLaw_exit_10 rfl ?_
    refine l_storeJ C hM1 h17 hO hKO hbo hb17 dLaw_exit_11 (fun H2 locs2 hP2 hO2 hS2 => ?_)
    refine lv_goto (tgt := 27) hx hb dLaw_exit_12 (by decide) ?_
    refine lv_iconst (v := nI 0) hx hb dLaw_exit_27 (by decide) ?_
    exact l_end C hα hM1 hP2 hO2 hS2 hr hlk rfl (by rw [ho]; rfl) (by rw [ho]; rfl) dLaw_exit_28
theorem cwv_lock : cCallV RV 37 (cRn 0) yX11_lock cX11_lock 6 ((some FieldType.int)) 3 := ⟨⟨wl_in (i := 844) (by decide +kernel), wl_in (i := 845) (by decide +kernel), wl_in (i := 846) (by decide +kernel), wl_in (i := 1) (by decide +kernel), wl_in (i := 847) (by decide +kernel)⟩, rfl, by decide, by decide, by decide +kernel⟩
abbrev rv_lock : Room := ({ frames := 8, cells := 4, slots := 24, locals := 139 } : Room)
set_option maxHeartbeats 4000000 in
set_option maxRecDepth 100000 in
theorem cv_lock (l : Launch) (hst : l.stackTraces = false) (D : va_G) (ca : Nat → ClassId) (A : Nat → Prop) (bo : Nat) (cO : ClassId) (α : cAl) (σ : cS) (f : Nat → Int64) (hbo : ¬ A bo) (hb17 : α 17 0 ≠ bo) (x1 : Int32) (x2 : Int32) (x3 : Int32) (o : (Nat ⊕ Int32) × cS) (h : fc_X11_lock σ x1 x2 x3 = some o) (j : Nat) (hj : ∀ k, o.1 = .inl k → ([4, 1, 3, 2] : List Nat)[j]? = some k) : lMet false l yLaw_lock cLaw_lock 6 (lHh [4, 1, 3, 2] 12 (fun j => ([15, 19, 23, 27] : List Nat).getD j 0)) rv_lock 4 24 D ca A bo α σ [cr α 0 (some 0), .int x1, .int x2, .int x3, .ref bo] (lO bo cO f) [(cO, .long)] (lK j o.1) o.2 (lO bo cO (lV (fun x => vp_updL f 0 (x.toInt64)) f o.1)) := by
  refine va_MetW (hh := (lHh [4, 1, 3, 2] 12 (fun j => ([15, 19, 23, 27] : List Nat).getD j 0))) (cc := cLaw_lock) (maxL := 6) (ret := some .int) (by decide) rfl ?_
  intro p e s m args below meth c s₁ B hml hv
  obtain ⟨rfl, ⟨hP, hK, hD0, hSh, hA, hG⟩, hO, hKO, hN⟩ := hv
  have hts := atoms_spec (ws := lWs yLaw_lock cLaw_lock 6 (lHh [4, 1, 3, 2] 12 (fun j => ([15, 19, 23, 27] : List Nat).getD j 0))) B.pre
  have C : cC p s m _ c cLaw_lock 6 RV D ca A α := ⟨B.exec, B.bytes, hml, findClass_of_methodNamed B.named, fun w hw => hts w (List.mem_cons_of_mem _ hw), hK, hG⟩
  have hM : cM D ca true A s.heap σ α σ α s.heap [] := ⟨hP, hD0, hSh, va_S.rf, hA, cX.rf⟩
  have htab := vx_table (x := yLaw_lock) B (hts _ List.mem_cons_self)
  have h17 := c_17 hM
  have hr := B.returns
  have hlk := B.notSynchronized
  have hx := C.1
  have hb := C.2.1
  have hl := lv_entry ([cr α 0 (some 0), .int x1, .int x2, .int x3, .ref bo]) (n := 6) (Nat.le_of_ble_eq_true rfl)
  rw [lg_entry_eq]
  generalize (lg_sl ([cr α 0 (some 0), .int x1, .int x2, .int x3, .ref bo]) ++ List.replicate (6 - (lg_sl ([cr α 0 (some 0), .int x1, .int x2, .int x3, .ref bo])).length) Slot.unset).toArray = ls at hl ⊢
  have hl : lv_has ls 6 [(0, cr α 0 (some 0)), (1, .int x1), (2, .int x2), (3, .int x3), (4, .ref bo)] := hl
  refine lv_aload hx hb dLaw_lock_0 (lv_at hl 4 rfl) ?_
  refine lv_iconst (v := (0 : Int32)) hx hb dLaw_lock_2 (by decide) ?_
  refine c_aload_n (t := 0) (x := (some 0)) hx hb dLaw_lock_3 rfl (lv_at hl 0 rfl) ?_
  refine lv_iload_n hx hb dLaw_lock_4 rfl (lv_at hl 1 rfl) ?_
  refine lv_iload_n hx hb dLaw_lock_5 rfl (lv_at hl 2 rfl) ?_
  refine lv_iload_n hx hb dLaw_lock_6 rfl (lv_at hl 3 rfl) ?_
  refine l_call (tv := fun v => .int v) (As := [.int x1, .int x2, .int x3]) (rest := [.int 0, .ref bo]) C hM (cc_X11_lock l hst D ca A α σ x1 x2 x3 o h) cwv_lock ⟨rfl, rfl⟩ ⟨Nat.le_of_ble_eq_true rfl, Nat.le_of_ble_eq_true rfl⟩ rfl rfl (cats_le _ (Nat.le_of_ble_eq_true rfl)) hl.1 dLaw_lock_7 ⟨Nat.le_of_ble_eq_true rfl, Nat.le_of_ble_eq_true rfl⟩ (fun k q ce H1 locs1 α1 ho hα hM1 h1 h2 h3 => ?_) (fun v H1 locs1 α1 ho hα hM1 => ?_)
  · have hjk := hj k ho
    have hOt := l_out hO (fun q hq => by rw [List.mem_singleton] at hq; rw [hq]; exact hbo) hM1
    refine l_catch (k := k) (j := j) C.2.2.2.1 C.2.2.2.2.1 hG.1.2.2.2 hN htab (by decide) (by decide) (by decide) hjk h1 h2 h3 ?_
    have hjl : j < 4 := (List.getElem?_eq_some_iff.mp hjk).1
    rcases (show j = 0 ∨ j = 1 ∨ j = 2 ∨ j = 3 by omega) with rfl | rfl | rfl | rfl
    · refine W_pc (pc' := 15) rfl ?_
      refine lv_astore (lv' := [(5, .ref q), (0, cr α 0 (some 0)), (1, .int x1), (2, .int x2), (3, .int x3), (4, .ref bo)]) hx hb dLaw_lock_15 hl (by decide) rfl (fun ls hl => ?_)
      refine lv_iconst (v := nI 1) hx hb dLaw_lock_17 (by decide) ?_
      exact l_end C hα hM1 hM1.1 hOt (hM1.2.2.2.1.wk (fun q h => Or.inl h)) hr hlk rfl (by rw [ho]; rfl) (by rw [ho]; rfl) dLaw_lock_18
    · refine W_pc (pc' := 19) rfl ?_
      refine lv_astore (lv' := [(5, .ref q), (0, cr α 0 (some 0)), (1, .int x1), (2, .int x2), (3, .int x3), (4, .ref bo)]) hx hb dLaw_lock_19 hl (by decide) rfl (fun ls hl => ?_)
      refine lv_iconst (v := nI 2) hx hb dLaw_lock_21 (by decide) ?_
      exact l_end C hα hM1 hM1.1 hOt (hM1.2.2.2.1.wk (fun q h => Or.inl h)) hr hlk rfl (by rw [ho]; rfl) (by rw [ho]; rfl) dLaw_lock_22
    · refine W_pc (pc' := 23) rfl ?_
      refine lv_astore (lv' := [(5, .ref q), (0, cr α 0 (some 0)), (1, .int x1), (2, .int x2), (3, .int x3), (4, .ref bo)]) hx hb dLaw_lock_23 hl (by decide) rfl (fun ls hl => ?_)
      refine lv_iconst (v := nI 3) hx hb dLaw_lock_25 (by decide) ?_
      exact l_end C hα hM1 hM1.1 hOt (hM1.2.2.2.1.wk (fun q h => Or.inl h)) hr hlk rfl (by rw [ho]; rfl) (by rw [ho]; rfl) dLaw_lock_26
    · refine W_pc (pc' := 27) rfl ?_
      refine lv_astore (lv' := [(5, .ref q), (0, cr α 0 (some 0)), (1, .int x1), (2, .int x2), (3, .int x3), (4, .ref bo)]) hx hb dLaw_lock_27 hl (by decide) rfl (fun ls hl => ?_)
      refine lv_iconst (v := nI 4) hx hb dLaw_lock_29 (by decide) ?_
      exact l_end C hα hM1 hM1.1 hOt (hM1.2.2.2.1.wk (fun q h => Or.inl h)) hr hlk rfl (by rw [ho]; rfl) (by rw [ho]; rfl) dLaw_lock_30
  · refine lv_i2l hx hb dLaw_lock_10 rfl ?_
    refine l_storeJ C hM1 h17 hO hKO hbo hb17 dLaw_lock_11 (fun H2 locs2 hP2 hO2 hS2 => ?_)
    refine lv_goto (tgt := 31) hx hb dLaw_lock_12 (by decide) ?_
    refine lv_iconst (v := nI 0) hx hb dLaw_lock_31 (by decide) ?_
    exact l_end C hα hM1 hP2 hO2 hS2 hr hlk rfl (by rw [ho]; rfl) (by rw [ho]; rfl) dLaw_lock_32
theorem cwv_thing : cCallV RV 40 (cRn 0) yX11_thing cX11_thing 6 ((some FieldType.int)) 4 := ⟨⟨wl_in (i := 858) (by decide +kernel), wl_in (i := 859) (by decide +kernel), wl_in (i := 860) (by decide +kernel), wl_in (i := 1) (by decide +kernel), wl_in (i := 861) (by decide +kernel)⟩, rfl, by decide, by decide, by decide +kernel⟩
abbrev rv_thing : Room := ({ frames := 8, cells := 4, slots := 24, locals := 136 } : Room)
set_option maxHeartbeats 4000000 in
set_option maxRecDepth 100000 in
theorem cv_thing (l : Launch) (hst : l.stackTraces = false) (D : va_G) (ca : Nat → ClassId) (A : Nat → Prop) (bo : Nat) (cO : ClassId) (α : cAl) (σ : cS) (f : Nat → Int64) (hbo : ¬ A bo) (hb17 : α 17 0 ≠ bo) (x1 : Int32) (x2 : Int32) (x3 : Int32) (x4 : Int32) (o : (Nat ⊕ Int32) × cS) (h : fc_X11_thing σ x1 x2 x3 x4 = some o) (j : Nat) (hj : ∀ k, o.1 = .inl k → ([4, 1, 3, 2] : List Nat)[j]? = some k) : lMet false l yLaw_thing cLaw_thing 7 (lHh [4, 1, 3, 2] 14 (fun j => ([17, 21, 25, 29] : List Nat).getD j 0)) rv_thing 4 24 D ca A bo α σ [cr α 0 (some 0), .int x1, .int x2, .int x3, .int x4, .ref bo] (lO bo cO f) [(cO, .long)] (lK j o.1) o.2 (lO bo cO (lV (fun x => vp_updL f 0 (x.toInt64)) f o.1)) := by
  refine va_MetW (hh := (lHh [4, 1, 3, 2] 14 (fun j => ([17, 21, 25, 29] : List Nat).getD j 0))) (cc := cLaw_thing) (maxL := 7) (ret := some .int) (by decide) rfl ?_
  intro p e s m args below meth c s₁ B hml hv
  obtain ⟨rfl, ⟨hP, hK, hD0, hSh, hA, hG⟩, hO, hKO, hN⟩ := hv
  have hts := atoms_spec (ws := lWs yLaw_thing cLaw_thing 7 (lHh [4, 1, 3, 2] 14 (fun j => ([17, 21, 25, 29] : List Nat).getD j 0))) B.pre
  have C : cC p s m _ c cLaw_thing 7 RV D ca A α := ⟨B.exec, B.bytes, hml, findClass_of_methodNamed B.named, fun w hw => hts w (List.mem_cons_of_mem _ hw), hK, hG⟩
  have hM : cM D ca true A s.heap σ α σ α s.heap [] := ⟨hP, hD0, hSh, va_S.rf, hA, cX.rf⟩
  have htab := vx_table (x := yLaw_thing) B (hts _ List.mem_cons_self)
  have h17 := c_17 hM
  have hr := B.returns
  have hlk := B.notSynchronized
  have hx := C.1
  have hb := C.2.1
  have hl := lv_entry ([cr α 0 (some 0), .int x1, .int x2, .int x3, .int x4, .ref bo]) (n := 7) (Nat.le_of_ble_eq_true rfl)
  rw [lg_entry_eq]
  generalize (lg_sl ([cr α 0 (some 0), .int x1, .int x2, .int x3, .int x4, .ref bo]) ++ List.replicate (7 - (lg_sl ([cr α 0 (some 0), .int x1, .int x2, .int x3, .int x4, .ref bo])).length) Slot.unset).toArray = ls at hl ⊢
  have hl : lv_has ls 7 [(0, cr α 0 (some 0)), (1, .int x1), (2, .int x2), (3, .int x3), (4, .int x4), (5, .ref bo)] := hl
  refine lv_aload hx hb dLaw_thing_0 (lv_at hl 5 rfl) ?_
  refine lv_iconst (v := (0 : Int32)) hx hb dLaw_thing_2 (by decide) ?_
  refine c_aload_n (t := 0) (x := (some 0)) hx hb dLaw_thing_3 rfl (lv_at hl 0 rfl) ?_
  refine lv_iload_n hx hb dLaw_thing_4 rfl (lv_at hl 1 rfl) ?_
  refine lv_iload_n hx hb dLaw_thing_5 rfl (lv_at hl 2 rfl) ?_
  refine lv_iload_n hx hb dLaw_thing_6 rfl (lv_at hl 3 rfl) ?_
  refine lv_iload hx hb dLaw_thing_7 (lv_at hl 4 rfl) ?_
  refine l_call (tv := fun v => .int v) (As := [.int x1, .int x2, .int x3, .int x4]) (rest := [.int 0, .ref bo]) C hM (cc_X11_thing l hst D ca A α σ x1 x2 x3 x4 o h) cwv_thing ⟨rfl, rfl⟩ ⟨Nat.le_of_ble_eq_true rfl, Nat.le_of_ble_eq_true rfl⟩ rfl rfl (cats_le _ (Nat.le_of_ble_eq_true rfl)) hl.1 dLaw_thing_9 ⟨Nat.le_of_ble_eq_true rfl, Nat.le_of_ble_eq_true rfl⟩ (fun k q ce H1 locs1 α1 ho hα hM1 h1 h2 h3 => ?_) (fun v H1 locs1 α1 ho hα hM1 => ?_)
  · have hjk := hj k ho
    have hOt := l_out hO (fun q hq => by rw [List.mem_singleton] at hq; rw [hq]; exact hbo) hM1
    refine l_catch (k := k) (j := j) C.2.2.2.1 C.2.2.2.2.1 hG.1.2.2.2 hN htab (by decide) (by decide) (by decide) hjk h1 h2 h3 ?_
    have hjl : j < 4 := (List.getElem?_eq_some_iff.mp hjk).1
    rcases (show j = 0 ∨ j = 1 ∨ j = 2 ∨ j = 3 by omega) with rfl | rfl | rfl | rfl
    · refine W_pc (pc' := 17) rfl ?_
      refine lv_astore (lv' := [(6, .ref q), (0, cr α 0 (some 0)), (1, .int x1), (2, .int x2), (3, .int x3), (4, .int x4), (5, .ref bo)]) hx hb dLaw_thing_17 hl (by decide) rfl (fun ls hl => ?_)
      refine lv_iconst (v := nI 1) hx hb dLaw_thing_19 (by decide) ?_
      exact l_end C hα hM1 hM1.1 hOt (hM1.2.2.2.1.wk (fun q h => Or.inl h)) hr hlk rfl (by rw [ho]; rfl) (by rw [ho]; rfl) dLaw_thing_20
    · refine W_pc (pc' := 21) rfl ?_
      refine lv_astore (lv' := [(6, .ref q), (0, cr α 0 (some 0)), (1, .int x1), (2, .int x2), (3, .int x3), (4, .int x4), (5, .ref bo)]) hx hb dLaw_thing_21 hl (by decide) rfl (fun ls hl => ?_)
      refine lv_iconst (v := nI 2) hx hb dLaw_thing_23 (by decide) ?_
      exact l_end C hα hM1 hM1.1 hOt (hM1.2.2.2.1.wk (fun q h => Or.inl h)) hr hlk rfl (by rw [ho]; rfl) (by rw [ho]; rfl) dLaw_thing_24
    · refine W_pc (pc' := 25) rfl ?_
      refine lv_astore (lv' := [(6, .ref q), (0, cr α 0 (some 0)), (1, .int x1), (2, .int x2), (3, .int x3), (4, .int x4), (5, .ref bo)]) hx hb dLaw_thing_25 hl (by decide) rfl (fun ls hl => ?_)
      refine lv_iconst (v := nI 3) hx hb dLaw_thing_27 (by decide) ?_
      exact l_end C hα hM1 hM1.1 hOt (hM1.2.2.2.1.wk (fun q h => Or.inl h)) hr hlk rfl (by rw [ho]; rfl) (by rw [ho]; rfl) dLaw_thing_28
    · refine W_pc (pc' := 29) rfl ?_
      refine lv_astore (lv' := [(6, .ref q), (0, cr α 0 (some 0)), (1, .int x1), (2, .int x2), (3, .int x3), (4, .int x4), (5, .ref bo)]) hx hb dLaw_thing_29 hl (by decide) rfl (fun ls hl => ?_)
      refine lv_iconst (v := nI 4) hx hb dLaw_thing_31 (by decide) ?_
      exact l_end C hα hM1 hM1.1 hOt (hM1.2.2.2.1.wk (fun q h => Or.inl h)) hr hlk rfl (by rw [ho]; rfl) (by rw [ho]; rfl) dLaw_thing_32
  · refine lv_i2l hx hb dLaw_thing_12 rfl ?_
    refine l_storeJ C hM1 h17 hO hKO hbo hb17 dLaw_thing_13 (fun H2 locs2 hP2 hO2 hS2 => ?_)
    refine lv_goto (tgt := 33) hx hb dLaw_thing_14 (by decide) ?_
    refine lv_iconst (v := nI 0) hx hb dLaw_thing_33 (by decide) ?_
    exact l_end C hα hM1 hP2 hO2 hS2 hr hlk rfl (by rw [ho]; rfl) (by rw [ho]; rfl) dLaw_thing_34
theorem cwv_fuel : cCallV RV 44 (cRn 0) yX11_fuel cX11_fuel 4 ((some FieldType.int)) 2 := ⟨⟨wl_in (i := 870) (by decide +kernel), wl_in (i := 871) (by decide +kernel), wl_in (i := 872) (by decide +kernel), wl_in (i := 1) (by decide +kernel), wl_in (i := 873) (by decide +kernel)⟩, rfl, by decide, by decide, by decide +kernel⟩
abbrev rv_fuel : Room := ({ frames := 8, cells := 3, slots := 18, locals := 135 } : Room)
set_option maxHeartbeats 4000000 in
set_option maxRecDepth 100000 in
theorem cv_fuel (l : Launch) (hst : l.stackTraces = false) (D : va_G) (ca : Nat → ClassId) (A : Nat → Prop) (bo : Nat) (cO : ClassId) (α : cAl) (σ : cS) (f : Nat → Int64) (hbo : ¬ A bo) (hb17 : α 17 0 ≠ bo) (x1 : Int32) (x2 : Int32) (o : (Nat ⊕ Int32) × cS) (h : fc_X11_fuel σ x1 x2 = some o) (j : Nat) (hj : ∀ k, o.1 = .inl k → ([4, 1, 3, 2] : List Nat)[j]? = some k) : lMet false l yLaw_fuel cLaw_fuel 5 (lHh [4, 1, 3, 2] 10 (fun j => ([13, 17, 21, 25] : List Nat).getD j 0)) rv_fuel 3 18 D ca A bo α σ [cr α 0 (some 0), .int x1, .int x2, .ref bo] (lO bo cO f) [(cO, .long)] (lK j o.1) o.2 (lO bo cO (lV (fun x => vp_updL f 0 (x.toInt64)) f o.1)) := by
  refine va_MetW (hh := (lHh [4, 1, 3, 2] 10 (fun j => ([13, 17, 21, 25] : List Nat).getD j 0))) (cc := cLaw_fuel) (maxL := 5) (ret := some .int) (by decide) rfl ?_
  intro p e s m args below meth c s₁ B hml hv
  obtain ⟨rfl, ⟨hP, hK, hD0, hSh, hA, hG⟩, hO, hKO, hN⟩ := hv
  have hts := atoms_spec (ws := lWs yLaw_fuel cLaw_fuel 5 (lHh [4, 1, 3, 2] 10 (fun j => ([13, 17, 21, 25] : List Nat).getD j 0))) B.pre
  have C : cC p s m _ c cLaw_fuel 5 RV D ca A α := ⟨B.exec, B.bytes, hml, findClass_of_methodNamed B.named, fun w hw => hts w (List.mem_cons_of_mem _ hw), hK, hG⟩
  have hM : cM D ca true A s.heap σ α σ α s.heap [] := ⟨hP, hD0, hSh, va_S.rf, hA, cX.rf⟩
  have htab := vx_table (x := yLaw_fuel) B (hts _ List.mem_cons_self)
  have h17 := c_17 hM
  have hr := B.returns
  have hlk := B.notSynchronized
  have hx := C.1
  have hb := C.2.1
  have hl := lv_entry ([cr α 0 (some 0), .int x1, .int x2, .ref bo]) (n := 5) (Nat.le_of_ble_eq_true rfl)
  rw [lg_entry_eq]
  generalize (lg_sl ([cr α 0 (some 0), .int x1, .int x2, .ref bo]) ++ List.replicate (5 - (lg_sl ([cr α 0 (some 0), .int x1, .int x2, .ref bo])).length) Slot.unset).toArray = ls at hl ⊢
  have hl : lv_has ls 5 [(0, cr α 0 (some 0)), (1, .int x1), (2, .int x2), (3, .ref bo)] := hl
  refine lv_aload_n hx hb dLaw_fuel_0 rfl (lv_at hl 3 rfl) ?_
  refine lv_iconst (v := (0 : Int32)) hx hb dLaw_fuel_1 (by decide) ?_
  refine c_aload_n (t := 0) (x := (some 0)) hx hb dLaw_fuel_2 rfl (lv_at hl 0 rfl) ?_
  refine lv_iload_n hx hb dLaw_fuel_3 rfl (lv_at hl 1 rfl) ?_
  refine lv_iload_n hx hb dLaw_fuel_4 rfl (lv_at hl 2 rfl) ?_
  refine l_call (tv := fun v => .int v) (As := [.int x1, .int x2]) (rest := [.int 0, .ref bo]) C hM (cc_X11_fuel l hst D ca A α σ x1 x2 o h) cwv_fuel ⟨rfl, rfl⟩ ⟨Nat.le_of_ble_eq_true rfl, Nat.le_of_ble_eq_true rfl⟩ rfl rfl (cats_le _ (Nat.le_of_ble_eq_true rfl)) hl.1 dLaw_fuel_5 ⟨Nat.le_of_ble_eq_true rfl, Nat.le_of_ble_eq_true rfl⟩ (fun k q ce H1 locs1 α1 ho hα hM1 h1 h2 h3 => ?_) (fun v H1 locs1 α1 ho hα hM1 => ?_)
  · have hjk := hj k ho
    have hOt := l_out hO (fun q hq => by rw [List.mem_singleton] at hq; rw [hq]; exact hbo) hM1
    refine l_catch (k := k) (j := j) C.2.2.2.1 C.2.2.2.2.1 hG.1.2.2.2 hN htab (by decide) (by decide) (by decide) hjk h1 h2 h3 ?_
    have hjl : j < 4 := (List.getElem?_eq_some_iff.mp hjk).1
    rcases (show j = 0 ∨ j = 1 ∨ j = 2 ∨ j = 3 by omega) with rfl | rfl | rfl | rfl
    · refine W_pc (pc' := 13) rfl ?_
      refine lv_astore (lv' := [(4, .ref q), (0, cr α 0 (some 0)), (1, .int x1), (2, .int x2), (3, .ref bo)]) hx hb dLaw_fuel_13 hl (by decide) rfl (fun ls hl => ?_)
      refine lv_iconst (v := nI 1) hx hb dLaw_fuel_15 (by decide) ?_
      exact l_end C hα hM1 hM1.1 hOt (hM1.2.2.2.1.wk (fun q h => Or.inl h)) hr hlk rfl (by rw [ho]; rfl) (by rw [ho]; rfl) dLaw_fuel_16
    · refine W_pc (pc' := 17) rfl ?_
      refine lv_astore (lv' := [(4, .ref q), (0, cr α 0 (some 0)), (1, .int x1), (2, .int x2), (3, .ref bo)]) hx hb dLaw_fuel_17 hl (by decide) rfl (fun ls hl => ?_)
      refine lv_iconst (v := nI 2) hx hb dLaw_fuel_19 (by decide) ?_
      exact l_end C hα hM1 hM1.1 hOt (hM1.2.2.2.1.wk (fun q h => Or.inl h)) hr hlk rfl (by rw [ho]; rfl) (by rw [ho]; rfl) dLaw_fuel_20
    · refine W_pc (pc' := 21) rfl ?_
      refine lv_astore (lv' := [(4, .ref q), (0, cr α 0 (some 0)), (1, .int x1), (2, .int x2), (3, .ref bo)]) hx hb dLaw_fuel_21 hl (by decide) rfl (fun ls hl => ?_)
      refine lv_iconst (v := nI 3) hx hb dLaw_fuel_23 (by decide) ?_
      exact l_end C hα hM1 hM1.1 hOt (hM1.2.2.2.1.wk (fun q h => Or.inl h)) hr hlk rfl (by rw [ho]; rfl) (by rw [ho]; rfl) dLaw_fuel_24
    · refine W_pc (pc' := 25) rfl ?_
      refine lv_astore (lv' := [(4, .ref q), (0, cr α 0 (some 0)), (1, .int x1), (2, .int x2), (3, .ref bo)]) hx hb dLaw_fuel_25 hl (by decide) rfl (fun ls hl => ?_)
      refine lv_iconst (v := nI 4) hx hb dLaw_fuel_27 (by decide) ?_
      exact l_end C hα hM1 hM1.1 hOt (hM1.2.2.2.1.wk (fun q h => Or.inl h)) hr hlk rfl (by rw [ho]; rfl) (by rw [ho]; rfl) dLaw_fuel_28
  · refine lv_i2l hx hb dLaw_fuel_8 rfl ?_
    refine l_storeJ C hM1 h17 hO hKO hbo hb17 dLaw_fuel_9 (fun H2 locs2 hP2 hO2 hS2 => ?_)
    refine lv_goto (tgt := 29) hx hb dLaw_fuel_10 (by decide) ?_
    refine lv_iconst (v := nI 0) hx hb dLaw_fuel_29 (by decide) ?_
    exact l_end C hα hM1 hP2 hO2 hS2 hr hlk rfl (by rw [ho]; rfl) (by rw [ho]; rfl) dLaw_fuel_30
theorem cwv_tell : cCallV RV 47 (cRn 0) yX11_tell cX11_tell 3 ((some FieldType.int)) 2 := ⟨⟨wl_in (i := 883) (by decide +kernel), wl_in (i := 884) (by decide +kernel), wl_in (i := 885) (by decide +kernel), wl_in (i := 1) (by decide +kernel), wl_in (i := 886) (by decide +kernel)⟩, rfl, by decide, by decide, by decide +kernel⟩
abbrev rv_tell : Room := ({ frames := 8, cells := 3, slots := 18, locals := 133 } : Room)
set_option maxHeartbeats 4000000 in
set_option maxRecDepth 100000 in
theorem cv_tell (l : Launch) (hst : l.stackTraces = false) (D : va_G) (ca : Nat → ClassId) (A : Nat → Prop) (bo : Nat) (cO : ClassId) (α : cAl) (σ : cS) (f : Nat → Int64) (hbo : ¬ A bo) (hb17 : α 17 0 ≠ bo) (x1 : Int32) (x2 : Int32) (o : (Nat ⊕ Int32) × cS) (h : fc_X11_tell σ x1 x2 = some o) (j : Nat) (hj : ∀ k, o.1 = .inl k → ([4, 2] : List Nat)[j]? = some k) : lMet false l yLaw_tell cLaw_tell 5 (lHh [4, 2] 10 (fun j => ([13, 17] : List Nat).getD j 0)) rv_tell 3 18 D ca A bo α σ [cr α 0 (some 0), .int x1, .int x2, .ref bo] (lO bo cO f) [(cO, .long)] (lK j o.1) o.2 (lO bo cO (lV (fun x => vp_updL f 0 (x.toInt64)) f o.1)) := by
  refine va_MetW (hh := (lHh [4, 2] 10 (fun j => ([13, 17] : List Nat).getD j 0))) (cc := cLaw_tell) (maxL := 5) (ret := some .int) (by decide) rfl ?_
  intro p e s m args below meth c s₁ B hml hv
  obtain ⟨rfl, ⟨hP, hK, hD0, hSh, hA, hG⟩, hO, hKO, hN⟩ := hv
  have hts := atoms_spec (ws := lWs yLaw_tell cLaw_tell 5 (lHh [4, 2] 10 (fun j => ([13, 17] : List Nat).getD j 0))) B.pre
  have C : cC p s m _ c cLaw_tell 5 RV D ca A α := ⟨B.exec, B.bytes, hml, findClass_of_methodNamed B.named, fun w hw => hts w (List.mem_cons_of_mem _ hw), hK, hG⟩
  have hM : cM D ca true A s.heap σ α σ α s.heap [] := ⟨hP, hD0, hSh, va_S.rf, hA, cX.rf⟩
  have htab := vx_table (x := yLaw_tell) B (hts _ List.mem_cons_self)
  have h17 := c_17 hM
  have hr := B.returns
  have hlk := B.notSynchronized
  have hx := C.1
  have hb := C.2.1
  have hl := lv_entry ([cr α 0 (some 0), .int x1, .int x2, .ref bo]) (n := 5) (Nat.le_of_ble_eq_true rfl)
  rw [lg_entry_eq]
  generalize (lg_sl ([cr α 0 (some 0), .int x1, .int x2, .ref bo]) ++ List.replicate (5 - (lg_sl ([cr α 0 (some 0), .int x1, .int x2, .ref bo])).length) Slot.unset).toArray = ls at hl ⊢
  have hl : lv_has ls 5 [(0, cr α 0 (some 0)), (1, .int x1), (2, .int x2), (3, .ref bo)] := hl
  refine lv_aload_n hx hb dLaw_tell_0 rfl (lv_at hl 3 rfl) ?_
  refine lv_iconst (v := (0 : Int32)) hx hb dLaw_tell_1 (by decide) ?_
  refine c_aload_n (t := 0) (x := (some 0)) hx hb dLaw_tell_2 rfl (lv_at hl 0 rfl) ?_
  refine lv_iload_n hx hb dLaw_tell_3 rfl (lv_at hl 1 rfl) ?_
  refine lv_iload_n hx hb dLaw_tell_4 rfl (lv_at hl 2 rfl) ?_
  refine l_call (tv := fun v => .int v) (As := [.int x1, .int x2]) (rest := [.int 0, .ref bo]) C hM (cc_X11_tell l hst D ca A α σ x1 x2 o h) cwv_tell ⟨rfl, rfl⟩ ⟨Nat.le_of_ble_eq_true rfl, Nat.le_of_ble_eq_true rfl⟩ rfl rfl (cats_le _ (Nat.le_of_ble_eq_true rfl)) hl.1 dLaw_tell_5 ⟨Nat.le_of_ble_eq_true rfl, Nat.le_of_ble_eq_true rfl⟩ (fun k q ce H1 locs1 α1 ho hα hM1 h1 h2 h3 => ?_) (fun v H1 locs1 α1 ho hα hM1 => ?_)
  · have hjk := hj k ho
    have hOt := l_out hO (fun q hq => by rw [List.mem_singleton] at hq; rw [hq]; exact hbo) hM1
    refine l_catch (k := k) (j := j) C.2.2.2.1 C.2.2.2.2.1 hG.1.2.2.2 hN htab (by decide) (by decide) (by decide) hjk h1 h2 h3 ?_
    have hjl : j < 2 := (List.getElem?_eq_some_iff.mp hjk).1
    rcases (show j = 0 ∨ j = 1 by omega) with rfl | rfl
    · refine W_pc (pc' := 13) rfl ?_
      refine lv_astore (lv' := [(4, .ref q), (0, cr α 0 (some 0)), (1, .int x1), (2, .int x2), (3, .ref bo)]) hx hb dLaw_tell_13 hl (by decide) rfl (fun ls hl => ?_)
      refine lv_iconst (v := nI 1) hx hb dLaw_tell_15 (by decide) ?_
      exact l_end C hα hM1 hM1.1 hOt (hM1.2.2.2.1.wk (fun q h => Or.inl h)) hr hlk rfl (by rw [ho]; rfl) (by rw [ho]; rfl) dLaw_tell_16
    · refine W_pc (pc' := 17) rfl ?_
      refine lv_astore (lv' := [(4, .ref q), (0, cr α 0 (some 0)), (1, .int x1), (2, .int x2), (3, .ref bo)]) hx hb dLaw_tell_17 hl (by decide) rfl (fun ls hl => ?_)
      refine lv_iconst (v := nI 2) hx hb dLaw_tell_19 (by decide) ?_
      exact l_end C hα hM1 hM1.1 hOt (hM1.2.2.2.1.wk (fun q h => Or.inl h)) hr hlk rfl (by rw [ho]; rfl) (by rw [ho]; rfl) dLaw_tell_20
  · refine lv_i2l hx hb dLaw_tell_8 rfl ?_
    refine l_storeJ C hM1 h17 hO hKO hbo hb17 dLaw_tell_9 (fun H2 locs2 hP2 hO2 hS2 => ?_)
    refine lv_goto (tgt := 21) hx hb dLaw_tell_10 (by decide) ?_
    refine lv_iconst (v := nI 0) hx hb dLaw_tell_21 (by decide) ?_
    exact l_end C hα hM1 hP2 hO2 hS2 hr hlk rfl (by rw [ho]; rfl) (by rw [ho]; rfl) dLaw_tell_22
theorem cwv_goal : cCallV RV 50 (cRn 0) yX11_goal cX11_goal 3 ((some FieldType.int)) 2 := ⟨⟨wl_in (i := 890) (by decide +kernel), wl_in (i := 891) (by decide +kernel), wl_in (i := 892) (by decide +kernel), wl_in (i := 1) (by decide +kernel), wl_in (i := 893) (by decide +kernel)⟩, rfl, by decide, by decide, by decide +kernel⟩
abbrev rv_goal : Room := ({ frames := 8, cells := 4, slots := 24, locals := 133 } : Room)
set_option maxHeartbeats 4000000 in
set_option maxRecDepth 100000 in
theorem cv_goal (l : Launch) (hst : l.stackTraces = false) (D : va_G) (ca : Nat → ClassId) (A : Nat → Prop) (bo : Nat) (cO : ClassId) (α : cAl) (σ : cS) (f : Nat → Int64) (hbo : ¬ A bo) (hb17 : α 17 0 ≠ bo) (x1 : Int32) (x2 : Int32) (o : (Nat ⊕ Int32) × cS) (h : fc_X11_goal σ x1 x2 = some o) (j : Nat) (hj : ∀ k, o.1 = .inl k → ([4, 2] : List Nat)[j]? = some k) : lMet false l yLaw_goal cLaw_goal 5 (lHh [4, 2] 10 (fun j => ([13, 17] : List Nat).getD j 0)) rv_goal 4 24 D ca A bo α σ [cr α 0 (some 0), .int x1, .int x2, .ref bo] (lO bo cO f) [(cO, .long)] (lK j o.1) o.2 (lO bo cO (lV (fun x => vp_updL f 0 (x.toInt64)) f o.1)) := by
  refine va_MetW (hh := (lHh [4, 2] 10 (fun j => ([13, 17] : List Nat).getD j 0))) (cc := cLaw_goal) (maxL := 5) (ret := some .int) (by decide) rfl ?_
  intro p e s m args below meth c s₁ B hml hv
  obtain ⟨rfl, ⟨hP, hK, hD0, hSh, hA, hG⟩, hO, hKO, hN⟩ := hv
  have hts := atoms_spec (ws := lWs yLaw_goal cLaw_goal 5 (lHh [4, 2] 10 (fun j => ([13, 17] : List Nat).getD j 0))) B.pre
  have C : cC p s m _ c cLaw_goal 5 RV D ca A α := ⟨B.exec, B.bytes, hml, findClass_of_methodNamed B.named, fun w hw => hts w (List.mem_cons_of_mem _ hw), hK, hG⟩
  have hM : cM D ca true A s.heap σ α σ α s.heap [] := ⟨hP, hD0, hSh, va_S.rf, hA, cX.rf⟩
  have htab := vx_table (x := yLaw_goal) B (hts _ List.mem_cons_self)
  have h17 := c_17 hM
  have hr := B.returns
  have hlk := B.notSynchronized
  have hx := C.1
  have hb := C.2.1
  have hl := lv_entry ([cr α 0 (some 0), .int x1, .int x2, .ref bo]) (n := 5) (Nat.le_of_ble_eq_true rfl)
  rw [lg_entry_eq]
  generalize (lg_sl ([cr α 0 (some 0), .int x1, .int x2, .ref bo]) ++ List.replicate (5 - (lg_sl ([cr α 0 (some 0), .int x1, .int x2, .ref bo])).length) Slot.unset).toArray = ls at hl ⊢
  have hl : lv_has ls 5 [(0, cr α 0 (some 0)), (1, .int x1), (2, .int x2), (3, .ref bo)] := hl
  refine lv_aload_n hx hb dLaw_goal_0 rfl (lv_at hl 3 rfl) ?_
  refine lv_iconst (v := (0 : Int32)) hx hb dLaw_goal_1 (by decide) ?_
  refine c_aload_n (t := 0) (x := (some 0)) hx hb dLaw_goal_2 rfl (lv_at hl 0 rfl) ?_
  refine lv_iload_n hx hb dLaw_goal_3 rfl (lv_at hl 1 rfl) ?_
  refine lv_iload_n hx hb dLaw_goal_4 rfl (lv_at hl 2 rfl) ?_
  refine l_call (tv := fun v => .int v) (As := [.int x1, .int x2]) (rest := [.int 0, .ref bo]) C hM (cc_X11_goal l hst D ca A α σ x1 x2 o h) cwv_goal ⟨rfl, rfl⟩ ⟨Nat.le_of_ble_eq_true rfl, Nat.le_of_ble_eq_true rfl⟩ rfl rfl (cats_le _ (Nat.le_of_ble_eq_true rfl)) hl.1 dLaw_goal_5 ⟨Nat.le_of_ble_eq_true rfl, Nat.le_of_ble_eq_true rfl⟩ (fun k q ce H1 locs1 α1 ho hα hM1 h1 h2 h3 => ?_) (fun v H1 locs1 α1 ho hα hM1 => ?_)
  · have hjk := hj k ho
    have hOt := l_out hO (fun q hq => by rw [List.mem_singleton] at hq; rw [hq]; exact hbo) hM1
    refine l_catch (k := k) (j := j) C.2.2.2.1 C.2.2.2.2.1 hG.1.2.2.2 hN htab (by decide) (by decide) (by decide) hjk h1 h2 h3 ?_
    have hjl : j < 2 := (List.getElem?_eq_some_iff.mp hjk).1
    rcases (show j = 0 ∨ j = 1 by omega) with rfl | rfl
    · refine W_pc (pc' := 13) rfl ?_
      refine lv_astore (lv' := [(4, .ref q), (0, cr α 0 (some 0)), (1, .int x1), (2, .int x2), (3, .ref bo)]) hx hb dLaw_goal_13 hl (by decide) rfl (fun ls hl => ?_)
      refine lv_iconst (v := nI 1) hx hb dLaw_goal_15 (by decide) ?_
      exact l_end C hα hM1 hM1.1 hOt (hM1.2.2.2.1.wk (fun q h => Or.inl h)) hr hlk rfl (by rw [ho]; rfl) (by rw [ho]; rfl) dLaw_goal_16
    · refine W_pc (pc' := 17) rfl ?_
      refine lv_astore (lv' := [(4, .ref q), (0, cr α 0 (some 0)), (1, .int x1), (2, .int x2), (3, .ref bo)]) hx hb dLaw_goal_17 hl (by decide) rfl (fun ls hl => ?_)
      refine lv_iconst (v := nI 2) hx hb dLaw_goal_19 (by decide) ?_
      exact l_end C hα hM1 hM1.1 hOt (hM1.2.2.2.1.wk (fun q h => Or.inl h)) hr hlk rfl (by rw [ho]; rfl) (by rw [ho]; rfl) dLaw_goal_20
  · refine lv_i2l hx hb dLaw_goal_8 rfl ?_
    refine l_storeJ C hM1 h17 hO hKO hbo hb17 dLaw_goal_9 (fun H2 locs2 hP2 hO2 hS2 => ?_)
    refine lv_goto (tgt := 21) hx hb dLaw_goal_10 (by decide) ?_
    refine lv_iconst (v := nI 0) hx hb dLaw_goal_21 (by decide) ?_
    exact l_end C hα hM1 hP2 hO2 hS2 hr hlk rfl (by rw [ho]; rfl) (by rw [ho]; rfl) dLaw_goal_22
