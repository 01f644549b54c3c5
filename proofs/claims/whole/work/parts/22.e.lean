/-! The law's own methods: contracts. -/
theorem cwv_hint : cCallV RV 53 (cRn 0) yX11_hint cX11_hint 2 ((some FieldType.int)) 1 := ⟨⟨wl_in (i := 898) (by decide +kernel), wl_in (i := 899) (by decide +kernel), wl_in (i := 900) (by decide +kernel), wl_in (i := 1) (by decide +kernel), wl_in (i := 901) (by decide +kernel)⟩, rfl, by decide, by decide, by decide +kernel⟩
abbrev rv_hint : Room := ({ frames := 7, cells := 1, slots := 6, locals := 111 } : Room)
set_option maxHeartbeats 4000000 in
set_option maxRecDepth 100000 in
theorem cv_hint (l : Launch) (hst : l.stackTraces = false) (D : va_G) (ca : Nat → ClassId) (A : Nat → Prop) (bo : Nat) (cO : ClassId) (α : cAl) (σ : cS) (f : Nat → Int64) (hbo : ¬ A bo) (hb17 : α 17 0 ≠ bo) (x1 : Int32) (o : (Nat ⊕ Int32) × cS) (h : fc_X11_hint σ x1 = some o) (j : Nat) (hj : ∀ k, o.1 = .inl k → ([1, 2] : List Nat)[j]? = some k) : lMet false l yLaw_hint cLaw_hint 4 (lHh [1, 2] 9 (fun j => ([12, 15] : List Nat).getD j 0)) rv_hint 1 6 D ca A bo α σ [cr α 0 (some 0), .int x1, .ref bo] (lO bo cO f) [(cO, .long)] (lK j o.1) o.2 (lO bo cO (lV (fun x => vp_updL f 0 (x.toInt64)) f o.1)) := by
  refine va_MetW (hh := (lHh [1, 2] 9 (fun j => ([12, 15] : List Nat).getD j 0))) (cc := cLaw_hint) (maxL := 4) (ret := some .int) (by decide) rfl ?_
  intro p e s m args below meth c s₁ B hml hv
  obtain ⟨rfl, ⟨hP, hK, hD0, hSh, hA, hG⟩, hO, hKO, hN⟩ := hv
  have hts := atoms_spec (ws := lWs yLaw_hint cLaw_hint 4 (lHh [1, 2] 9 (fun j => ([12, 15] : List Nat).getD j 0))) B.pre
  have C : cC p s m _ c cLaw_hint 4 RV D ca A α := ⟨B.exec, B.bytes, hml, findClass_of_methodNamed B.named, fun w hw => hts w (List.mem_cons_of_mem _ hw), hK, hG⟩
  have hM : cM D ca true A s.heap σ α σ α s.heap [] := ⟨hP, hD0, hSh, va_S.rf, hA, cX.rf⟩
  have htab := vx_table (x := yLaw_hint) B (hts _ List.mem_cons_self)
  have h17 := c_17 hM
  have hr := B.returns
  have hlk := B.notSynchronized
  have hx := C.1
  have hb := C.2.1
  have hl := lv_entry ([cr α 0 (some 0), .int x1, .ref bo]) (n := 4) (Nat.le_of_ble_eq_true rfl)
  rw [lg_entry_eq]
  generalize (lg_sl ([cr α 0 (some 0), .int x1, .ref bo]) ++ List.replicate (4 - (lg_sl ([cr α 0 (some 0), .int x1, .ref bo])).length) Slot.unset).toArray = ls at hl ⊢
  have hl : lv_has ls 4 [(0, cr α 0 (some 0)), (1, .int x1), (2, .ref bo)] := hl
  refine lv_aload_n hx hb dLaw_hint_0 rfl (lv_at hl 2 rfl) ?_
  refine lv_iconst (v := (0 : Int32)) hx hb dLaw_hint_1 (by decide) ?_
  refine c_aload_n (t := 0) (x := (some 0)) hx hb dLaw_hint_2 rfl (lv_at hl 0 rfl) ?_
  refine lv_iload_n hx hb dLaw_hint_3 rfl (lv_at hl 1 rfl) ?_
  refine l_call (tv := fun v => .int v) (As := [.int x1]) (rest := [.int 0, .ref bo]) C hM (cc_X11_hint l hst D ca A α σ x1 o h) cwv_hint ⟨rfl, rfl⟩ ⟨Nat.le_of_ble_eq_true rfl, Nat.le_of_ble_eq_true rfl⟩ rfl rfl (cats_le _ (Nat.le_of_ble_eq_true rfl)) hl.1 dLaw_hint_4 ⟨Nat.le_of_ble_eq_true rfl, Nat.le_of_ble_eq_true rfl⟩ (fun k q ce H1 locs1 α1 ho hα hM1 h1 h2 h3 => ?_) (fun v H1 locs1 α1 ho hα hM1 => ?_)
  · have hjk := hj k ho
    have hOt := l_out hO (fun q hq => by rw [List.mem_singleton] at hq; rw [hq]; exact hbo) hM1
    refine l_catch (k := k) (j := j) C.2.2.2.1 C.2.2.2.2.1 hG.1.2.2.2 hN htab (by decide) (by decide) (by decide) hjk h1 h2 h3 ?_
    have hjl : j < 2 := (List.getElem?_eq_some_iff.mp hjk).1
    rcases (show j = 0 ∨ j = 1 by omega) with rfl | rfl
    · refine W_pc (pc' := 12) rfl ?_
      refine lv_astore_n (lv' := [(3, .ref q), (0, cr α 0 (some 0)), (1, .int x1), (2, .ref bo)]) hx hb dLaw_hint_12 rfl hl (by decide) rfl (fun ls hl => ?_)
      refine lv_iconst (v := nI 1) hx hb dLaw_hint_13 (by decide) ?_
      exact l_end C hα hM1 hM1.1 hOt (hM1.2.2.2.1.wk (fun q h => Or.inl h)) hr hlk rfl (by rw [ho]; rfl) (by rw [ho]; rfl) dLaw_hint_14
    · refine W_pc (pc' := 15) rfl ?_
      refine lv_astore_n (lv' := [(3, .ref q), (0, cr α 0 (some 0)), (1, .int x1), (2, .ref bo)]) hx hb dLaw_hint_15 rfl hl (by decide) rfl (fun ls hl => ?_)
      refine lv_iconst (v := nI 2) hx hb dLaw_hint_16 (by decide) ?_
      exact l_end C hα hM1 hM1.1 hOt (hM1.2.2.2.1.wk (fun q h => Or.inl h)) hr hlk rfl (by rw [ho]; rfl) (by rw [ho]; rfl) dLaw_hint_17
  · refine lv_i2l hx hb dLaw_hint_7 rfl ?_
    refine l_storeJ C hM1 h17 hO hKO hbo hb17 dLaw_hint_8 (fun H2 locs2 hP2 hO2 hS2 => ?_)
    refine lv_goto (tgt := 18) hx hb dLaw_hint_9 (by decide) ?_
    refine lv_iconst (v := nI 0) hx hb dLaw_hint_18 (by decide) ?_
    exact l_end C hα hM1 hP2 hO2 hS2 hr hlk rfl (by rw [ho]; rfl) (by rw [ho]; rfl) dLaw_hint_19
theorem cwv_teach : cCallV RV 57 (cRn 0) yX11_teach cX11_teach 5 ((some FieldType.int)) 2 := ⟨⟨wl_in (i := 907) (by decide +kernel), wl_in (i := 908) (by decide +kernel), wl_in (i := 909) (by decide +kernel), wl_in (i := 1) (by decide +kernel), wl_in (i := 910) (by decide +kernel)⟩, rfl, by decide, by decide, by decide +kernel⟩
abbrev rv_teach : Room := ({ frames := 8, cells := 3, slots := 18, locals := 148 } : Room)
set_option maxHeartbeats 4000000 in
set_option maxRecDepth 100000 in
theorem cv_teach (l : Launch) (hst : l.stackTraces = false) (D : va_G) (ca : Nat → ClassId) (A : Nat → Prop) (bo : Nat) (cO : ClassId) (α : cAl) (σ : cS) (f : Nat → Int64) (hbo : ¬ A bo) (hb17 : α 17 0 ≠ bo) (x1 : Int32) (x2 : Int32) (o : (Nat ⊕ Int32) × cS) (h : fc_X11_teach σ x1 x2 = some o) (j : Nat) (hj : ∀ k, o.1 = .inl k → ([4, 3, 2] : List Nat)[j]? = some k) : lMet false l yLaw_teach cLaw_teach 5 (lHh [4, 3, 2] 10 (fun j => ([13, 17, 21] : List Nat).getD j 0)) rv_teach 3 18 D ca A bo α σ [cr α 0 (some 0), .int x1, .int x2, .ref bo] (lO bo cO f) [(cO, .long)] (lK j o.1) o.2 (lO bo cO (lV (fun x => vp_updL f 0 (x.toInt64)) f o.1)) := by
  refine va_MetW (hh := (lHh [4, 3, 2] 10 (fun j => ([13, 17, 21] : List Nat).getD j 0))) (cc := cLaw_teach) (maxL := 5) (ret := some .int) (by decide) rfl ?_
  intro p e s m args below meth c s₁ B hml hv
  obtain ⟨rfl, ⟨hP, hK, hD0, hSh, hA, hG⟩, hO, hKO, hN⟩ := hv
  have hts := atoms_spec (ws := lWs yLaw_teach cLaw_teach 5 (lHh [4, 3, 2] 10 (fun j => ([13, 17, 21] : List Nat).getD j 0))) B.pre
  have C : cC p s m _ c cLaw_teach 5 RV D ca A α := ⟨B.exec, B.bytes, hml, findClass_of_methodNamed B.named, fun w hw => hts w (List.mem_cons_of_mem _ hw), hK, hG⟩
  have hM : cM D ca true A s.heap σ α σ α s.heap [] := ⟨hP, hD0, hSh, va_S.rf, hA, cX.rf⟩
  have htab := vx_table (x := yLaw_teach) B (hts _ List.mem_cons_self)
  have h17 := c_17 hM
  have hr := B.returns
  have hlk := B.notSynchronized
  have hx := C.1
  have hb := C.2.1
  have hl := lv_entry ([cr α 0 (some 0), .int x1, .int x2, .ref bo]) (n := 5) (Nat.le_of_ble_eq_true rfl)
  rw [lg_entry_eq]
  generalize (lg_sl ([cr α 0 (some 0), .int x1, .int x2, .ref bo]) ++ List.replicate (5 - (lg_sl ([cr α 0 (some 0), .int x1, .int x2, .ref bo])).length) Slot.unset).toArray = ls at hl ⊢
  have hl : lv_has ls 5 [(0, cr α 0 (some 0)), (1, .int x1), (2, .int x2), (3, .ref bo)] := hl
  refine lv_aload_n hx hb dLaw_teach_0 rfl (lv_at hl 3 rfl) ?_
  refine lv_iconst (v := (0 : Int32)) hx hb dLaw_teach_1 (by decide) ?_
  refine c_aload_n (t := 0) (x := (some 0)) hx hb dLaw_teach_2 rfl (lv_at hl 0 rfl) ?_
  refine lv_iload_n hx hb dLaw_teach_3 rfl (lv_at hl 1 rfl) ?_
  refine lv_iload_n hx hb dLaw_teach_4 rfl (lv_at hl 2 rfl) ?_
  refine l_call (tv := fun v => .int v) (As := [.int x1, .int x2]) (rest := [.int 0, .ref bo]) C hM (cc_X11_teach l hst D ca A α σ x1 x2 o h) cwv_teach ⟨rfl, rfl⟩ ⟨Nat.le_of_ble_eq_true rfl, Nat.le_of_ble_eq_true rfl⟩ rfl rfl (cats_le _ (Nat.le_of_ble_eq_true rfl)) hl.1 dLaw_teach_5 ⟨Nat.le_of_ble_eq_true rfl, Nat.le_of_ble_eq_true rfl⟩ (fun k q ce H1 locs1 α1 ho hα hM1 h1 h2 h3 => ?_) (fun v H1 locs1 α1 ho hα hM1 => ?_)
  · have hjk := hj k ho
    have hOt := l_out hO (fun q hq => by rw [List.mem_singleton] at hq; rw [hq]; exact hbo) hM1
    refine l_catch (k := k) (j := j) C.2.2.2.1 C.2.2.2.2.1 hG.1.2.2.2 hN htab (by decide) (by decide) (by decide) hjk h1 h2 h3 ?_
    have hjl : j < 3 := (List.getElem?_eq_some_iff.mp hjk).1
    rcases (show j = 0 ∨ j = 1 ∨ j = 2 by omega) with rfl | rfl | rfl
    · refine W_pc (pc' := 13) rfl ?_
      refine lv_astore (lv' := [(4, .ref q), (0, cr α 0 (some 0)), (1, .int x1), (2, .int x2), (3, .ref bo)]) hx hb dLaw_teach_13 hl (by decide) rfl (fun ls hl => ?_)
      refine lv_iconst (v := nI 1) hx hb dLaw_teach_15 (by decide) ?_
      exact l_end C hα hM1 hM1.1 hOt (hM1.2.2.2.1.wk (fun q h => Or.inl h)) hr hlk rfl (by rw [ho]; rfl) (by rw [ho]; rfl) dLaw_teach_16
    · refine W_pc (pc' := 17) rfl ?_
      refine lv_astore (lv' := [(4, .ref q), (0, cr α 0 (some 0)), (1, .int x1), (2, .int x2), (3, .ref bo)]) hx hb dLaw_teach_17 hl (by decide) rfl (fun ls hl => ?_)
      refine lv_iconst (v := nI 2) hx hb dLaw_teach_19 (by decide) ?_
      exact l_end C hα hM1 hM1.1 hOt (hM1.2.2.2.1.wk (fun q h => Or.inl h)) hr hlk rfl (by rw [ho]; rfl) (by rw [ho]; rfl) dLaw_teach_20
    · refine W_pc (pc' := 21) rfl ?_
      refine lv_astore (lv' := [(4, .ref q), (0, cr α 0 (some 0)), (1, .int x1), (2, .int x2), (3, .ref bo)]) hx hb dLaw_teach_21 hl (by decide) rfl (fun ls hl => ?_)
      refine lv_iconst (v := nI 3) hx hb dLaw_teach_23 (by decide) ?_
      exact l_end C hα hM1 hM1.1 hOt (hM1.2.2.2.1.wk (fun q h => Or.inl h)) hr hlk rfl (by rw [ho]; rfl) (by rw [ho]; rfl) dLaw_teach_24
  · refine lv_i2l hx hb dLaw_teach_8 rfl ?_
    refine l_storeJ C hM1 h17 hO hKO hbo hb17 dLaw_teach_9 (fun H2 locs2 hP2 hO2 hS2 => ?_)
    refine lv_goto (tgt := 25) hx hb dLaw_teach_10 (by decide) ?_
    refine lv_iconst (v := nI 0) hx hb dLaw_teach_25 (by decide) ?_
    exact l_end C hα hM1 hP2 hO2 hS2 hr hlk rfl (by rw [ho]; rfl) (by rw [ho]; rfl) dLaw_teach_26
theorem cwv_begin : cCallV RV 60 (cRn 0) yX11_begin cX11_begin 2 ((some FieldType.int)) 1 := ⟨⟨wl_in (i := 930) (by decide +kernel), wl_in (i := 931) (by decide +kernel), wl_in (i := 932) (by decide +kernel), wl_in (i := 1) (by decide +kernel), wl_in (i := 933) (by decide +kernel)⟩, rfl, by decide, by decide, by decide +kernel⟩
abbrev rv_begin : Room := ({ frames := 10, cells := 9, slots := 261, locals := 276 } : Room)
set_option maxHeartbeats 4000000 in
set_option maxRecDepth 100000 in
theorem cv_begin (l : Launch) (hst : l.stackTraces = false) (D : va_G) (ca : Nat → ClassId) (A : Nat → Prop) (bo : Nat) (cO : ClassId) (α : cAl) (σ : cS) (f : Nat → Int64) (hbo : ¬ A bo) (hb17 : α 17 0 ≠ bo) (x1 : Int32) (o : (Nat ⊕ Int32) × cS) (h : fc_X11_begin σ x1 = some o) (j : Nat) (hj : ∀ k, o.1 = .inl k → ([4, 2] : List Nat)[j]? = some k) : lMet true l yLaw_begin cLaw_begin 4 (lHh [4, 2] 9 (fun j => ([12, 15] : List Nat).getD j 0)) rv_begin 9 261 D ca A bo α σ [cr α 0 (some 0), .int x1, .ref bo] (lO bo cO f) [(cO, .long)] (lK j o.1) o.2 (lO bo cO (lV (fun x => vp_updL f 0 (x.toInt64)) f o.1)) := by
  refine va_MetW (hh := (lHh [4, 2] 9 (fun j => ([12, 15] : List Nat).getD j 0))) (cc := cLaw_begin) (maxL := 4) (ret := some .int) (by decide) rfl ?_
  intro p e s m args below meth c s₁ B hml hv
  obtain ⟨rfl, ⟨hP, hK, hD0, hSh, hA, hG⟩, hO, hKO, hN⟩ := hv
  have hts := atoms_spec (ws := lWs yLaw_begin cLaw_begin 4 (lHh [4, 2] 9 (fun j => ([12, 15] : List Nat).getD j 0))) B.pre
  have C : cC p s m _ c cLaw_begin 4 RV D ca A α := ⟨B.exec, B.bytes, hml, findClass_of_methodNamed B.named, fun w hw => hts w (List.mem_cons_of_mem _ hw), hK, hG⟩
  have hM : cM D ca true A s.heap σ α σ α s.heap [] := ⟨hP, hD0, hSh, va_S.rf, hA, cX.rf⟩
  have htab := vx_table (x := yLaw_begin) B (hts _ List.mem_cons_self)
  have h17 := c_17 hM
  have hr := B.returns
  have hlk := B.notSynchronized
  have hx := C.1
  have hb := C.2.1
  have hl := lv_entry ([cr α 0 (some 0), .int x1, .ref bo]) (n := 4) (Nat.le_of_ble_eq_true rfl)
  rw [lg_entry_eq]
  generalize (lg_sl ([cr α 0 (some 0), .int x1, .ref bo]) ++ List.replicate (4 - (lg_sl ([cr α 0 (some 0), .int x1, .ref bo])).length) Slot.unset).toArray = ls at hl ⊢
  have hl : lv_has ls 4 [(0, cr α 0 (some 0)), (1, .int x1), (2, .ref bo)] := hl
  refine lv_aload_n hx hb dLaw_begin_0 rfl (lv_at hl 2 rfl) ?_
  refine lv_iconst (v := (0 : Int32)) hx hb dLaw_begin_1 (by decide) ?_
  refine c_aload_n (t := 0) (x := (some 0)) hx hb dLaw_begin_2 rfl (lv_at hl 0 rfl) ?_
  refine lv_iload_n hx hb dLaw_begin_3 rfl (lv_at hl 1 rfl) ?_
  refine l_call (tv := fun v => .int v) (As := [.int x1]) (rest := [.int 0, .ref bo]) C hM (cc_X11_begin l hst D ca A α σ x1 o h) cwv_begin ⟨rfl, rfl⟩ ⟨Nat.le_of_ble_eq_true rfl, Nat.le_of_ble_eq_true rfl⟩ rfl rfl (cats_le _ (Nat.le_of_ble_eq_true rfl)) hl.1 dLaw_begin_4 ⟨Nat.le_of_ble_eq_true rfl, Nat.le_of_ble_eq_true rfl⟩ (fun k q ce H1 locs1 α1 ho hα hM1 h1 h2 h3 => ?_) (fun v H1 locs1 α1 ho hα hM1 => ?_)
  · have hjk := hj k ho
    have hOt := l_out hO (fun q hq => by rw [List.mem_singleton] at hq; rw [hq]; exact hbo) hM1
    refine l_catch (k := k) (j := j) C.2.2.2.1 C.2.2.2.2.1 hG.1.2.2.2 hN htab (by decide) (by decide) (by decide) hjk h1 h2 h3 ?_
    have hjl : j < 2 := (List.getElem?_eq_some_iff.mp hjk).1
    rcases (show j = 0 ∨ j = 1 by omega) with rfl | rfl
    · refine W_pc (pc' := 12) rfl ?_
      refine lv_astore_n (lv' := [(3, .ref q), (0, cr α 0 (some 0)), (1, .int x1), (2, .ref bo)]) hx hb dLaw_begin_12 rfl hl (by decide) rfl (fun ls hl => ?_)
      refine lv_iconst (v := nI 1) hx hb dLaw_begin_13 (by decide) ?_
      exact l_end C hα hM1 hM1.1 hOt (hM1.2.2.2.1.wk (fun q h => Or.inl h)) hr hlk rfl (by rw [ho]; rfl) (by rw [ho]; rfl) dLaw_begin_14
    · refine W_pc (pc' := 15) rfl ?_
      refine lv_astore_n (lv' := [(3, .ref q), (0, cr α 0 (some 0)), (1, .int x1), (2, .ref bo)]) hx hb dLaw_begin_15 rfl hl (by decide) rfl (fun ls hl => ?_)
      refine lv_iconst (v := nI 2) hx hb dLaw_begin_16 (by decide) ?_
      exact l_end C hα hM1 hM1.1 hOt (hM1.2.2.2.1.wk (fun q h => Or.inl h)) hr hlk rfl (by rw [ho]; rfl) (by rw [ho]; rfl) dLaw_begin_17
  · refine lv_i2l hx hb dLaw_begin_7 rfl ?_
    refine l_storeJ C hM1 h17 hO hKO hbo hb17 dLaw_begin_8 (fun H2 locs2 hP2 hO2 hS2 => ?_)
    refine lv_goto (tgt := 18) hx hb dLaw_begin_9 (by decide) ?_
    refine lv_iconst (v := nI 0) hx hb dLaw_begin_18 (by decide) ?_
    exact l_end C hα hM1 hP2 hO2 hS2 hr hlk rfl (by rw [ho]; rfl) (by rw [ho]; rfl) dLaw_begin_19
theorem cwv_say : cCallV RV 63 (cRn 0) yX11_say cX11_say 3 ((some FieldType.char)) 0 := ⟨⟨wl_in (i := 1082) (by decide +kernel), wl_in (i := 1083) (by decide +kernel), wl_in (i := 1084) (by decide +kernel), wl_in (i := 1) (by decide +kernel), wl_in (i := 1085) (by decide +kernel)⟩, rfl, by decide, by decide, by decide +kernel⟩
abbrev rv_say : Room := ({ frames := 11, cells := 9, slots := 261, locals := 299 } : Room)
set_option maxHeartbeats 4000000 in
set_option maxRecDepth 100000 in
theorem cv_say (l : Launch) (hst : l.stackTraces = false) (D : va_G) (ca : Nat → ClassId) (A : Nat → Prop) (bo : Nat) (cO : ClassId) (α : cAl) (σ : cS) (f : Nat → Int64) (hbo : ¬ A bo) (hb17 : α 17 0 ≠ bo)  (o : (Nat ⊕ Int32) × cS) (h : fc_X11_say σ = some o) (j : Nat) (hj : ∀ k, o.1 = .inl k → ([2] : List Nat)[j]? = some k) : lMet true l yLaw_say cLaw_say 3 (lHh [2] 8 (fun j => ([11] : List Nat).getD j 0)) rv_say 9 261 D ca A bo α σ [cr α 0 (some 0), .ref bo] (lO bo cO f) [(cO, .long)] (lK j o.1) o.2 (lO bo cO (lV (fun x => vp_updL f 0 (x.toInt64)) f o.1)) := by
  refine va_MetW (hh := (lHh [2] 8 (fun j => ([11] : List Nat).getD j 0))) (cc := cLaw_say) (maxL := 3) (ret := some .int) (by decide) rfl ?_
  intro p e s m args below meth c s₁ B hml hv
  obtain ⟨rfl, ⟨hP, hK, hD0, hSh, hA, hG⟩, hO, hKO, hN⟩ := hv
  have hts := atoms_spec (ws := lWs yLaw_say cLaw_say 3 (lHh [2] 8 (fun j => ([11] : List Nat).getD j 0))) B.pre
  have C : cC p s m _ c cLaw_say 3 RV D ca A α := ⟨B.exec, B.bytes, hml, findClass_of_methodNamed B.named, fun w hw => hts w (List.mem_cons_of_mem _ hw), hK, hG⟩
  have hM : cM D ca true A s.heap σ α σ α s.heap [] := ⟨hP, hD0, hSh, va_S.rf, hA, cX.rf⟩
  have htab := vx_table (x := yLaw_say) B (hts _ List.mem_cons_self)
  have h17 := c_17 hM
  have hr := B.returns
  have hlk := B.notSynchronized
  have hx := C.1
  have hb := C.2.1
  have hl := lv_entry ([cr α 0 (some 0), .ref bo]) (n := 3) (Nat.le_of_ble_eq_true rfl)
  rw [lg_entry_eq]
  generalize (lg_sl ([cr α 0 (some 0), .ref bo]) ++ List.replicate (3 - (lg_sl ([cr α 0 (some 0), .ref bo])).length) Slot.unset).toArray = ls at hl ⊢
  have hl : lv_has ls 3 [(0, cr α 0 (some 0)), (1, .ref bo)] := hl
  refine lv_aload_n hx hb dLaw_say_0 rfl (lv_at hl 1 rfl) ?_
  refine lv_iconst (v := (0 : Int32)) hx hb dLaw_say_1 (by decide) ?_
  refine c_aload_n (t := 0) (x := (some 0)) hx hb dLaw_say_2 rfl (lv_at hl 0 rfl) ?_
  refine l_call (tv := fun v => .int v) (As := []) (rest := [.int 0, .ref bo]) C hM (cc_X11_say l hst D ca A α σ  o h) cwv_say ⟨rfl, rfl⟩ ⟨Nat.le_of_ble_eq_true rfl, Nat.le_of_ble_eq_true rfl⟩ rfl rfl (cats_le _ (Nat.le_of_ble_eq_true rfl)) hl.1 dLaw_say_3 ⟨Nat.le_of_ble_eq_true rfl, Nat.le_of_ble_eq_true rfl⟩ (fun k q ce H1 locs1 α1 ho hα hM1 h1 h2 h3 => ?_) (fun v H1 locs1 α1 ho hα hM1 => ?_)
  · have hjk := hj k ho
    have hOt := l_out hO (fun q hq => by rw [List.mem_singleton] at hq; rw [hq]; exact hbo) hM1
    refine l_catch (k := k) (j := j) C.2.2.2.1 C.2.2.2.2.1 hG.1.2.2.2 hN htab (by decide) (by decide) (by decide) hjk h1 h2 h3 ?_
    have hjl : j < 1 := (List.getElem?_eq_some_iff.mp hjk).1
    rcases (show j = 0 by omega) with rfl
    · refine W_pc (pc' := 11) rfl ?_
      refine lv_astore_n (lv' := [(2, .ref q), (0, cr α 0 (some 0)), (1, .ref bo)]) hx hb dLaw_say_11 rfl hl (by decide) rfl (fun ls hl => ?_)
      refine lv_iconst (v := nI 1) hx hb dLaw_say_12 (by decide) ?_
      exact l_end C hα hM1 hM1.1 hOt (hM1.2.2.2.1.wk (fun q h => Or.inl h)) hr hlk rfl (by rw [ho]; rfl) (by rw [ho]; rfl) dLaw_say_13
  · refine lv_i2l hx hb dLaw_say_6 rfl ?_
    refine l_storeJ C hM1 h17 hO hKO hbo hb17 dLaw_say_7 (fun H2 locs2 hP2 hO2 hS2 => ?_)
    refine lv_goto (tgt := 14) hx hb dLaw_say_8 (by decide) ?_
    refine lv_iconst (v := nI 0) hx hb dLaw_say_14 (by decide) ?_
    exact l_end C hα hM1 hP2 hO2 hS2 hr hlk rfl (by rw [ho]; rfl) (by rw [ho]; rfl) dLaw_say_15
theorem cwv_at : cCallV RV 67 (cRn 0) yX11_at cX11_at 1 ((some FieldType.int)) 0 := ⟨⟨wl_in (i := 1172) (by decide +kernel), wl_in (i := 1173) (by decide +kernel), wl_in (i := 1174) (by decide +kernel), wl_in (i := 1) (by decide +kernel), wl_in (i := 1175) (by decide +kernel)⟩, rfl, by decide, by decide, by decide +kernel⟩
abbrev rv_at : Room := ({ frames := 9, cells := 1, slots := 6, locals := 162 } : Room)
set_option maxHeartbeats 4000000 in
set_option maxRecDepth 100000 in
theorem cv_at (l : Launch) (hst : l.stackTraces = false) (D : va_G) (ca : Nat → ClassId) (A : Nat → Prop) (bo : Nat) (cO : ClassId) (α : cAl) (σ : cS) (f : Nat → Int64) (hbo : ¬ A bo) (hb17 : α 17 0 ≠ bo)  (o : (Nat ⊕ Int32) × cS) (h : fc_X11_at σ = some o) (j : Nat) (hj : ∀ k, o.1 = .inl k → ([2] : List Nat)[j]? = some k) : lMet false l yLaw_at cLaw_at 3 (lHh [2] 8 (fun j => ([11] : List Nat).getD j 0)) rv_at 1 6 D ca A bo α σ [cr α 0 (some 0), .ref bo] (lO bo cO f) [(cO, .long)] (lK j o.1) o.2 (lO bo cO (lV (fun x => vp_updL f 0 (x.toInt64)) f o.1)) := by
  refine va_MetW (hh := (lHh [2] 8 (fun j => ([11] : List Nat).getD j 0))) (cc := cLaw_at) (maxL := 3) (ret := some .int) (by decide) rfl ?_
  intro p e s m args below meth c s₁ B hml hv
  obtain ⟨rfl, ⟨hP, hK, hD0, hSh, hA, hG⟩, hO, hKO, hN⟩ := hv
  have hts := atoms_spec (ws := lWs yLaw_at cLaw_at 3 (lHh [2] 8 (fun j => ([11] : List Nat).getD j 0))) B.pre
  have C : cC p s m _ c cLaw_at 3 RV D ca A α := ⟨B.exec, B.bytes, hml, findClass_of_methodNamed B.named, fun w hw => hts w (List.mem_cons_of_mem _ hw), hK, hG⟩
  have hM : cM D ca true A s.heap σ α σ α s.heap [] := ⟨hP, hD0, hSh, va_S.rf, hA, cX.rf⟩
  have htab := vx_table (x := yLaw_at) B (hts _ List.mem_cons_self)
  have h17 := c_17 hM
  have hr := B.returns
  have hlk := B.notSynchronized
  have hx := C.1
  have hb := C.2.1
  have hl := lv_entry ([cr α 0 (some 0), .ref bo]) (n := 3) (Nat.le_of_ble_eq_true rfl)
  rw [lg_entry_eq]
  generalize (lg_sl ([cr α 0 (some 0), .ref bo]) ++ List.replicate (3 - (lg_sl ([cr α 0 (some 0), .ref bo])).length) Slot.unset).toArray = ls at hl ⊢
  have hl : lv_has ls 3 [(0, cr α 0 (some 0)), (1, .ref bo)] := hl
  refine lv_aload_n hx hb dLaw_at_0 rfl (lv_at hl 1 rfl) ?_
  refine lv_iconst (v := (0 : Int32)) hx hb dLaw_at_1 (by decide) ?_
  refine c_aload_n (t := 0) (x := (some 0)) hx hb dLaw_at_2 rfl (lv_at hl 0 rfl) ?_
  refine l_call (tv := fun v => .int v) (As := []) (rest := [.int 0, .ref bo]) C hM (cc_X11_at l hst D ca A α σ  o h) cwv_at ⟨rfl, rfl⟩ ⟨Nat.le_of_ble_eq_true rfl, Nat.le_of_ble_eq_true rfl⟩ rfl rfl (cats_le _ (Nat.le_of_ble_eq_true rfl)) hl.1 dLaw_at_3 ⟨Nat.le_of_ble_eq_true rfl, Nat.le_of_ble_eq_true rfl⟩ (fun k q ce H1 locs1 α1 ho hα hM1 h1 h2 h3 => ?_) (fun v H1 locs1 α1 ho hα hM1 => ?_)
  · have hjk := hj k ho
    have hOt := l_out hO (fun q hq => by rw [List.mem_singleton] at hq; rw [hq]; exact hbo) hM1
    refine l_catch (k := k) (j := j) C.2.2.2.1 C.2.2.2.2.1 hG.1.2.2.2 hN htab (by decide) (by decide) (by decide) hjk h1 h2 h3 ?_
    have hjl : j < 1 := (List.getElem?_eq_some_iff.mp hjk).1
    rcases (show j = 0 by omega) with rfl
    · refine W_pc (pc' := 11) rfl ?_
      refine lv_astore_n (lv' := [(2, .ref q), (0, cr α 0 (some 0)), (1, .ref bo)]) hx hb dLaw_at_11 rfl hl (by decide) rfl (fun ls hl => ?_)
      refine lv_iconst (v := nI 1) hx hb dLaw_at_12 (by decide) ?_
      exact l_end C hα hM1 hM1.1 hOt (hM1.2.2.2.1.wk (fun q h => Or.inl h)) hr hlk rfl (by rw [ho]; rfl) (by rw [ho]; rfl) dLaw_at_13
  · refine lv_i2l hx hb dLaw_at_6 rfl ?_
    refine l_storeJ C hM1 h17 hO hKO hbo hb17 dLaw_at_7 (fun H2 locs2 hP2 hO2 hS2 => ?_)
    refine lv_goto (tgt := 14) hx hb dLaw_at_8 (by decide) ?_
    refine lv_iconst (v := nI 0) hx hb dLaw_at_14 (by decide) ?_
    exact l_end C hα hM1 hP2 hO2 hS2 hr hlk rfl (by rw [ho]; rfl) (by rw [ho]; rfl) dLaw_at_15
theorem cwv_place : cCallV RV 70 (cRn 0) yX11_place cX11_place 2 ((some FieldType.int)) 1 := ⟨⟨wl_in (i := 1183) (by decide +kernel), wl_in (i := 1184) (by decide +kernel), wl_in (i := 1185) (by decide +kernel), wl_in (i := 1) (by decide +kernel), wl_in (i := 1186) (by decide +kernel)⟩, rfl, by decide, by decide, by decide +kernel⟩
abbrev rv_place : Room := ({ frames := 9, cells := 2, slots := 12, locals := 163 } : Room)
set_option maxHeartbeats 4000000 in
set_option maxRecDepth 100000 in
theorem cv_place (l : Launch) (hst : l.stackTraces = false) (D : va_G) (ca : Nat → ClassId) (A : Nat → Prop) (bo : Nat) (cO : ClassId) (α : cAl) (σ : cS) (f : Nat → Int64) (hbo : ¬ A bo) (hb17 : α 17 0 ≠ bo) (x1 : Int32) (o : (Nat ⊕ Int32) × cS) (h : fc_X11_place σ x1 = some o) (j : Nat) (hj : ∀ k, o.1 = .inl k → ([4, 2] : List Nat)[j]? = some k) : lMet false l yLaw_place cLaw_place 4 (lHh [4, 2] 9 (fun j => ([12, 15] : List Nat).getD j 0)) rv_place 2 12 D ca A bo α σ [cr α 0 (some 0), .int x1, .ref bo] (lO bo cO f) [(cO, .long)] (lK j o.1) o.2 (lO bo cO (lV (fun x => vp_updL f 0 (x.toInt64)) f o.1)) := by
  refine va_MetW (hh := (lHh [4, 2] 9 (fun j => ([12, 15] : List Nat).getD j 0))) (cc := cLaw_place) (maxL := 4) (ret := some .int) (by decide) rfl ?_
  intro p e s m args below meth c s₁ B hml hv
  obtain ⟨rfl, ⟨hP, hK, hD0, hSh, hA, hG⟩, hO, hKO, hN⟩ := hv
  have hts := atoms_spec (ws := lWs yLaw_place cLaw_place 4 (lHh [4, 2] 9 (fun j => ([12, 15] : List Nat).getD j 0))) B.pre
  have C : cC p s m _ c cLaw_place 4 RV D ca A α := ⟨B.exec, B.bytes, hml, findClass_of_methodNamed B.named, fun w hw => hts w (List.mem_cons_of_mem _ hw), hK, hG⟩
  have hM : cM D ca true A s.heap σ α σ α s.heap [] := ⟨hP, hD0, hSh, va_S.rf, hA, cX.rf⟩
  have htab := vx_table (x := yLaw_place) B (hts _ List.mem_cons_self)
  have h17 := c_17 hM
  have hr := B.returns
  have hlk := B.notSynchronized
  have hx := C.1
  have hb := C.2.1
  have hl := lv_entry ([cr α 0 (some 0), .int x1, .ref bo]) (n := 4) (Nat.le_of_ble_eq_true rfl)
  rw [lg_entry_eq]
  generalize (lg_sl ([cr α 0 (some 0), .int x1, .ref bo]) ++ List.replicate (4 - (lg_sl ([cr α 0 (some 0), .int x1, .ref bo])).length) Slot.unset).toArray = ls at hl ⊢
  have hl : lv_has ls 4 [(0, cr α 0 (some 0)), (1, .int x1), (2, .ref bo)] := hl
  refine lv_aload_n hx hb dLaw_place_0 rfl (lv_at hl 2 rfl) ?_
  refine lv_iconst (v := (0 : Int32)) hx hb dLaw_place_1 (by decide) ?_
  refine c_aload_n (t := 0) (x := (some 0)) hx hb dLaw_place_2 rfl (lv_at hl 0 rfl) ?_
  refine lv_iload_n hx hb dLaw_place_3 rfl (lv_at hl 1 rfl) ?_
  refine l_call (tv := fun v => .int v) (As := [.int x1]) (rest := [.int 0, .ref bo]) C hM (cc_X11_place l hst D ca A α σ x1 o h) cwv_place ⟨rfl, rfl⟩ ⟨Nat.le_of_ble_eq_true rfl, Nat.le_of_ble_eq_true rfl⟩ rfl rfl (cats_le _ (Nat.le_of_ble_eq_true rfl)) hl.1 dLaw_place_4 ⟨Nat.le_of_ble_eq_true rfl, Nat.le_of_ble_eq_true rfl⟩ (fun k q ce H1 locs1 α1 ho hα hM1 h1 h2 h3 => ?_) (fun v H1 locs1 α1 ho hα hM1 => ?_)
  · have hjk := hj k ho
    have hOt := l_out hO (fun q hq => by rw [List.mem_singleton] at hq; rw [hq]; exact hbo) hM1
    refine l_catch (k := k) (j := j) C.2.2.2.1 C.2.2.2.2.1 hG.1.2.2.2 hN htab (by decide) (by decide) (by decide) hjk h1 h2 h3 ?_
    have hjl : j < 2 := (List.getElem?_eq_some_iff.mp hjk).1
    rcases (show j = 0 ∨ j = 1 by omega) with rfl | rfl
    · refine W_pc (pc' := 12) rfl ?_
      refine lv_astore_n (lv' := [(3, .ref q), (0, cr α 0 (some 0)), (1, .int x1), (2, .ref bo)]) hx hb dLaw_place_12 rfl hl (by decide) rfl (fun ls hl => ?_)
      refine lv_iconst (v := nI 1) hx hb dLaw_place_13 (by decide) ?_
      exact l_end C hα hM1 hM1.1 hOt (hM1.2.2.2.1.wk (fun q h => Or.inl h)) hr hlk rfl (by rw [ho]; rfl) (by rw [ho]; rfl) dLaw_place_14
    · refine W_pc (pc' := 15) rfl ?_
      refine lv_astore_n (lv' := [(3, .ref q), (0, cr α 0 (some 0)), (1, .int x1), (2, .ref bo)]) hx hb dLaw_place_15 rfl hl (by decide) rfl (fun ls hl => ?_)
      refine lv_iconst (v := nI 2) hx hb dLaw_place_16 (by decide) ?_
      exact l_end C hα hM1 hM1.1 hOt (hM1.2.2.2.1.wk (fun q h => Or.inl h)) hr hlk rfl (by rw [ho]; rfl) (by rw [ho]; rfl) dLaw_place_17
  · refine lv_i2l hx hb dLaw_place_7 rfl ?_
    refine l_storeJ C hM1 h17 hO hKO hbo hb17 dLaw_place_8 (fun H2 locs2 hP2 hO2 hS2 => ?_)
    refine lv_goto (tgt := 18) hx hb dLaw_place_9 (by decide) ?_
    refine lv_iconst (v := nI 0) hx hb dLaw_place_18 (by decide) ?_
    exact l_end C hα hM1 hP2 hO2 hS2 hr hlk rfl (by rw [ho]; rfl) (by rw [ho]; rfl) dLaw_place_19
theorem cwv_isOpen : cCallV RV 73 (cRn 0) yX11_isOpen cX11_isOpen 3 ((some FieldType.boolean)) 1 := ⟨⟨wl_in (i := 1190) (by decide +kernel), wl_in (i := 1191) (by decide +kernel), wl_in (i := 1192) (by decide +kernel), wl_in (i := 1) (by decide +kernel), wl_in (i := 1193) (by decide +kernel)⟩, rfl, by decide, by decide, by decide +kernel⟩
abbrev rv_isOpen : Room := ({ frames := 9, cells := 3, slots := 18, locals := 164 } : Room)
set_option maxHeartbeats 4000000 in
set_option maxRecDepth 100000 in
theorem cv_isOpen (l : Launch) (hst : l.stackTraces = false) (D : va_G) (ca : Nat → ClassId) (A : Nat → Prop) (bo : Nat) (cO : ClassId) (α : cAl) (σ : cS) (f : Nat → Int64) (hbo : ¬ A bo) (hb17 : α 17 0 ≠ bo) (x1 : Int32) (o : (Nat ⊕ Int32) × cS) (h : fc_X11_isOpen σ x1 = some o) (j : Nat) (hj : ∀ k, o.1 = .inl k → ([4, 2, 3] : List Nat)[j]? = some k) : lMet false l yLaw_isOpen cLaw_isOpen 4 (lHh [4, 2, 3] 16 (fun j => ([19, 22, 25] : List Nat).getD j 0)) rv_isOpen 3 18 D ca A bo α σ [cr α 0 (some 0), .int x1, .ref bo] (lO bo cO f) [(cO, .long)] (lK j o.1) o.2 (lO bo cO (lV (fun x => vp_updL f 0 (if x = 0 then 0 else 1)) f o.1)) := by
  refine va_MetW (hh := (lHh [4, 2, 3] 16 (fun j => ([19, 22, 25] : List Nat).getD j 0))) (cc := cLaw_isOpen) (maxL := 4) (ret := some .int) (by decide) rfl ?_
  intro p e s m args below meth c s₁ B hml hv
  obtain ⟨rfl, ⟨hP, hK, hD0, hSh, hA, hG⟩, hO, hKO, hN⟩ := hv
  have hts := atoms_spec (ws := lWs yLaw_isOpen cLaw_isOpen 4 (lHh [4, 2, 3] 16 (fun j => ([19, 22, 25] : List Nat).getD j 0))) B.pre
  have C : cC p s m _ c cLaw_isOpen 4 RV D ca A α := ⟨B.exec, B.bytes, hml, findClass_of_methodNamed B.named, fun w hw => hts w (List.mem_cons_of_mem _ hw), hK, hG⟩
  have hM : cM D ca true A s.heap σ α σ α s.heap [] := ⟨hP, hD0, hSh, va_S.rf, hA, cX.rf⟩
  have htab := vx_table (x := yLaw_isOpen) B (hts _ List.mem_cons_self)
  have h17 := c_17 hM
  have hr := B.returns
  have hlk := B.notSynchronized
  have hx := C.1
  have hb := C.2.1
  have hl := lv_entry ([cr α 0 (some 0), .int x1, .ref bo]) (n := 4) (Nat.le_of_ble_eq_true rfl)
  rw [lg_entry_eq]
  generalize (lg_sl ([cr α 0 (some 0), .int x1, .ref bo]) ++ List.replicate (4 - (lg_sl ([cr α 0 (some 0), .int x1, .ref bo])).length) Slot.unset).toArray = ls at hl ⊢
  have hl : lv_has ls 4 [(0, cr α 0 (some 0)), (1, .int x1), (2, .ref bo)] := hl
  refine lv_aload_n hx hb dLaw_isOpen_0 rfl (lv_at hl 2 rfl) ?_
  refine lv_iconst (v := (0 : Int32)) hx hb dLaw_isOpen_1 (by decide) ?_
  refine c_aload_n (t := 0) (x := (some 0)) hx hb dLaw_isOpen_2 rfl (lv_at hl 0 rfl) ?_
  refine lv_iload_n hx hb dLaw_isOpen_3 rfl (lv_at hl 1 rfl) ?_
  refine l_call (tv := fun v => .int v) (As := [.int x1]) (rest := [.int 0, .ref bo]) C hM (cc_X11_isOpen l hst D ca A α σ x1 o h) cwv_isOpen ⟨rfl, rfl⟩ ⟨Nat.le_of_ble_eq_true rfl, Nat.le_of_ble_eq_true rfl⟩ rfl rfl (cats_le _ (Nat.le_of_ble_eq_true rfl)) hl.1 dLaw_isOpen_4 ⟨Nat.le_of_ble_eq_true rfl, Nat.le_of_ble_eq_true rfl⟩ (fun k q ce H1 locs1 α1 ho hα hM1 h1 h2 h3 => ?_) (fun v H1 locs1 α1 ho hα hM1 => ?_)
  · have hjk := hj k ho
    have hOt := l_out hO (fun q hq => by rw [List.mem_singleton] at hq; rw [hq]; exact hbo) hM1
    refine l_catch (k := k) (j := j) C.2.2.2.1 C.2.2.2.2.1 hG.1.2.2.2 hN htab (by decide) (by decide) (by decide) hjk h1 h2 h3 ?_
    have hjl : j < 3 := (List.getElem?_eq_some_iff.mp hjk).1
    rcases (show j = 0 ∨ j = 1 ∨ j = 2 by omega) with rfl | rfl | rfl
    · refine W_pc (pc' := 19) rfl ?_
      refine lv_astore_n (lv' := [(3, .ref q), (0, cr α 0 (some 0)), (1, .int x1), (2, .ref bo)]) hx hb dLaw_isOpen_19 rfl hl (by decide) rfl (fun ls hl => ?_)
      refine lv_iconst (v := nI 1) hx hb dLaw_isOpen_20 (by decide) ?_
      exact l_end C hα hM1 hM1.1 hOt (hM1.2.2.2.1.wk (fun q h => Or.inl h)) hr hlk rfl (by rw [ho]; rfl) (by rw [ho]; rfl) dLaw_isOpen_21
    · refine W_pc (pc' := 22) rfl ?_
      refine lv_astore_n (lv' := [(3, .ref q), (0, cr α 0 (some 0)), (1, .int x1), (2, .ref bo)]) hx hb dLaw_isOpen_22 rfl hl (by decide) rfl (fun ls hl => ?_)
      refine lv_iconst (v := nI 2) hx hb dLaw_isOpen_23 (by decide) ?_
      exact l_end C hα hM1 hM1.1 hOt (hM1.2.2.2.1.wk (fun q h => Or.inl h)) hr hlk rfl (by rw [ho]; rfl) (by rw [ho]; rfl) dLaw_isOpen_24
    · refine W_pc (pc' := 25) rfl ?_
      refine lv_astore_n (lv' := [(3, .ref q), (0, cr α 0 (some 0)), (1, .int x1), (2, .ref bo)]) hx hb dLaw_isOpen_25 rfl hl (by decide) rfl (fun ls hl => ?_)
      refine lv_iconst (v := nI 3) hx hb dLaw_isOpen_26 (by decide) ?_
      exact l_end C hα hM1 hM1.1 hOt (hM1.2.2.2.1.wk (fun q h => Or.inl h)) hr hlk rfl (by rw [ho]; rfl) (by rw [ho]; rfl) dLaw_isOpen_27
  · refine lv_if_eq (tgt := 14) hx hb dLaw_isOpen_7 (by decide) (fun c_1 => ?_) (fun c_1 => ?_)
    · refine lv_lconst (v := (0 : Int64)) hx hb dLaw_isOpen_14 (by decide) ?_
      refine l_storeJ C hM1 h17 hO hKO hbo hb17 dLaw_isOpen_15 (fun H2 locs2 hP2 hO2 hS2 => ?_)
      refine lv_goto (tgt := 28) hx hb dLaw_isOpen_16 (by decide) ?_
      refine lv_iconst (v := nI 0) hx hb dLaw_isOpen_28 (by decide) ?_
      exact l_end C hα hM1 hP2 hO2 hS2 hr hlk rfl (by rw [ho]; rfl) (by rw [ho]; show _ = lO bo cO (vp_updL f 0 (if v = 0 then 0 else 1)); rw [if_pos c_1]) dLaw_isOpen_29
    · refine lv_lconst (v := (1 : Int64)) hx hb dLaw_isOpen_10 (by decide) ?_
      refine lv_goto (tgt := 15) hx hb dLaw_isOpen_11 (by decide) ?_
      refine l_storeJ C hM1 h17 hO hKO hbo hb17 dLaw_isOpen_15 (fun H2 locs2 hP2 hO2 hS2 => ?_)
      refine lv_goto (tgt := 28) hx hb dLaw_isOpen_16 (by decide) ?_
      refine lv_iconst (v := nI 0) hx hb dLaw_isOpen_28 (by decide) ?_
      exact l_end C hα hM1 hP2 hO2 hS2 hr hlk rfl (by rw [ho]; rfl) (by rw [ho]; show _ = lO bo cO (vp_updL f 0 (if v = 0 then 0 else 1)); rw [if_neg c_1]) dLaw_isOpen_29
theorem cwv_lit : cCallV RV 77 (cRn 0) yX11_lit cX11_lit 3 ((some FieldType.int)) 1 := ⟨⟨wl_in (i := 1197) (by decide +kernel), wl_in (i := 1198) (by decide +kernel), wl_in (i := 1199) (by decide +kernel), wl_in (i := 1) (by decide +kernel), wl_in (i := 1200) (by decide +kernel)⟩, rfl, by decide, by decide, by decide +kernel⟩
abbrev rv_lit : Room := ({ frames := 9, cells := 3, slots := 18, locals := 164 } : Room)
set_option maxHeartbeats 4000000 in
set_option maxRecDepth 100000 in
theorem cv_lit (l : Launch) (hst : l.stackTraces = false) (D : va_G) (ca : Nat → ClassId) (A : Nat → Prop) (bo : Nat) (cO : ClassId) (α : cAl) (σ : cS) (f : Nat → Int64) (hbo : ¬ A bo) (hb17 : α 17 0 ≠ bo) (x1 : Int32) (o : (Nat ⊕ Int32) × cS) (h : fc_X11_lit σ x1 = some o) (j : Nat) (hj : ∀ k, o.1 = .inl k → ([4, 2, 3] : List Nat)[j]? = some k) : lMet false l yLaw_lit cLaw_lit 4 (lHh [4, 2, 3] 9 (fun j => ([12, 15, 18] : List Nat).getD j 0)) rv_lit 3 18 D ca A bo α σ [cr α 0 (some 0), .int x1, .ref bo] (lO bo cO f) [(cO, .long)] (lK j o.1) o.2 (lO bo cO (lV (fun x => vp_updL f 0 (x.toInt64)) f o.1)) := by
  refine va_MetW (hh := (lHh [4, 2, 3] 9 (fun j => ([12, 15, 18] : List Nat).getD j 0))) (cc := cLaw_lit) (maxL := 4) (ret := some .int) (by decide) rfl ?_
  intro p e s m args below meth c s₁ B hml hv
  obtain ⟨rfl, ⟨hP, hK, hD0, hSh, hA, hG⟩, hO, hKO, hN⟩ := hv
  have hts := atoms_spec (ws := lWs yLaw_lit cLaw_lit 4 (lHh [4, 2, 3] 9 (fun j => ([12, 15, 18] : List Nat).getD j 0))) B.pre
  have C : cC p s m _ c cLaw_lit 4 RV D ca A α := ⟨B.exec, B.bytes, hml, findClass_of_methodNamed B.named, fun w hw => hts w (List.mem_cons_of_mem _ hw), hK, hG⟩
  have hM : cM D ca true A s.heap σ α σ α s.heap [] := ⟨hP, hD0, hSh, va_S.rf, hA, cX.rf⟩
  have htab := vx_table (x := yLaw_lit) B (hts _ List.mem_cons_self)
  have h17 := c_17 hM
  have hr := B.returns
  have hlk := B.notSynchronized
  have hx := C.1
  have hb := C.2.1
  have hl := lv_entry ([cr α 0 (some 0), .int x1, .ref bo]) (n := 4) (Nat.le_of_ble_eq_true rfl)
  rw [lg_entry_eq]
  generalize (lg_sl ([cr α 0 (some 0), .int x1, .ref bo]) ++ List.replicate (4 - (lg_sl ([cr α 0 (some 0), .int x1, .ref bo])).length) Slot.unset).toArray = ls at hl ⊢
  have hl : lv_has ls 4 [(0, cr α 0 (some 0)), (1, .int x1), (2, .ref bo)] := hl
  refine lv_aload_n hx hb dLaw_lit_0 rfl (lv_at hl 2 rfl) ?_
  refine lv_iconst (v := (0 : Int32)) hx hb dLaw_lit_1 (by decide) ?_
  refine c_aload_n (t := 0) (x := (some 0)) hx hb dLaw_lit_2 rfl (lv_at hl 0 rfl) ?_
  refine lv_iload_n hx hb dLaw_lit_3 rfl (lv_at hl 1 rfl) ?_
  refine l_call (tv := fun v => .int v) (As := [.int x1]) (rest := [.int 0, .ref bo]) C hM (cc_X11_lit l hst D ca A α σ x1 o h) cwv_lit ⟨rfl, rfl⟩ ⟨Nat.le_of_ble_eq_true rfl, Nat.le_of_ble_eq_true rfl⟩ rfl rfl (cats_le _ (Nat.le_of_ble_eq_true rfl)) hl.1 dLaw_lit_4 ⟨Nat.le_of_ble_eq_true rfl, Nat.le_of_ble_eq_true rfl⟩ (fun k q ce H1 locs1 α1 ho hα hM1 h1 h2 h3 => ?_) (fun v H1 locs1 α1 ho hα hM1 => ?_)
  · have hjk := hj k ho
    have hOt := l_out hO (fun q hq => by rw [List.mem_singleton] at hq; rw [hq]; exact hbo) hM1
    refine l_catch (k := k) (j := j) C.2.2.2.1 C.2.2.2.2.1 hG.1.2.2.2 hN htab (by decide) (by decide) (by decide) hjk h1 h2 h3 ?_
    have hjl : j < 3 := (List.getElem?_eq_some_iff.mp hjk).1
    rcases (show j = 0 ∨ j = 1 ∨ j = 2 by omega) with rfl | rfl | rfl
    · refine W_pc (pc' := 12) rfl ?_
      refine lv_astore_n (lv' := [(3, .ref q), (0, cr α 0 (some 0)), (1, .int x1), (2, .ref bo)]) hx hb dLaw_lit_12 rfl hl (by decide) rfl (fun ls hl => ?_)
      refine lv_iconst (v := nI 1) hx hb dLaw_lit_13 (by decide) ?_
      exact l_end C hα hM1 hM1.1 hOt (hM1.2.2.2.1.wk (fun q h => Or.inl h)) hr hlk rfl (by rw [ho]; rfl) (by rw [ho]; rfl) dLaw_lit_14
    · refine W_pc (pc' := 15) rfl ?_
      refine lv_astore_n (lv' := [(3, .ref q), (0, cr α 0 (some 0)), (1, .int x1), (2, .ref bo)]) hx hb dLaw_lit_15 rfl hl (by decide) rfl (fun ls hl => ?_)
      refine lv_iconst (v := nI 2) hx hb dLaw_lit_16 (by decide) ?_
      exact l_end C hα hM1 hM1.1 hOt (hM1.2.2.2.1.wk (fun q h => Or.inl h)) hr hlk rfl (by rw [ho]; rfl) (by rw [ho]; rfl) dLaw_lit_17
    · refine W_pc (pc' := 18) rfl ?_
      refine lv_astore_n (lv' := [(3, .ref q), (0, cr α 0 (some 0)), (1, .int x1), (2, .ref bo)]) hx hb dLaw_lit_18 rfl hl (by decide) rfl (fun ls hl => ?_)
      refine lv_iconst (v := nI 3) hx hb dLaw_lit_19 (by decide) ?_
      exact l_end C hα hM1 hM1.1 hOt (hM1.2.2.2.1.wk (fun q h => Or.inl h)) hr hlk rfl (by rw [ho]; rfl) (by rw [ho]; rfl) dLaw_lit_20
  · refine lv_i2l hx hb dLaw_lit_7 rfl ?_
    refine l_storeJ C hM1 h17 hO hKO hbo hb17 dLaw_lit_8 (fun H2 locs2 hP2 hO2 hS2 => ?_)
    refine lv_goto (tgt := 21) hx hb dLaw_lit_9 (by decide) ?_
    refine lv_iconst (v := nI 0) hx hb dLaw_lit_21 (by decide) ?_
    exact l_end C hα hM1 hP2 hO2 hS2 hr hlk rfl (by rw [ho]; rfl) (by rw [ho]; rfl) dLaw_lit_22
theorem cwv_isBright : cCallV RV 80 (cRn 0) yX11_isBright cX11_isBright 1 ((some FieldType.boolean)) 0 := ⟨⟨wl_in (i := 1204) (by decide +kernel), wl_in (i := 1205) (by decide +kernel), wl_in (i := 1206) (by decide +kernel), wl_in (i := 1) (by decide +kernel), wl_in (i := 1207) (by decide +kernel)⟩, rfl, by decide, by decide, by decide +kernel⟩
abbrev rv_isBright : Room := ({ frames := 9, cells := 1, slots := 6, locals := 162 } : Room)
set_option maxHeartbeats 4000000 in
set_option maxRecDepth 100000 in
theorem cv_isBright (l : Launch) (hst : l.stackTraces = false) (D : va_G) (ca : Nat → ClassId) (A : Nat → Prop) (bo : Nat) (cO : ClassId) (α : cAl) (σ : cS) (f : Nat → Int64) (hbo : ¬ A bo) (hb17 : α 17 0 ≠ bo)  (o : (Nat ⊕ Int32) × cS) (h : fc_X11_isBright σ = some o) (j : Nat) (hj : ∀ k, o.1 = .inl k → ([2] : List Nat)[j]? = some k) : lMet false l yLaw_isBright cLaw_isBright 3 (lHh [2] 15 (fun j => ([18] : List Nat).getD j 0)) rv_isBright 1 6 D ca A bo α σ [cr α 0 (some 0), .ref bo] (lO bo cO f) [(cO, .long)] (lK j o.1) o.2 (lO bo cO (lV (fun x => vp_updL f 0 (if x = 0 then 0 else 1)) f o.1)) := by
  refine va_MetW (hh := (lHh [2] 15 (fun j => ([18] : List Nat).getD j 0))) (cc := cLaw_isBright) (maxL := 3) (ret := some .int) (by decide) rfl ?_
  intro p e s m args below meth c s₁ B hml hv
  obtain ⟨rfl, ⟨hP, hK, hD0, hSh, hA, hG⟩, hO, hKO, hN⟩ := hv
  have hts := atoms_spec (ws := lWs yLaw_isBright cLaw_isBright 3 (lHh [2] 15 (fun j => ([18] : List Nat).getD j 0))) B.pre
  have C : cC p s m _ c cLaw_isBright 3 RV D ca A α := ⟨B.exec, B.bytes, hml, findClass_of_methodNamed B.named, fun w hw => hts w (List.mem_cons_of_mem _ hw), hK, hG⟩
  have hM : cM D ca true A s.heap σ α σ α s.heap [] := ⟨hP, hD0, hSh, va_S.rf, hA, cX.rf⟩
  have htab := vx_table (x := yLaw_isBright) B (hts _ List.mem_cons_self)
  have h17 := c_17 hM
  have hr := B.returns
  have hlk := B.notSynchronized
  have hx := C.1
  have hb := C.2.1
  have hl := lv_entry ([cr α 0 (some 0), .ref bo]) (n := 3) (Nat.le_of_ble_eq_true rfl)
  rw [lg_entry_eq]
  generalize (lg_sl ([cr α 0 (some 0), .ref bo]) ++ List.replicate (3 - (lg_sl ([cr α 0 (some 0), .ref bo])).length) Slot.unset).toArray = ls at hl ⊢
  have hl : lv_has ls 3 [(0, cr α 0 (some 0)), (1, .ref bo)] := hl
  refine lv_aload_n hx hb dLaw_isBright_0 rfl (lv_at hl 1 rfl) ?_
  refine lv_iconst (v := (0 : Int32)) hx hb dLaw_isBright_1 (by decide) ?_
  refine c_aload_n (t := 0) (x := (some 0)) hx hb dLaw_isBright_2 rfl (lv_at hl 0 rfl) ?_
  refine l_call (tv := fun v => .int v) (As := []) (rest := [.int 0, .ref bo]) C hM (cc_X11_isBright l hst D ca A α σ  o h) cwv_isBright ⟨rfl, rfl⟩ ⟨Nat.le_of_ble_eq_true rfl, Nat.le_of_ble_eq_true rfl⟩ rfl rfl (cats_le _ (Nat.le_of_ble_eq_true rfl)) hl.1 dLaw_isBright_3 ⟨Nat.le_of_ble_eq_true rfl, Nat.le_of_ble_eq_true rfl⟩ (fun k q ce H1 locs1 α1 ho hα hM1 h1 h2 h3 => ?_) (fun v H1 locs1 α1 ho hα hM1 => ?_)
  · have hjk := hj k ho
    have hOt := l_out hO (fun q hq => by rw [List.mem_singleton] at hq; rw [hq]; exact hbo) hM1
    refine l_catch (k := k) (j := j) C.2.2.2.1 C.2.2.2.2.1 hG.1.2.2.2 hN htab (by decide) (by decide) (by decide) hjk h1 h2 h3 ?_
    have hjl : j < 1 := (List.getElem?_eq_some_iff.mp hjk).1
    rcases (show j = 0 by omega) with rfl
    · refine W_pc (pc' := 18) rfl ?_
      refine lv_astore_n (lv' := [(2, .ref q), (0, cr α 0 (some 0)), (1, .ref bo)]) hx hb dLaw_isBright_18 rfl hl (by decide) rfl (fun ls hl => ?_)
      refine lv_iconst (v := nI 1) hx hb dLaw_isBright_19 (by decide) ?_
      exact l_end C hα hM1 hM1.1 hOt (hM1.2.2.2.1.wk (fun q h => Or.inl h)) hr hlk rfl (by rw [ho]; rfl) (by rw [ho]; rfl) dLaw_isBright_20
  · refine lv_if_eq (tgt := 13) hx hb dLaw_isBright_6 (by decide) (fun c_1 => ?_) (fun c_1 => ?_)
    · refine lv_lconst (v := (0 : Int64)) hx hb dLaw_isBright_13 (by decide) ?_
      refine l_storeJ C hM1 h17 hO hKO hbo hb17 dLaw_isBright_14 (fun H2 locs2 hP2 hO2 hS2 => ?_)
      refine lv_goto (tgt := 21) hx hb dLaw_isBright_15 (by decide) ?_
      refine lv_iconst (v := nI 0) hx hb dLaw_isBright_21 (by decide) ?_
      exact l_end C hα hM1 hP2 hO2 hS2 hr hlk rfl (by rw [ho]; rfl) (by rw [ho]; show _ = lO bo cO (vp_updL f 0 (if v = 0 then 0 else 1)); rw [if_pos c_1]) dLaw_isBright_22
    · refine lv_lconst (v := (1 : Int64)) hx hb dLaw_isBright_9 (by decide) ?_
      refine lv_goto (tgt := 14) hx hb dLaw_isBright_10 (by decide) ?_
      refine l_storeJ C hM1 h17 hO hKO hbo hb17 dLaw_isBright_14 (fun H2 locs2 hP2 hO2 hS2 => ?_)
      refine lv_goto (tgt := 21) hx hb dLaw_isBright_15 (by decide) ?_
      refine lv_iconst (v := nI 0) hx hb dLaw_isBright_21 (by decide) ?_
      exact l_end C hα hM1 hP2 hO2 hS2 hr hlk rfl (by rw [ho]; rfl) (by rw [ho]; show _ = lO bo cO (vp_updL f 0 (if v = 0 then 0 else 1)); rw [if_neg c_1]) dLaw_isBright_22
theorem cwv_weight : cCallV RV 84 (cRn 0) yX11_weight cX11_weight 1 ((some FieldType.int)) 0 := ⟨⟨wl_in (i := 1212) (by decide +kernel), wl_in (i := 1213) (by decide +kernel), wl_in (i := 1214) (by decide +kernel), wl_in (i := 1) (by decide +kernel), wl_in (i := 1215) (by decide +kernel)⟩, rfl, by decide, by decide, by decide +kernel⟩
abbrev rv_weight : Room := ({ frames := 9, cells := 1, slots := 6, locals := 162 } : Room)
set_option maxHeartbeats 4000000 in
set_option maxRecDepth 100000 in
theorem cv_weight (l : Launch) (hst : l.stackTraces = false) (D : va_G) (ca : Nat → ClassId) (A : Nat → Prop) (bo : Nat) (cO : ClassId) (α : cAl) (σ : cS) (f : Nat → Int64) (hbo : ¬ A bo) (hb17 : α 17 0 ≠ bo)  (o : (Nat ⊕ Int32) × cS) (h : fc_X11_weight σ = some o) (j : Nat) (hj : ∀ k, o.1 = .inl k → ([2] : List Nat)[j]? = some k) : lMet false l yLaw_weight cLaw_weight 3 (lHh [2] 8 (fun j => ([11] : List Nat).getD j 0)) rv_weight 1 6 D ca A bo α σ [cr α 0 (some 0), .ref bo] (lO bo cO f) [(cO, .long)] (lK j o.1) o.2 (lO bo cO (lV (fun x => vp_updL f 0 (x.toInt64)) f o.1)) := by
  refine va_MetW (hh := (lHh [2] 8 (fun j => ([11] : List Nat).getD j 0))) (cc := cLaw_weight) (maxL := 3) (ret := some .int) (by decide) rfl ?_
  intro p e s m args below meth c s₁ B hml hv
  obtain ⟨rfl, ⟨hP, hK, hD0, hSh, hA, hG⟩, hO, hKO, hN⟩ := hv
  have hts := atoms_spec (ws := lWs yLaw_weight cLaw_weight 3 (lHh [2] 8 (fun j => ([11] : List Nat).getD j 0))) B.pre
  have C : cC p s m _ c cLaw_weight 3 RV D ca A α := ⟨B.exec, B.bytes, hml, findClass_of_methodNamed B.named, fun w hw => hts w (List.mem_cons_of_mem _ hw), hK, hG⟩
  have hM : cM D ca true A s.heap σ α σ α s.heap [] := ⟨hP, hD0, hSh, va_S.rf, hA, cX.rf⟩
  have htab := vx_table (x := yLaw_weight) B (hts _ List.mem_cons_self)
  have h17 := c_17 hM
  have hr := B.returns
  have hlk := B.notSynchronized
  have hx := C.1
  have hb := C.2.1
  have hl := lv_entry ([cr α 0 (some 0), .ref bo]) (n := 3) (Nat.le_of_ble_eq_true rfl)
  rw [lg_entry_eq]
  generalize (lg_sl ([cr α 0 (some 0), .ref bo]) ++ List.replicate (3 - (lg_sl ([cr α 0 (some 0), .ref bo])).length) Slot.unset).toArray = ls at hl ⊢
  have hl : lv_has ls 3 [(0, cr α 0 (some 0)), (1, .ref bo)] := hl
  refine lv_aload_n hx hb dLaw_weight_0 rfl (lv_at hl 1 rfl) ?_
  refine lv_iconst (v := (0 : Int32)) hx hb dLaw_weight_1 (by decide) ?_
  refine c_aload_n (t := 0) (x := (some 0)) hx hb dLaw_weight_2 rfl (lv_at hl 0 rfl) ?_
  refine l_call (tv := fun v => .int v) (As := []) (rest := [.int 0, .ref bo]) C hM (cc_X11_weight l hst D ca A α σ  o h) cwv_weight ⟨rfl, rfl⟩ ⟨Nat.le_of_ble_eq_true rfl, Nat.le_of_ble_eq_true rfl⟩ rfl rfl (cats_le _ (Nat.le_of_ble_eq_true rfl)) hl.1 dLaw_weight_3 ⟨Nat.le_of_ble_eq_true rfl, Nat.le_of_ble_eq_true rfl⟩ (fun k q ce H1 locs1 α1 ho hα hM1 h1 h2 h3 => ?_) (fun v H1 locs1 α1 ho hα hM1 => ?_)
  · have hjk := hj k ho
    have hOt := l_out hO (fun q hq => by rw [List.mem_singleton] at hq; rw [hq]; exact hbo) hM1
    refine l_catch (k := k) (j := j) C.2.2.2.1 C.2.2.2.2.1 hG.1.2.2.2 hN htab (by decide) (by decide) (by decide) hjk h1 h2 h3 ?_
    have hjl : j < 1 := (List.getElem?_eq_some_iff.mp hjk).1
    rcases (show j = 0 by omega) with rfl
    · refine W_pc (pc' := 11) rfl ?_
      refine lv_astore_n (lv' := [(2, .ref q), (0, cr α 0 (some 0)), (1, .ref bo)]) hx hb dLaw_weight_11 rfl hl (by decide) rfl (fun ls hl => ?_)
      refine lv_iconst (v := nI 1) hx hb dLaw_weight_12 (by decide) ?_
      exact l_end C hα hM1 hM1.1 hOt (hM1.2.2.2.1.wk (fun q h => Or.inl h)) hr hlk rfl (by rw [ho]; rfl) (by rw [ho]; rfl) dLaw_weight_13
  · refine lv_i2l hx hb dLaw_weight_6 rfl ?_
    refine l_storeJ C hM1 h17 hO hKO hbo hb17 dLaw_weight_7 (fun H2 locs2 hP2 hO2 hS2 => ?_)
    refine lv_goto (tgt := 14) hx hb dLaw_weight_8 (by decide) ?_
    refine lv_iconst (v := nI 0) hx hb dLaw_weight_14 (by decide) ?_
    exact l_end C hα hM1 hP2 hO2 hS2 hr hlk rfl (by rw [ho]; rfl) (by rw [ho]; rfl) dLaw_weight_15
