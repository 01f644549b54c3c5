/-! The law's own methods: contracts. -/
theorem cwv_earn : cCallV RV 149 (cRn 0) yX11_earn cX11_earn 2 ((some FieldType.int)) 1 := ⟨⟨wl_in (i := 1481) (by decide +kernel), wl_in (i := 1482) (by decide +kernel), wl_in (i := 1483) (by decide +kernel), wl_in (i := 1) (by decide +kernel), wl_in (i := 1484) (by decide +kernel)⟩, rfl, by decide, by decide, by decide +kernel⟩
abbrev rv_earn : Room := ({ frames := 7, cells := 1, slots := 6, locals := 111 } : Room)
set_option maxHeartbeats 4000000 in
set_option maxRecDepth 100000 in
theorem cv_earn (l : Launch) (hst : l.stackTraces = false) (D : va_G) (ca : Nat → ClassId) (A : Nat → Prop) (bo : Nat) (cO : ClassId) (α : cAl) (σ : cS) (f : Nat → Int64) (hbo : ¬ A bo) (hb17 : α 17 0 ≠ bo) (x1 : Int32) (o : (Nat ⊕ Int32) × cS) (h : fc_X11_earn σ x1 = some o) (j : Nat) (hj : ∀ k, o.1 = .inl k → ([1] : List Nat)[j]? = some k) : lMet false l yLaw_earn cLaw_earn 4 (lHh [1] 9 (fun j => ([12] : List Nat).getD j 0)) rv_earn 1 6 D ca A bo α σ [cr α 0 (some 0), .int x1, .ref bo] (lO bo cO f) [(cO, .long)] (lK j o.1) o.2 (lO bo cO (lV (fun x => vp_updL f 0 (x.toInt64)) f o.1)) := by
  refine va_MetW (hh := (lHh [1] 9 (fun j => ([12] : List Nat).getD j 0))) (cc := cLaw_earn) (maxL := 4) (ret := some .int) (by decide) rfl ?_
  intro p e s m args below meth c s₁ B hml hv
  obtain ⟨rfl, ⟨hP, hK, hD0, hSh, hA, hG⟩, hO, hKO, hN⟩ := hv
  have hts := atoms_spec (ws := lWs yLaw_earn cLaw_earn 4 (lHh [1] 9 (fun j => ([12] : List Nat).getD j 0))) B.pre
  have C : cC p s m _ c cLaw_earn 4 RV D ca A α := ⟨B.exec, B.bytes, hml, findClass_of_methodNamed B.named, fun w hw => hts w (List.mem_cons_of_mem _ hw), hK, hG⟩
  have hM : cM D ca true A s.heap σ α σ α s.heap [] := ⟨hP, hD0, hSh, va_S.rf, hA, cX.rf⟩
  have htab := vx_table (x := yLaw_earn) B (hts _ List.mem_cons_self)
  have h17 := c_17 hM
  have hr := B.returns
  have hlk := B.notSynchronized
  have hx := C.1
  have hb := C.2.1
  have hl := lv_entry ([cr α 0 (some 0), .int x1, .ref bo]) (n := 4) (Nat.le_of_ble_eq_true rfl)
  rw [lg_entry_eq]
  generalize (lg_sl ([cr α 0 (some 0), .int x1, .ref bo]) ++ List.replicate (4 - (lg_sl ([cr α 0 (some 0), .int x1, .ref bo])).length) Slot.unset).toArray = ls at hl ⊢
  have hl : lv_has ls 4 [(0, cr α 0 (some 0)), (1, .int x1), (2, .ref bo)] := hl
  refine lv_aload_n hx hb dLaw_earn_0 rfl (lv_at hl 2 rfl) ?_
  refine lv_iconst (v := (0 : Int32)) hx hb dLaw_earn_1 (by decide) ?_
  refine c_aload_n (t := 0) (x := (some 0)) hx hb dLaw_earn_2 rfl (lv_at hl 0 rfl) ?_
  refine lv_iload_n hx hb dLaw_earn_3 rfl (lv_at hl 1 rfl) ?_
  refine l_call (tv := fun v => .int v) (As := [.int x1]) (rest := [.int 0, .ref bo]) C hM (cc_X11_earn l hst D ca A α σ x1 o h) cwv_earn ⟨rfl, rfl⟩ ⟨Nat.le_of_ble_eq_true rfl, Nat.le_of_ble_eq_true rfl⟩ rfl rfl (cats_le _ (Nat.le_of_ble_eq_true rfl)) hl.1 dLaw_earn_4 ⟨Nat.le_of_ble_eq_true rfl, Nat.le_of_ble_eq_true rfl⟩ (fun k q ce H1 locs1 α1 ho hα hM1 h1 h2 h3 => ?_) (fun v H1 locs1 α1 ho hα hM1 => ?_)
  · have hjk := hj k ho
    have hOt := l_out hO (fun q hq => by rw [List.mem_singleton] at hq; rw [hq]; exact hbo) hM1
    refine l_catch (k := k) (j := j) C.2.2.2.1 C.2.2.2.2.1 hG.1.2.2.2 hN htab (by decide) (by decide) (by decide) hjk h1 h2 h3 ?_
    have hjl : j < 1 := (List.getElem?_eq_some_iff.mp hjk).1
    rcases (show j = 0 by omega) with rfl
    · refine W_pc (pc' := 12) rfl ?_
      refine lv_astore_n (lv' := [(3, .ref q), (0, cr α 0 (some 0)), (1, .int x1), (2, .ref bo)]) hx hb dLaw_earn_12 rfl hl (by decide) rfl (fun ls hl => ?_)
      refine lv_iconst (v := nI 1) hx hb dLaw_earn_13 (by decide) ?_
      exact l_end C hα hM1 hM1.1 hOt (hM1.2.2.2.1.wk (fun q h => Or.inl h)) hr hlk rfl (by rw [ho]; rfl) (by rw [ho]; rfl) dLaw_earn_14
  · refine lv_i2l hx hb dLaw_earn_7 rfl ?_
    refine l_storeJ C hM1 h17 hO hKO hbo hb17 dLaw_earn_8 (fun H2 locs2 hP2 hO2 hS2 => ?_)
    refine lv_goto (tgt := 15) hx hb dLaw_earn_9 (by decide) ?_
    refine lv_iconst (v := nI 0) hx hb dLaw_earn_15 (by decide) ?_
    exact l_end C hα hM1 hP2 hO2 hS2 hr hlk rfl (by rw [ho]; rfl) (by rw [ho]; rfl) dLaw_earn_16
theorem cwv_sale : cCallV RV 152 (cRn 0) yX11_sale cX11_sale 4 ((some FieldType.int)) 2 := ⟨⟨wl_in (i := 1489) (by decide +kernel), wl_in (i := 1490) (by decide +kernel), wl_in (i := 1491) (by decide +kernel), wl_in (i := 1) (by decide +kernel), wl_in (i := 1492) (by decide +kernel)⟩, rfl, by decide, by decide, by decide +kernel⟩
abbrev rv_sale : Room := ({ frames := 7, cells := 1, slots := 6, locals := 125 } : Room)
set_option maxHeartbeats 4000000 in
set_option maxRecDepth 100000 in
theorem cv_sale (l : Launch) (hst : l.stackTraces = false) (D : va_G) (ca : Nat → ClassId) (A : Nat → Prop) (bo : Nat) (cO : ClassId) (α : cAl) (σ : cS) (f : Nat → Int64) (hbo : ¬ A bo) (hb17 : α 17 0 ≠ bo) (x1 : Int32) (x2 : Int32) (o : (Nat ⊕ Int32) × cS) (h : fc_X11_sale σ x1 x2 = some o) (j : Nat) (hj : ∀ k, o.1 = .inl k → ([4, 1] : List Nat)[j]? = some k) : lMet false l yLaw_sale cLaw_sale 5 (lHh [4, 1] 10 (fun j => ([13, 17] : List Nat).getD j 0)) rv_sale 1 6 D ca A bo α σ [cr α 0 (some 0), .int x1, .int x2, .ref bo] (lO bo cO f) [(cO, .long)] (lK j o.1) o.2 (lO bo cO (lV (fun x => vp_updL f 0 (x.toInt64)) f o.1)) := by
  refine va_MetW (hh := (lHh [4, 1] 10 (fun j => ([13, 17] : List Nat).getD j 0))) (cc := cLaw_sale) (maxL := 5) (ret := some .int) (by decide) rfl ?_
  intro p e s m args below meth c s₁ B hml hv
  obtain ⟨rfl, ⟨hP, hK, hD0, hSh, hA, hG⟩, hO, hKO, hN⟩ := hv
  have hts := atoms_spec (ws := lWs yLaw_sale cLaw_sale 5 (lHh [4, 1] 10 (fun j => ([13, 17] : List Nat).getD j 0))) B.pre
  have C : cC p s m _ c cLaw_sale 5 RV D ca A α := ⟨B.exec, B.bytes, hml, findClass_of_methodNamed B.named, fun w hw => hts w (List.mem_cons_of_mem _ hw), hK, hG⟩
  have hM : cM D ca true A s.heap σ α σ α s.heap [] := ⟨hP, hD0, hSh, va_S.rf, hA, cX.rf⟩
  have htab := vx_table (x := yLaw_sale) B (hts _ List.mem_cons_self)
  have h17 := c_17 hM
  have hr := B.returns
  have hlk := B.notSynchronized
  have hx := C.1
  have hb := C.2.1
  have hl := lv_entry ([cr α 0 (some 0), .int x1, .int x2, .ref bo]) (n := 5) (Nat.le_of_ble_eq_true rfl)
  rw [lg_entry_eq]
  generalize (lg_sl ([cr α 0 (some 0), .int x1, .int x2, .ref bo]) ++ List.replicate (5 - (lg_sl ([cr α 0 (some 0), .int x1, .int x2, .ref bo])).length) Slot.unset).toArray = ls at hl ⊢
  have hl : lv_has ls 5 [(0, cr α 0 (some 0)), (1, .int x1), (2, .int x2), (3, .ref bo)] := hl
  refine lv_aload_n hx hb dLaw_sale_0 rfl (lv_at hl 3 rfl) ?_
  refine lv_iconst (v := (0 : Int32)) hx hb dLaw_sale_1 (by decide) ?_
  refine c_aload_n (t := 0) (x := (some 0)) hx hb dLaw_sale_2 rfl (lv_at hl 0 rfl) ?_
  refine lv_iload_n hx hb dLaw_sale_3 rfl (lv_at hl 1 rfl) ?_
  refine lv_iload_n hx hb dLaw_sale_4 rfl (lv_at hl 2 rfl) ?_
  refine l_call (tv := fun v => .int v) (As := [.int x1, .int x2]) (rest := [.int 0, .ref bo]) C hM (cc_X11_sale l hst D ca A α σ x1 x2 o h) cwv_sale ⟨rfl, rfl⟩ ⟨Nat.le_of_ble_eq_true rfl, Nat.le_of_ble_eq_true rfl⟩ rfl rfl (cats_le _ (Nat.le_of_ble_eq_true rfl)) hl.1 dLaw_sale_5 ⟨Nat.le_of_ble_eq_true rfl, Nat.le_of_ble_eq_true rfl⟩ (fun k q ce H1 locs1 α1 ho hα hM1 h1 h2 h3 => ?_) (fun v H1 locs1 α1 ho hα hM1 => ?_)
  · have hjk := hj k ho
    have hOt := l_out hO (fun q hq => by rw [List.mem_singleton] at hq; rw [hq]; exact hbo) hM1
    refine l_catch (k := k) (j := j) C.2.2.2.1 C.2.2.2.2.1 hG.1.2.2.2 hN htab (by decide) (by decide) (by decide) hjk h1 h2 h3 ?_
    have hjl : j < 2 := (List.getElem?_eq_some_iff.mp hjk).1
    rcases (show j = 0 ∨ j = 1 by omega) with rfl | rfl
    · refine W_pc (pc' := 13) rfl ?_
      refine lv_astore (lv' := [(4, .ref q), (0, cr α 0 (some 0)), (1, .int x1), (2, .int x2), (3, .ref bo)]) hx hb dLaw_sale_13 hl (by decide) rfl (fun ls hl => ?_)
      refine lv_iconst (v := nI 1) hx hb dLaw_sale_15 (by decide) ?_
      exact l_end C hα hM1 hM1.1 hOt (hM1.2.2.2.1.wk (fun q h => Or.inl h)) hr hlk rfl (by rw [ho]; rfl) (by rw [ho]; rfl) dLaw_sale_16
    · refine W_pc (pc' := 17) rfl ?_
      refine lv_astore (lv' := [(4, .ref q), (0, cr α 0 (some 0)), (1, .int x1), (2, .int x2), (3, .ref bo)]) hx hb dLaw_sale_17 hl (by decide) rfl (fun ls hl => ?_)
      refine lv_iconst (v := nI 2) hx hb dLaw_sale_19 (by decide) ?_
      exact l_end C hα hM1 hM1.1 hOt (hM1.2.2.2.1.wk (fun q h => Or.inl h)) hr hlk rfl (by rw [ho]; rfl) (by rw [ho]; rfl) dLaw_sale_20
  · refine lv_i2l hx hb dLaw_sale_8 rfl ?_
    refine l_storeJ C hM1 h17 hO hKO hbo hb17 dLaw_sale_9 (fun H2 locs2 hP2 hO2 hS2 => ?_)
    refine lv_goto (tgt := 21) hx hb dLaw_sale_10 (by decide) ?_
    refine lv_iconst (v := nI 0) hx hb dLaw_sale_21 (by decide) ?_
    exact l_end C hα hM1 hP2 hO2 hS2 hr hlk rfl (by rw [ho]; rfl) (by rw [ho]; rfl) dLaw_sale_22
theorem cwv_merge : cCallV RV 156 (cRn 0) yX11_merge cX11_merge 5 ((some FieldType.int)) 1 := ⟨⟨wl_in (i := 1497) (by decide +kernel), wl_in (i := 1498) (by decide +kernel), wl_in (i := 1499) (by decide +kernel), wl_in (i := 1) (by decide +kernel), wl_in (i := 1500) (by decide +kernel)⟩, rfl, by decide, by decide, by decide +kernel⟩
abbrev rv_merge : Room := ({ frames := 11, cells := 10, slots := 267, locals := 301 } : Room)
set_option maxHeartbeats 4000000 in
set_option maxRecDepth 100000 in
theorem cv_merge (l : Launch) (hst : l.stackTraces = false) (D : va_G) (ca : Nat → ClassId) (A : Nat → Prop) (bo : Nat) (cO : ClassId) (α : cAl) (σ : cS) (f : Nat → Int64) (hbo : ¬ A bo) (hb17 : α 17 0 ≠ bo) (x1 : Int32) (o : (Nat ⊕ Int32) × cS) (h : fc_X11_merge σ x1 = some o) (j : Nat) (hj : ∀ k, o.1 = .inl k → ([4, 2, 3] : List Nat)[j]? = some k) : lMet true l yLaw_merge cLaw_merge 4 (lHh [4, 2, 3] 9 (fun j => ([12, 15, 18] : List Nat).getD j 0)) rv_merge 10 267 D ca A bo α σ [cr α 0 (some 0), .int x1, .ref bo] (lO bo cO f) [(cO, .long)] (lK j o.1) o.2 (lO bo cO (lV (fun x => vp_updL f 0 (x.toInt64)) f o.1)) := by
  refine va_MetW (hh := (lHh [4, 2, 3] 9 (fun j => ([12, 15, 18] : List Nat).getD j 0))) (cc := cLaw_merge) (maxL := 4) (ret := some .int) (by decide) rfl ?_
  intro p e s m args below meth c s₁ B hml hv
  obtain ⟨rfl, ⟨hP, hK, hD0, hSh, hA, hG⟩, hO, hKO, hN⟩ := hv
  have hts := atoms_spec (ws := lWs yLaw_merge cLaw_merge 4 (lHh [4, 2, 3] 9 (fun j => ([12, 15, 18] : List Nat).getD j 0))) B.pre
  have C : cC p s m _ c cLaw_merge 4 RV D ca A α := ⟨B.exec, B.bytes, hml, findClass_of_methodNamed B.named, fun w hw => hts w (List.mem_cons_of_mem _ hw), hK, hG⟩
  have hM : cM D ca true A s.heap σ α σ α s.heap [] := ⟨hP, hD0, hSh, va_S.rf, hA, cX.rf⟩
  have htab := vx_table (x := yLaw_merge) B (hts _ List.mem_cons_self)
  have h17 := c_17 hM
  have hr := B.returns
  have hlk := B.notSynchronized
  have hx := C.1
  have hb := C.2.1
  have hl := lv_entry ([cr α 0 (some 0), .int x1, .ref bo]) (n := 4) (Nat.le_of_ble_eq_true rfl)
  rw [lg_entry_eq]
  generalize (lg_sl ([cr α 0 (some 0), .int x1, .ref bo]) ++ List.replicate (4 - (lg_sl ([cr α 0 (some 0), .int x1, .ref bo])).length) Slot.unset).toArray = ls at hl ⊢
  have hl : lv_has ls 4 [(0, cr α 0 (some 0)), (1, .int x1), (2, .ref bo)] := hl
  refine lv_aload_n hx hb dLaw_merge_0 rfl (lv_at hl 2 rfl) ?_
  refine lv_iconst (v := (0 : Int32)) hx hb dLaw_merge_1 (by decide) ?_
  refine c_aload_n (t := 0) (x := (some 0)) hx hb dLaw_merge_2 rfl (lv_at hl 0 rfl) ?_
  refine lv_iload_n hx hb dLaw_merge_3 rfl (lv_at hl 1 rfl) ?_
  refine l_call (tv := fun v => .int v) (As := [.int x1]) (rest := [.int 0, .ref bo]) C hM (cc_X11_merge l hst D ca A α σ x1 o h) cwv_merge ⟨rfl, rfl⟩ ⟨Nat.le_of_ble_eq_true rfl, Nat.le_of_ble_eq_true rfl⟩ rfl rfl (cats_le _ (Nat.le_of_ble_eq_true rfl)) hl.1 dLaw_merge_4 ⟨Nat.le_of_ble_eq_true rfl, Nat.le_of_ble_eq_true rfl⟩ (fun k q ce H1 locs1 α1 ho hα hM1 h1 h2 h3 => ?_) (fun v H1 locs1 α1 ho hα hM1 => ?_)
  · have hjk := hj k ho
    have hOt := l_out hO (fun q hq => by rw [List.mem_singleton] at hq; rw [hq]; exact hbo) hM1
    refine l_catch (k := k) (j := j) C.2.2.2.1 C.2.2.2.2.1 hG.1.2.2.2 hN htab (by decide) (by decide) (by decide) hjk h1 h2 h3 ?_
    have hjl : j < 3 := (List.getElem?_eq_some_iff.mp hjk).1
    rcases (show j = 0 ∨ j = 1 ∨ j = 2 by omega) with rfl | rfl | rfl
    · refine W_pc (pc' := 12) rfl ?_
      refine lv_astore_n (lv' := [(3, .ref q), (0, cr α 0 (some 0)), (1, .int x1), (2, .ref bo)]) hx hb dLaw_merge_12 rfl hl (by decide) rfl (fun ls hl => ?_)
      refine lv_iconst (v := nI 1) hx hb dLaw_merge_13 (by decide) ?_
      exact l_end C hα hM1 hM1.1 hOt (hM1.2.2.2.1.wk (fun q h => Or.inl h)) hr hlk rfl (by rw [ho]; rfl) (by rw [ho]; rfl) dLaw_merge_14
    · refine W_pc (pc' := 15) rfl ?_
      refine lv_astore_n (lv' := [(3, .ref q), (0, cr α 0 (some 0)), (1, .int x1), (2, .ref bo)]) hx hb dLaw_merge_15 rfl hl (by decide) rfl (fun ls hl => ?_)
      refine lv_iconst (v := nI 2) hx hb dLaw_merge_16 (by decide) ?_
      exact l_end C hα hM1 hM1.1 hOt (hM1.2.2.2.1.wk (fun q h => Or.inl h)) hr hlk rfl (by rw [ho]; rfl) (by rw [ho]; rfl) dLaw_merge_17
    · refine W_pc (pc' := 18) rfl ?_
      refine lv_astore_n (lv' := [(3, .ref q), (0, cr α 0 (some 0)), (1, .int x1), (2, .ref bo)]) hx hb dLaw_merge_18 rfl hl (by decide) rfl (fun ls hl => ?_)
      refine lv_iconst (v := nI 3) hx hb dLaw_merge_19 (by decide) ?_
      exact l_end C hα hM1 hM1.1 hOt (hM1.2.2.2.1.wk (fun q h => Or.inl h)) hr hlk rfl (by rw [ho]; rfl) (by rw [ho]; rfl) dLaw_merge_20
  · refine lv_i2l hx hb dLaw_merge_7 rfl ?_
    refine l_storeJ C hM1 h17 hO hKO hbo hb17 dLaw_merge_8 (fun H2 locs2 hP2 hO2 hS2 => ?_)
    refine lv_goto (tgt := 21) hx hb dLaw_merge_9 (by decide) ?_
    refine lv_iconst (v := nI 0) hx hb dLaw_merge_21 (by decide) ?_
    exact l_end C hα hM1 hP2 hO2 hS2 hr hlk rfl (by rw [ho]; rfl) (by rw [ho]; rfl) dLaw_merge_22
theorem cwv_score : cCallV RV 159 (cRn 0) yX11_score cX11_score 1 ((some FieldType.int)) 0 := ⟨⟨wl_in (i := 1507) (by decide +kernel), wl_in (i := 1508) (by decide +kernel), wl_in (i := 1509) (by decide +kernel), wl_in (i := 1) (by decide +kernel), wl_in (i := 1510) (by decide +kernel)⟩, rfl, by decide, by decide, by decide +kernel⟩
abbrev rv_score : Room := ({ frames := 9, cells := 1, slots := 6, locals := 162 } : Room)
set_option maxHeartbeats 4000000 in
set_option maxRecDepth 100000 in
theorem cv_score (l : Launch) (hst : l.stackTraces = false) (D : va_G) (ca : Nat → ClassId) (A : Nat → Prop) (bo : Nat) (cO : ClassId) (α : cAl) (σ : cS) (f : Nat → Int64) (hbo : ¬ A bo) (hb17 : α 17 0 ≠ bo)  (o : (Nat ⊕ Int32) × cS) (h : fc_X11_score σ = some o) (j : Nat) (hj : ∀ k, o.1 = .inl k → ([2] : List Nat)[j]? = some k) : lMet false l yLaw_score cLaw_score 3 (lHh [2] 8 (fun j => ([11] : List Nat).getD j 0)) rv_score 1 6 D ca A bo α σ [cr α 0 (some 0), .ref bo] (lO bo cO f) [(cO, .long)] (lK j o.1) o.2 (lO bo cO (lV (fun x => vp_updL f 0 (x.toInt64)) f o.1)) := by
  refine va_MetW (hh := (lHh [2] 8 (fun j => ([11] : List Nat).getD j 0))) (cc := cLaw_score) (maxL := 3) (ret := some .int) (by decide) rfl ?_
  intro p e s m args below meth c s₁ B hml hv
  obtain ⟨rfl, ⟨hP, hK, hD0, hSh, hA, hG⟩, hO, hKO, hN⟩ := hv
  have hts := atoms_spec (ws := lWs yLaw_score cLaw_score 3 (lHh [2] 8 (fun j => ([11] : List Nat).getD j 0))) B.pre
  have C : cC p s m _ c cLaw_score 3 RV D ca A α := ⟨B.exec, B.bytes, hml, findClass_of_methodNamed B.named, fun w hw => hts w (List.mem_cons_of_mem _ hw), hK, hG⟩
  have hM : cM D ca true A s.heap σ α σ α s.heap [] := ⟨hP, hD0, hSh, va_S.rf, hA, cX.rf⟩
  have htab := vx_table (x := yLaw_score) B (hts _ List.mem_cons_self)
  have h17 := c_17 hM
  have hr := B.returns
  have hlk := B.notSynchronized
  have hx := C.1
  have hb := C.2.1
  have hl := lv_entry ([cr α 0 (some 0), .ref bo]) (n := 3) (Nat.le_of_ble_eq_true rfl)
  rw [lg_entry_eq]
  generalize (lg_sl ([cr α 0 (some 0), .ref bo]) ++ List.replicate (3 - (lg_sl ([cr α 0 (some 0), .ref bo])).length) Slot.unset).toArray = ls at hl ⊢
  have hl : lv_has ls 3 [(0, cr α 0 (some 0)), (1, .ref bo)] := hl
  refine lv_aload_n hx hb dLaw_score_0 rfl (lv_at hl 1 rfl) ?_
  refine lv_iconst (v := (0 : Int32)) hx hb dLaw_score_1 (by decide) ?_
  refine c_aload_n (t := 0) (x := (some 0)) hx hb dLaw_score_2 rfl (lv_at hl 0 rfl) ?_
  refine l_call (tv := fun v => .int v) (As := []) (rest := [.int 0, .ref bo]) C hM (cc_X11_score l hst D ca A α σ  o h) cwv_score ⟨rfl, rfl⟩ ⟨Nat.le_of_ble_eq_true rfl, Nat.le_of_ble_eq_true rfl⟩ rfl rfl (cats_le _ (Nat.le_of_ble_eq_true rfl)) hl.1 dLaw_score_3 ⟨Nat.le_of_ble_eq_true rfl, Nat.le_of_ble_eq_true rfl⟩ (fun k q ce H1 locs1 α1 ho hα hM1 h1 h2 h3 => ?_) (fun v H1 locs1 α1 ho hα hM1 => ?_)
  · have hjk := hj k ho
    have hOt := l_out hO (fun q hq => by rw [List.mem_singleton] at hq; rw [hq]; exact hbo) hM1
    refine l_catch (k := k) (j := j) C.2.2.2.1 C.2.2.2.2.1 hG.1.2.2.2 hN htab (by decide) (by decide) (by decide) hjk h1 h2 h3 ?_
    have hjl : j < 1 := (List.getElem?_eq_some_iff.mp hjk).1
    rcases (show j = 0 by omega) with rfl
    · refine W_pc (pc' := 11) rfl ?_
      refine lv_astore_n (lv' := [(2, .ref q), (0, cr α 0 (some 0)), (1, .ref bo)]) hx hb dLaw_score_11 rfl hl (by decide) rfl (fun ls hl => ?_)
      refine lv_iconst (v := nI 1) hx hb dLaw_score_12 (by decide) ?_
      exact l_end C hα hM1 hM1.1 hOt (hM1.2.2.2.1.wk (fun q h => Or.inl h)) hr hlk rfl (by rw [ho]; rfl) (by rw [ho]; rfl) dLaw_score_13
  · refine lv_i2l hx hb dLaw_score_6 rfl ?_
    refine l_storeJ C hM1 h17 hO hKO hbo hb17 dLaw_score_7 (fun H2 locs2 hP2 hO2 hS2 => ?_)
    refine lv_goto (tgt := 14) hx hb dLaw_score_8 (by decide) ?_
    refine lv_iconst (v := nI 0) hx hb dLaw_score_14 (by decide) ?_
    exact l_end C hα hM1 hP2 hO2 hS2 hr hlk rfl (by rw [ho]; rfl) (by rw [ho]; rfl) dLaw_score_15
theorem cwv_steps : cCallV RV 162 (cRn 0) yX11_steps cX11_steps 3 ((some FieldType.int)) 1 := ⟨⟨wl_in (i := 1518) (by decide +kernel), wl_in (i := 1519) (by decide +kernel), wl_in (i := 1520) (by decide +kernel), wl_in (i := 1) (by decide +kernel), wl_in (i := 1521) (by decide +kernel)⟩, rfl, by decide, by decide, by decide +kernel⟩
abbrev rv_steps : Room := ({ frames := 9, cells := 3, slots := 18, locals := 164 } : Room)
set_option maxHeartbeats 4000000 in
set_option maxRecDepth 100000 in
theorem cv_steps (l : Launch) (hst : l.stackTraces = false) (D : va_G) (ca : Nat → ClassId) (A : Nat → Prop) (bo : Nat) (cO : ClassId) (α : cAl) (σ : cS) (f : Nat → Int64) (hbo : ¬ A bo) (hb17 : α 17 0 ≠ bo) (x1 : Int32) (o : (Nat ⊕ Int32) × cS) (h : fc_X11_steps σ x1 = some o) (j : Nat) (hj : ∀ k, o.1 = .inl k → ([4, 2, 5] : List Nat)[j]? = some k) : lMet false l yLaw_steps cLaw_steps 4 (lHh [4, 2, 5] 9 (fun j => ([12, 15, 18] : List Nat).getD j 0)) rv_steps 3 18 D ca A bo α σ [cr α 0 (some 0), .int x1, .ref bo] (lO bo cO f) [(cO, .long)] (lK j o.1) o.2 (lO bo cO (lV (fun x => vp_updL f 0 (x.toInt64)) f o.1)) := by
  refine va_MetW (hh := (lHh [4, 2, 5] 9 (fun j => ([12, 15, 18] : List Nat).getD j 0))) (cc := cLaw_steps) (maxL := 4) (ret := some .int) (by decide) rfl ?_
  intro p e s m args below meth c s₁ B hml hv
  obtain ⟨rfl, ⟨hP, hK, hD0, hSh, hA, hG⟩, hO, hKO, hN⟩ := hv
  have hts := atoms_spec (ws := lWs yLaw_steps cLaw_steps 4 (lHh [4, 2, 5] 9 (fun j => ([12, 15, 18] : List Nat).getD j 0))) B.pre
  have C : cC p s m _ c cLaw_steps 4 RV D ca A α := ⟨B.exec, B.bytes, hml, findClass_of_methodNamed B.named, fun w hw => hts w (List.mem_cons_of_mem _ hw), hK, hG⟩
  have hM : cM D ca true A s.heap σ α σ α s.heap [] := ⟨hP, hD0, hSh, va_S.rf, hA, cX.rf⟩
  have htab := vx_table (x := yLaw_steps) B (hts _ List.mem_cons_self)
  have h17 := c_17 hM
  have hr := B.returns
  have hlk := B.notSynchronized
  have hx := C.1
  have hb := C.2.1
  have hl := lv_entry ([cr α 0 (some 0), .int x1, .ref bo]) (n := 4) (Nat.le_of_ble_eq_true rfl)
  rw [lg_entry_eq]
  generalize (lg_sl ([cr α 0 (some 0), .int x1, .ref bo]) ++ List.replicate (4 - (lg_sl ([cr α 0 (some 0), .int x1, .ref bo])).length) Slot.unset).toArray = ls at hl ⊢
  have hl : lv_has ls 4 [(0, cr α 0 (some 0)), (1, .int x1), (2, .ref bo)] := hl
  refine lv_aload_n hx hb dLaw_steps_0 rfl (lv_at hl 2 rfl) ?_
  refine lv_iconst (v := (0 : Int32)) hx hb dLaw_steps_1 (by decide) ?_
  refine c_aload_n (t := 0) (x := (some 0)) hx hb dLaw_steps_2 rfl (lv_at hl 0 rfl) ?_
  refine lv_iload_n hx hb dLaw_steps_3 rfl (lv_at hl 1 rfl) ?_
  refine l_call (tv := fun v => .int v) (As := [.int x1]) (rest := [.int 0, .ref bo]) C hM (cc_X11_steps l hst D ca A α σ x1 o h) cwv_steps ⟨rfl, rfl⟩ ⟨Nat.le_of_ble_eq_true rfl, Nat.le_of_ble_eq_true rfl⟩ rfl rfl (cats_le _ (Nat.le_of_ble_eq_true rfl)) hl.1 dLaw_steps_4 ⟨Nat.le_of_ble_eq_true rfl, Nat.le_of_ble_eq_true rfl⟩ (fun k q ce H1 locs1 α1 ho hα hM1 h1 h2 h3 => ?_) (fun v H1 locs1 α1 ho hα hM1 => ?_)
  · have hjk := hj k ho
    have hOt := l_out hO (fun q hq => by rw [List.mem_singleton] at hq; rw [hq]; exact hbo) hM1
    refine l_catch (k := k) (j := j) C.2.2.2.1 C.2.2.2.2.1 hG.1.2.2.2 hN htab (by decide) (by decide) (by decide) hjk h1 h2 h3 ?_
    have hjl : j < 3 := (List.getElem?_eq_some_iff.mp hjk).1
    rcases (show j = 0 ∨ j = 1 ∨ j = 2 by omega) with rfl | rfl | rfl
    · refine W_pc (pc' := 12) rfl ?_
      refine lv_astore_n (lv' := [(3, .ref q), (0, cr α 0 (some 0)), (1, .int x1), (2, .ref bo)]) hx hb dLaw_steps_12 rfl hl (by decide) rfl (fun ls hl => ?_)
      refine lv_iconst (v := nI 1) hx hb dLaw_steps_13 (by decide) ?_
      exact l_end C hα hM1 hM1.1 hOt (hM1.2.2.2.1.wk (fun q h => Or.inl h)) hr hlk rfl (by rw [ho]; rfl) (by rw [ho]; rfl) dLaw_steps_14
    · refine W_pc (pc' := 15) rfl ?_
      refine lv_astore_n (lv' := [(3, .ref q), (0, cr α 0 (some 0)), (1, .int x1), (2, .ref bo)]) hx hb dLaw_steps_15 rfl hl (by decide) rfl (fun ls hl => ?_)
      refine lv_iconst (v := nI 2) hx hb dLaw_steps_16 (by decide) ?_
      exact l_end C hα hM1 hM1.1 hOt (hM1.2.2.2.1.wk (fun q h => Or.inl h)) hr hlk rfl (by rw [ho]; rfl) (by rw [ho]; rfl) dLaw_steps_17
    · refine W_pc (pc' := 18) rfl ?_
      refine lv_astore_n (lv' := [(3, .ref q), (0, cr α 0 (some 0)), (1, .int x1), (2, .ref bo)]) hx hb dLaw_steps_18 rfl hl (by decide) rfl (fun ls hl => ?_)
      refine lv_iconst (v := nI 3) hx hb dLaw_steps_19 (by decide) ?_
      exact l_end C hα hM1 hM1.1 hOt (hM1.2.2.2.1.wk (fun q h => Or.inl h)) hr hlk rfl (by rw [ho]; rfl) (by rw [ho]; rfl) dLaw_steps_20
  · refine lv_i2l hx hb dLaw_steps_7 rfl ?_
    refine l_storeJ C hM1 h17 hO hKO hbo hb17 dLaw_steps_8 (fun H2 locs2 hP2 hO2 hS2 => ?_)
    refine lv_goto (tgt := 21) hx hb dLaw_steps_9 (by decide) ?_
    refine lv_iconst (v := nI 0) hx hb dLaw_steps_21 (by decide) ?_
    exact l_end C hα hM1 hP2 hO2 hS2 hr hlk rfl (by rw [ho]; rfl) (by rw [ho]; rfl) dLaw_steps_22
theorem cwv_line : cCallV RV 165 (cRn 0) yX11_line cX11_line 1 ((some FieldType.int)) 0 := ⟨⟨wl_in (i := 1535) (by decide +kernel), wl_in (i := 1536) (by decide +kernel), wl_in (i := 1537) (by decide +kernel), wl_in (i := 1) (by decide +kernel), wl_in (i := 1538) (by decide +kernel)⟩, rfl, by decide, by decide, by decide +kernel⟩
abbrev rv_line : Room := ({ frames := 10, cells := 4, slots := 606, locals := 219 } : Room)
set_option maxHeartbeats 4000000 in
set_option maxRecDepth 100000 in
theorem cv_line (l : Launch) (hst : l.stackTraces = false) (D : va_G) (ca : Nat → ClassId) (A : Nat → Prop) (bo : Nat) (cO : ClassId) (α : cAl) (σ : cS) (f : Nat → Int64) (hbo : ¬ A bo) (hb17 : α 17 0 ≠ bo)  (o : (Nat ⊕ Int32) × cS) (h : fc_X11_line σ = some o) (j : Nat) (hj : ∀ k, o.1 = .inl k → ([2] : List Nat)[j]? = some k) : lMet true l yLaw_line cLaw_line 3 (lHh [2] 8 (fun j => ([11] : List Nat).getD j 0)) rv_line 4 606 D ca A bo α σ [cr α 0 (some 0), .ref bo] (lO bo cO f) [(cO, .long)] (lK j o.1) o.2 (lO bo cO (lV (fun x => vp_updL f 0 (x.toInt64)) f o.1)) := by
  refine va_MetW (hh := (lHh [2] 8 (fun j => ([11] : List Nat).getD j 0))) (cc := cLaw_line) (maxL := 3) (ret := some .int) (by decide) rfl ?_
  intro p e s m args below meth c s₁ B hml hv
  obtain ⟨rfl, ⟨hP, hK, hD0, hSh, hA, hG⟩, hO, hKO, hN⟩ := hv
  have hts := atoms_spec (ws := lWs yLaw_line cLaw_line 3 (lHh [2] 8 (fun j => ([11] : List Nat).getD j 0))) B.pre
  have C : cC p s m _ c cLaw_line 3 RV D ca A α := ⟨B.exec, B.bytes, hml, findClass_of_methodNamed B.named, fun w hw => hts w (List.mem_cons_of_mem _ hw), hK, hG⟩
  have hM : cM D ca true A s.heap σ α σ α s.heap [] := ⟨hP, hD0, hSh, va_S.rf, hA, cX.rf⟩
  have htab := vx_table (x := yLaw_line) B (hts _ List.mem_cons_self)
  have h17 := c_17 hM
  have hr := B.returns
  have hlk := B.notSynchronized
  have hx := C.1
  have hb := C.2.1
  have hl := lv_entry ([cr α 0 (some 0), .ref bo]) (n := 3) (Nat.le_of_ble_eq_true rfl)
  rw [lg_entry_eq]
  generalize (lg_sl ([cr α 0 (some 0), .ref bo]) ++ List.replicate (3 - (lg_sl ([cr α 0 (some 0), .ref bo])).length) Slot.unset).toArray = ls at hl ⊢
  have hl : lv_has ls 3 [(0, cr α 0 (some 0)), (1, .ref bo)] := hl
  refine lv_aload_n hx hb dLaw_line_0 rfl (lv_at hl 1 rfl) ?_
  refine lv_iconst (v := (0 : Int32)) hx hb dLaw_line_1 (by decide) ?_
  refine c_aload_n (t := 0) (x := (some 0)) hx hb dLaw_line_2 rfl (lv_at hl 0 rfl) ?_
  refine l_call (tv := fun v => .int v) (As := []) (rest := [.int 0, .ref bo]) C hM (cc_X11_line l hst D ca A α σ  o h) cwv_line ⟨rfl, rfl⟩ ⟨Nat.le_of_ble_eq_true rfl, Nat.le_of_ble_eq_true rfl⟩ rfl rfl (cats_le _ (Nat.le_of_ble_eq_true rfl)) hl.1 dLaw_line_3 ⟨Nat.le_of_ble_eq_true rfl, Nat.le_of_ble_eq_true rfl⟩ (fun k q ce H1 locs1 α1 ho hα hM1 h1 h2 h3 => ?_) (fun v H1 locs1 α1 ho hα hM1 => ?_)
  · have hjk := hj k ho
    have hOt := l_out hO (fun q hq => by rw [List.mem_singleton] at hq; rw [hq]; exact hbo) hM1
    refine l_catch (k := k) (j := j) C.2.2.2.1 C.2.2.2.2.1 hG.1.2.2.2 hN htab (by decide) (by decide) (by decide) hjk h1 h2 h3 ?_
    have hjl : j < 1 := (List.getElem?_eq_some_iff.mp hjk).1
    rcases (show j = 0 by omega) with rfl
    · refine W_pc (pc' := 11) rfl ?_
      refine lv_astore_n (lv' := [(2, .ref q), (0, cr α 0 (some 0)), (1, .ref bo)]) hx hb dLaw_line_11 rfl hl (by decide) rfl (fun ls hl => ?_)
      refine lv_iconst (v := nI 1) hx hb dLaw_line_12 (by decide) ?_
      exact l_end C hα hM1 hM1.1 hOt (hM1.2.2.2.1.wk (fun q h => Or.inl h)) hr hlk rfl (by rw [ho]; rfl) (by rw [ho]; rfl) dLaw_line_13
  · refine lv_i2l hx hb dLaw_line_6 rfl ?_
    refine l_storeJ C hM1 h17 hO hKO hbo hb17 dLaw_line_7 (fun H2 locs2 hP2 hO2 hS2 => ?_)
    refine lv_goto (tgt := 14) hx hb dLaw_line_8 (by decide) ?_
    refine lv_iconst (v := nI 0) hx hb dLaw_line_14 (by decide) ?_
    exact l_end C hα hM1 hP2 hO2 hS2 hr hlk rfl (by rw [ho]; rfl) (by rw [ho]; rfl) dLaw_line_15
theorem cwv_signOf : cCallV RV 168 (cRn 0) yX11_signOf cX11_signOf 2 ((some FieldType.char)) 1 := ⟨⟨wl_in (i := 1783) (by decide +kernel), wl_in (i := 1784) (by decide +kernel), wl_in (i := 1785) (by decide +kernel), wl_in (i := 1) (by decide +kernel), wl_in (i := 1786) (by decide +kernel)⟩, rfl, by decide, by decide, by decide +kernel⟩
abbrev rv_signOf : Room := ({ frames := 10, cells := 5, slots := 612, locals := 220 } : Room)
set_option maxHeartbeats 4000000 in
set_option maxRecDepth 100000 in
theorem cv_signOf (l : Launch) (hst : l.stackTraces = false) (D : va_G) (ca : Nat → ClassId) (A : Nat → Prop) (bo : Nat) (cO : ClassId) (α : cAl) (σ : cS) (f : Nat → Int64) (hbo : ¬ A bo) (hb17 : α 17 0 ≠ bo) (x1 : Int32) (o : (Nat ⊕ Int32) × cS) (h : fc_X11_signOf σ x1 = some o) (j : Nat) (hj : ∀ k, o.1 = .inl k → ([2, 5] : List Nat)[j]? = some k) : lMet true l yLaw_signOf cLaw_signOf 4 (lHh [2, 5] 9 (fun j => ([12, 15] : List Nat).getD j 0)) rv_signOf 5 612 D ca A bo α σ [cr α 0 (some 0), .int x1, .ref bo] (lO bo cO f) [(cO, .long)] (lK j o.1) o.2 (lO bo cO (lV (fun x => vp_updL f 0 (x.toInt64)) f o.1)) := by
  refine va_MetW (hh := (lHh [2, 5] 9 (fun j => ([12, 15] : List Nat).getD j 0))) (cc := cLaw_signOf) (maxL := 4) (ret := some .int) (by decide) rfl ?_
  intro p e s m args below meth c s₁ B hml hv
  obtain ⟨rfl, ⟨hP, hK, hD0, hSh, hA, hG⟩, hO, hKO, hN⟩ := hv
  have hts := atoms_spec (ws := lWs yLaw_signOf cLaw_signOf 4 (lHh [2, 5] 9 (fun j => ([12, 15] : List Nat).getD j 0))) B.pre
  have C : cC p s m _ c cLaw_signOf 4 RV D ca A α := ⟨B.exec, B.bytes, hml, findClass_of_methodNamed B.named, fun w hw => hts w (List.mem_cons_of_mem _ hw), hK, hG⟩
  have hM : cM D ca true A s.heap σ α σ α s.heap [] := ⟨hP, hD0, hSh, va_S.rf, hA, cX.rf⟩
  have htab := vx_table (x := yLaw_signOf) B (hts _ List.mem_cons_self)
  have h17 := c_17 hM
  have hr := B.returns
  have hlk := B.notSynchronized
  have hx := C.1
  have hb := C.2.1
  have hl := lv_entry ([cr α 0 (some 0), .int x1, .ref bo]) (n := 4) (Nat.le_of_ble_eq_true rfl)
  rw [lg_entry_eq]
  generalize (lg_sl ([cr α 0 (some 0), .int x1, .ref bo]) ++ List.replicate (4 - (lg_sl ([cr α 0 (some 0), .int x1, .ref bo])).length) Slot.unset).toArray = ls at hl ⊢
  have hl : lv_has ls 4 [(0, cr α 0 (some 0)), (1, .int x1), (2, .ref bo)] := hl
  refine lv_aload_n hx hb dLaw_signOf_0 rfl (lv_at hl 2 rfl) ?_
  refine lv_iconst (v := (0 : Int32)) hx hb dLaw_signOf_1 (by decide) ?_
  refine c_aload_n (t := 0) (x := (some 0)) hx hb dLaw_signOf_2 rfl (lv_at hl 0 rfl) ?_
  refine lv_iload_n hx hb dLaw_signOf_3 rfl (lv_at hl 1 rfl) ?_
  refine l_call (tv := fun v => .int v) (As := [.int x1]) (rest := [.int 0, .ref bo]) C hM (cc_X11_signOf l hst D ca A α σ x1 o h) cwv_signOf ⟨rfl, rfl⟩ ⟨Nat.le_of_ble_eq_true rfl, Nat.le_of_ble_eq_true rfl⟩ rfl rfl (cats_le _ (Nat.le_of_ble_eq_true rfl)) hl.1 dLaw_signOf_4 ⟨Nat.le_of_ble_eq_true rfl, Nat.le_of_ble_eq_true rfl⟩ (fun k q ce H1 locs1 α1 ho hα hM1 h1 h2 h3 => ?_) (fun v H1 locs1 α1 ho hα hM1 => ?_)
  · have hjk := hj k ho
    have hOt := l_out hO (fun q hq => by rw [List.mem_singleton] at hq; rw [hq]; exact hbo) hM1
    refine l_catch (k := k) (j := j) C.2.2.2.1 C.2.2.2.2.1 hG.1.2.2.2 hN htab (by decide) (by decide) (by decide) hjk h1 h2 h3 ?_
    have hjl : j < 2 := (List.getElem?_eq_some_iff.mp hjk).1
    rcases (show j = 0 ∨ j = 1 by omega) with rfl | rfl
    · refine W_pc (pc' := 12) rfl ?_
      refine lv_astore_n (lv' := [(3, .ref q), (0, cr α 0 (some 0)), (1, .int x1), (2, .ref bo)]) hx hb dLaw_signOf_12 rfl hl (by decide) rfl (fun ls hl => ?_)
      refine lv_iconst (v := nI 1) hx hb dLaw_signOf_13 (by decide) ?_
      exact l_end C hα hM1 hM1.1 hOt (hM1.2.2.2.1.wk (fun q h => Or.inl h)) hr hlk rfl (by rw [ho]; rfl) (by rw [ho]; rfl) dLaw_signOf_14
    · refine W_pc (pc' := 15) rfl ?_
      refine lv_astore_n (lv' := [(3, .ref q), (0, cr α 0 (some 0)), (1, .int x1), (2, .ref bo)]) hx hb dLaw_signOf_15 rfl hl (by decide) rfl (fun ls hl => ?_)
      refine lv_iconst (v := nI 2) hx hb dLaw_signOf_16 (by decide) ?_
      exact l_end C hα hM1 hM1.1 hOt (hM1.2.2.2.1.wk (fun q h => Or.inl h)) hr hlk rfl (by rw [ho]; rfl) (by rw [ho]; rfl) dLaw_signOf_17
  · refine lv_i2l hx hb dLaw_signOf_7 rfl ?_
    refine l_storeJ C hM1 h17 hO hKO hbo hb17 dLaw_signOf_8 (fun H2 locs2 hP2 hO2 hS2 => ?_)
    refine lv_goto (tgt := 18) hx hb dLaw_signOf_9 (by decide) ?_
    refine lv_iconst (v := nI 0) hx hb dLaw_signOf_18 (by decide) ?_
    exact l_end C hα hM1 hP2 hO2 hS2 hr hlk rfl (by rw [ho]; rfl) (by rw [ho]; rfl) dLaw_signOf_19
theorem cwv_checksum : cCallV RV 172 (cRn 0) yX11_checksum cX11_checksum 5 ((some FieldType.long)) 0 := ⟨⟨wl_in (i := 1800) (by decide +kernel), wl_in (i := 1801) (by decide +kernel), wl_in (i := 1802) (by decide +kernel), wl_in (i := 1) (by decide +kernel), wl_in (i := 1803) (by decide +kernel)⟩, rfl, by decide, by decide, by decide +kernel⟩
abbrev rv_checksum : Room := ({ frames := 9, cells := 1, slots := 6, locals := 166 } : Room)
set_option maxHeartbeats 4000000 in
set_option maxRecDepth 100000 in
theorem cv_checksum (l : Launch) (hst : l.stackTraces = false) (D : va_G) (ca : Nat → ClassId) (A : Nat → Prop) (bo : Nat) (cO : ClassId) (α : cAl) (σ : cS) (f : Nat → Int64) (hbo : ¬ A bo) (hb17 : α 17 0 ≠ bo)  (o : (Nat ⊕ Int64) × cS) (h : fc_X11_checksum σ = some o) (j : Nat) (hj : ∀ k, o.1 = .inl k → ([2] : List Nat)[j]? = some k) : lMet false l yLaw_checksum cLaw_checksum 3 (lHh [2] 7 (fun j => ([10] : List Nat).getD j 0)) rv_checksum 1 6 D ca A bo α σ [cr α 0 (some 0), .ref bo] (lO bo cO f) [(cO, .long)] (lK j o.1) o.2 (lO bo cO (lV (fun x => vp_updL f 0 (x)) f o.1)) := by
  refine va_MetW (hh := (lHh [2] 7 (fun j => ([10] : List Nat).getD j 0))) (cc := cLaw_checksum) (maxL := 3) (ret := some .int) (by decide) rfl ?_
  intro p e s m args below meth c s₁ B hml hv
  obtain ⟨rfl, ⟨hP, hK, hD0, hSh, hA, hG⟩, hO, hKO, hN⟩ := hv
  have hts := atoms_spec (ws := lWs yLaw_checksum cLaw_checksum 3 (lHh [2] 7 (fun j => ([10] : List Nat).getD j 0))) B.pre
  have C : cC p s m _ c cLaw_checksum 3 RV D ca A α := ⟨B.exec, B.bytes, hml, findClass_of_methodNamed B.named, fun w hw => hts w (List.mem_cons_of_mem _ hw), hK, hG⟩
  have hM : cM D ca true A s.heap σ α σ α s.heap [] := ⟨hP, hD0, hSh, va_S.rf, hA, cX.rf⟩
  have htab := vx_table (x := yLaw_checksum) B (hts _ List.mem_cons_self)
  have h17 := c_17 hM
  have hr := B.returns
  have hlk := B.notSynchronized
  have hx := C.1
  have hb := C.2.1
  have hl := lv_entry ([cr α 0 (some 0), .ref bo]) (n := 3) (Nat.le_of_ble_eq_true rfl)
  rw [lg_entry_eq]
  generalize (lg_sl ([cr α 0 (some 0), .ref bo]) ++ List.replicate (3 - (lg_sl ([cr α 0 (some 0), .ref bo])).length) Slot.unset).toArray = ls at hl ⊢
  have hl : lv_has ls 3 [(0, cr α 0 (some 0)), (1, .ref bo)] := hl
  refine lv_aload_n hx hb dLaw_checksum_0 rfl (lv_at hl 1 rfl) ?_
  refine lv_iconst (v := (0 : Int32)) hx hb dLaw_checksum_1 (by decide) ?_
  refine c_aload_n (t := 0) (x := (some 0)) hx hb dLaw_checksum_2 rfl (lv_at hl 0 rfl) ?_
  refine l_call (tv := fun v => .long v) (As := []) (rest := [.int 0, .ref bo]) C hM (cc_X11_checksum l hst D ca A α σ  o h) cwv_checksum ⟨rfl, rfl⟩ ⟨Nat.le_of_ble_eq_true rfl, Nat.le_of_ble_eq_true rfl⟩ rfl rfl (cats_le _ (Nat.le_of_ble_eq_true rfl)) hl.1 dLaw_checksum_3 ⟨Nat.le_of_ble_eq_true rfl, Nat.le_of_ble_eq_true rfl⟩ (fun k q ce H1 locs1 α1 ho hα hM1 h1 h2 h3 => ?_) (fun v H1 locs1 α1 ho hα hM1 => ?_)
  · have hjk := hj k ho
    have hOt := l_out hO (fun q hq => by rw [List.mem_singleton] at hq; rw [hq]; exact hbo) hM1
    refine l_catch (k := k) (j := j) C.2.2.2.1 C.2.2.2.2.1 hG.1.2.2.2 hN htab (by decide) (by decide) (by decide) hjk h1 h2 h3 ?_
    have hjl : j < 1 := (List.getElem?_eq_some_iff.mp hjk).1
    rcases (show j = 0 by omega) with rfl
    · refine W_pc (pc' := 10) rfl ?_
      refine lv_astore_n (lv' := [(2, .ref q), (0, cr α 0 (some 0)), (1, .ref bo)]) hx hb dLaw_checksum_10 rfl hl (by decide) rfl (fun ls hl => ?_)
      refine lv_iconst (v := nI 1) hx hb dLaw_checksum_11 (by decide) ?_
      exact l_end C hα hM1 hM1.1 hOt (hM1.2.2.2.1.wk (fun q h => Or.inl h)) hr hlk rfl (by rw [ho]; rfl) (by rw [ho]; rfl) dLaw_checksum_12
  · show W _ _ _ _ _ _ _ _ _ _ _ _ _ _ _ (F0 m 6 ls (.long v :: [.int 0, .ref bo]))
    refine l_storeJ C hM1 h17 hO hKO hbo hb17 dLaw_checksum_6 (fun H2 locs2 hP2 hO2 hS2 => ?_)
    refine lv_goto (tgt := 13) hx hb dLaw_checksum_7 (by decide) ?_
    refine lv_iconst (v := nI 0) hx hb dLaw_checksum_13 (by decide) ?_
    exact l_end C hα hM1 hP2 hO2 hS2 hr hlk rfl (by rw [ho]; rfl) (by rw [ho]; rfl) dLaw_checksum_14
theorem cwv_knownShare : cCallV RV 176 (cRn 0) yX11_knownShare cX11_knownShare 1 ((some FieldType.float)) 0 := ⟨⟨wl_in (i := 1825) (by decide +kernel), wl_in (i := 1826) (by decide +kernel), wl_in (i := 1827) (by decide +kernel), wl_in (i := 1) (by decide +kernel), wl_in (i := 1828) (by decide +kernel)⟩, rfl, by decide, by decide, by decide +kernel⟩
abbrev rv_knownShare : Room := ({ frames := 8, cells := 2, slots := 12, locals := 162 } : Room)
set_option maxHeartbeats 4000000 in
set_option maxRecDepth 100000 in
theorem cv_knownShare (l : Launch) (hst : l.stackTraces = false) (D : va_G) (ca : Nat → ClassId) (A : Nat → Prop) (bo : Nat) (cO : ClassId) (α : cAl) (σ : cS) (f : Nat → UInt64) (hbo : ¬ A bo) (hb17 : α 17 0 ≠ bo)  (o : (Nat ⊕ UInt32) × cS) (h : fc_X11_knownShare σ = some o) (hne : ∀ x, o.1 = .inr x → vf_n64 (FP.f2d x)) (j : Nat) (hj : ∀ k, o.1 = .inl k → ([2, 6] : List Nat)[j]? = some k) : lMet false l yLaw_knownShare cLaw_knownShare 3 (lHh [2, 6] 8 (fun j => ([11, 14] : List Nat).getD j 0)) rv_knownShare 2 12 D ca A bo α σ [cr α 0 (some 0), .ref bo] (lOd bo cO f) [(cO, .double)] (lK j o.1) o.2 (lOd bo cO (lV (fun x => vf_upd f 0 (FP.f2d x)) f o.1)) := by
  refine va_MetW (hh := (lHh [2, 6] 8 (fun j => ([11, 14] : List Nat).getD j 0))) (cc := cLaw_knownShare) (maxL := 3) (ret := some .int) (by decide) rfl ?_
  intro p e s m args below meth c s₁ B hml hv
  obtain ⟨rfl, ⟨hP, hK, hD0, hSh, hA, hG⟩, hO, hKO, hN⟩ := hv
  have hts := atoms_spec (ws := lWs yLaw_knownShare cLaw_knownShare 3 (lHh [2, 6] 8 (fun j => ([11, 14] : List Nat).getD j 0))) B.pre
  have C : cC p s m _ c cLaw_knownShare 3 RV D ca A α := ⟨B.exec, B.bytes, hml, findClass_of_methodNamed B.named, fun w hw => hts w (List.mem_cons_of_mem _ hw), hK, hG⟩
  have hM : cM D ca true A s.heap σ α σ α s.heap [] := ⟨hP, hD0, hSh, va_S.rf, hA, cX.rf⟩
  have htab := vx_table (x := yLaw_knownShare) B (hts _ List.mem_cons_self)
  have h17 := c_17 hM
  have hr := B.returns
  have hlk := B.notSynchronized
  have hx := C.1
  have hb := C.2.1
  have hl := lv_entry ([cr α 0 (some 0), .ref bo]) (n := 3) (Nat.le_of_ble_eq_true rfl)
  rw [lg_entry_eq]
  generalize (lg_sl ([cr α 0 (some 0), .ref bo]) ++ List.replicate (3 - (lg_sl ([cr α 0 (some 0), .ref bo])).length) Slot.unset).toArray = ls at hl ⊢
  have hl : lv_has ls 3 [(0, cr α 0 (some 0)), (1, .ref bo)] := hl
  refine lv_aload_n hx hb dLaw_knownShare_0 rfl (lv_at hl 1 rfl) ?_
  refine lv_iconst (v := (0 : Int32)) hx hb dLaw_knownShare_1 (by decide) ?_
  refine c_aload_n (t := 0) (x := (some 0)) hx hb dLaw_knownShare_2 rfl (lv_at hl 0 rfl) ?_
  refine l_call (tv := fun v => .float v) (As := []) (rest := [.int 0, .ref bo]) C hM (cc_X11_knownShare l hst D ca A α σ  o h) cwv_knownShare ⟨rfl, rfl⟩ ⟨Nat.le_of_ble_eq_true rfl, Nat.le_of_ble_eq_true rfl⟩ rfl rfl (cats_le _ (Nat.le_of_ble_eq_true rfl)) hl.1 dLaw_knownShare_3 ⟨Nat.le_of_ble_eq_true rfl, Nat.le_of_ble_eq_true rfl⟩ (fun k q ce H1 locs1 α1 ho hα hM1 h1 h2 h3 => ?_) (fun v H1 locs1 α1 ho hα hM1 => ?_)
  · have hjk := hj k ho
    have hOt := l_out hO (fun q hq => by rw [List.mem_singleton] at hq; rw [hq]; exact hbo) hM1
    refine l_catch (k := k) (j := j) C.2.2.2.1 C.2.2.2.2.1 hG.1.2.2.2 hN htab (by decide) (by decide) (by decide) hjk h1 h2 h3 ?_
    have hjl : j < 2 := (List.getElem?_eq_some_iff.mp hjk).1
    rcases (show j = 0 ∨ j = 1 by omega) with rfl | rfl
    · refine W_pc (pc' := 11) rfl ?_
      refine lv_astore_n (lv' := [(2, .ref q), (0, cr α 0 (some 0)), (1, .ref bo)]) hx hb dLaw_knownShare_11 rfl hl (by decide) rfl (fun ls hl => ?_)
      refine lv_iconst (v := nI 1) hx hb dLaw_knownShare_12 (by decide) ?_
      exact l_end C hα hM1 hM1.1 hOt (hM1.2.2.2.1.wk (fun q h => Or.inl h)) hr hlk rfl (by rw [ho]; rfl) (by rw [ho]; rfl) dLaw_knownShare_13
    · refine W_pc (pc' := 14) rfl ?_
      refine lv_astore_n (lv' := [(2, .ref q), (0, cr α 0 (some 0)), (1, .ref bo)]) hx hb dLaw_knownShare_14 rfl hl (by decide) rfl (fun ls hl => ?_)
      refine lv_iconst (v := nI 2) hx hb dLaw_knownShare_15 (by decide) ?_
      exact l_end C hα hM1 hM1.1 hOt (hM1.2.2.2.1.wk (fun q h => Or.inl h)) hr hlk rfl (by rw [ho]; rfl) (by rw [ho]; rfl) dLaw_knownShare_16
  · refine lv_f2d hx hb dLaw_knownShare_6 (hne v ho) ?_
    refine l_storeD C hM1 h17 hO hKO hbo hb17 dLaw_knownShare_7 (fun H2 locs2 hP2 hO2 hS2 => ?_)
    refine lv_goto (tgt := 17) hx hb dLaw_knownShare_8 (by decide) ?_
    refine lv_iconst (v := nI 0) hx hb dLaw_knownShare_17 (by decide) ?_
    exact l_end C hα hM1 hP2 hO2 hS2 hr hlk rfl (by rw [ho]; rfl) (by rw [ho]; rfl) dLaw_knownShare_18
theorem cwv_meanPrice : cCallV RV 182 (cRn 0) yX11_meanPrice cX11_meanPrice 2 ((some FieldType.double)) 0 := ⟨⟨wl_in (i := 1835) (by decide +kernel), wl_in (i := 1836) (by decide +kernel), wl_in (i := 1837) (by decide +kernel), wl_in (i := 1) (by decide +kernel), wl_in (i := 1838) (by decide +kernel)⟩, rfl, by decide, by decide, by decide +kernel⟩
abbrev rv_meanPrice : Room := ({ frames := 7, cells := 1, slots := 6, locals := 145 } : Room)
set_option maxHeartbeats 4000000 in
set_option maxRecDepth 100000 in
theorem cv_meanPrice (l : Launch) (hst : l.stackTraces = false) (D : va_G) (ca : Nat → ClassId) (A : Nat → Prop) (bo : Nat) (cO : ClassId) (α : cAl) (σ : cS) (f : Nat → UInt64) (hbo : ¬ A bo) (hb17 : α 17 0 ≠ bo)  (o : (Nat ⊕ UInt64) × cS) (h : fc_X11_meanPrice σ = some o) (j : Nat) (hj : ∀ k, o.1 = .inl k → ([5] : List Nat)[j]? = some k) : lMet false l yLaw_meanPrice cLaw_meanPrice 3 (lHh [5] 7 (fun j => ([10] : List Nat).getD j 0)) rv_meanPrice 1 6 D ca A bo α σ [cr α 0 (some 0), .ref bo] (lOd bo cO f) [(cO, .double)] (lK j o.1) o.2 (lOd bo cO (lV (fun x => vf_upd f 0 (x)) f o.1)) := by
  refine va_MetW (hh := (lHh [5] 7 (fun j => ([10] : List Nat).getD j 0))) (cc := cLaw_meanPrice) (maxL := 3) (ret := some .int) (by decide) rfl ?_
  intro p e s m args below meth c s₁ B hml hv
  obtain ⟨rfl, ⟨hP, hK, hD0, hSh, hA, hG⟩, hO, hKO, hN⟩ := hv
  have hts := atoms_spec (ws := lWs yLaw_meanPrice cLaw_meanPrice 3 (lHh [5] 7 (fun j => ([10] : List Nat).getD j 0))) B.pre
  have C : cC p s m _ c cLaw_meanPrice 3 RV D ca A α := ⟨B.exec, B.bytes, hml, findClass_of_methodNamed B.named, fun w hw => hts w (List.mem_cons_of_mem _ hw), hK, hG⟩
  have hM : cM D ca true A s.heap σ α σ α s.heap [] := ⟨hP, hD0, hSh, va_S.rf, hA, cX.rf⟩
  have htab := vx_table (x := yLaw_meanPrice) B (hts _ List.mem_cons_self)
  have h17 := c_17 hM
  have hr := B.returns
  have hlk := B.notSynchronized
  have hx := C.1
  have hb := C.2.1
  have hl := lv_entry ([cr α 0 (some 0), .ref bo]) (n := 3) (Nat.le_of_ble_eq_true rfl)
  rw [lg_entry_eq]
  generalize (lg_sl ([cr α 0 (some 0), .ref bo]) ++ List.replicate (3 - (lg_sl ([cr α 0 (some 0), .ref bo])).length) Slot.unset).toArray = ls at hl ⊢
  have hl : lv_has ls 3 [(0, cr α 0 (some 0)), (1, .ref bo)] := hl
  refine lv_aload_n hx hb dLaw_meanPrice_0 rfl (lv_at hl 1 rfl) ?_
  refine lv_iconst (v := (0 : Int32)) hx hb dLaw_meanPrice_1 (by decide) ?_
  refine c_aload_n (t := 0) (x := (some 0)) hx hb dLaw_meanPrice_2 rfl (lv_at hl 0 rfl) ?_
  refine l_call (tv := fun v => .double v) (As := []) (rest := [.int 0, .ref bo]) C hM (cc_X11_meanPrice l hst D ca A α σ  o h) cwv_meanPrice ⟨rfl, rfl⟩ ⟨Nat.le_of_ble_eq_true rfl, Nat.le_of_ble_eq_true rfl⟩ rfl rfl (cats_le _ (Nat.le_of_ble_eq_true rfl)) hl.1 dLaw_meanPrice_3 ⟨Nat.le_of_ble_eq_true rfl, Nat.le_of_ble_eq_true rfl⟩ (fun k q ce H1 locs1 α1 ho hα hM1 h1 h2 h3 => ?_) (fun v H1 locs1 α1 ho hα hM1 => ?_)
  · have hjk := hj k ho
    have hOt := l_out hO (fun q hq => by rw [List.mem_singleton] at hq; rw [hq]; exact hbo) hM1
    refine l_catch (k := k) (j := j) C.2.2.2.1 C.2.2.2.2.1 hG.1.2.2.2 hN htab (by decide) (by decide) (by decide) hjk h1 h2 h3 ?_
    have hjl : j < 1 := (List.getElem?_eq_some_iff.mp hjk).1
    rcases (show j = 0 by omega) with rfl
    · refine W_pc (pc' := 10) rfl ?_
      refine lv_astore_n (lv' := [(2, .ref q), (0, cr α 0 (some 0)), (1, .ref bo)]) hx hb dLaw_meanPrice_10 rfl hl (by decide) rfl (fun ls hl => ?_)
      refine lv_iconst (v := nI 1) hx hb dLaw_meanPrice_11 (by decide) ?_
      exact l_end C hα hM1 hM1.1 hOt (hM1.2.2.2.1.wk (fun q h => Or.inl h)) hr hlk rfl (by rw [ho]; rfl) (by rw [ho]; rfl) dLaw_meanPrice_12
  · show W _ _ _ _ _ _ _ _ _ _ _ _ _ _ _ (F0 m 6 ls (.double v :: [.int 0, .ref bo]))
    refine l_storeD C hM1 h17 hO hKO hbo hb17 dLaw_meanPrice_6 (fun H2 locs2 hP2 hO2 hS2 => ?_)
    refine lv_goto (tgt := 13) hx hb dLaw_meanPrice_7 (by decide) ?_
    refine lv_iconst (v := nI 0) hx hb dLaw_meanPrice_13 (by decide) ?_
    exact l_end C hα hM1 hP2 hO2 hS2 hr hlk rfl (by rw [ho]; rfl) (by rw [ho]; rfl) dLaw_meanPrice_14
