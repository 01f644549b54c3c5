/-! The law's own methods: contracts. -/
theorem cwv_node : cCallV RV 87 (cRn 0) yX11_node cX11_node 1 ((some FieldType.int)) 0 := ⟨⟨wl_in (i := 1220) (by decide +kernel), wl_in (i := 1221) (by decide +kernel), wl_in (i := 1222) (by decide +kernel), wl_in (i := 1) (by decide +kernel), wl_in (i := 1223) (by decide +kernel)⟩, rfl, by decide, by decide, by decide +kernel⟩
abbrev rv_node : Room := ({ frames := 8, cells := 1, slots := 6, locals := 130 } : Room)
set_option maxHeartbeats 4000000 in
set_option maxRecDepth 100000 in
theorem cv_node (l : Launch) (hst : l.stackTraces = false) (D : va_G) (ca : Nat → ClassId) (A : Nat → Prop) (bo : Nat) (cO : ClassId) (α : cAl) (σ : cS) (f : Nat → Int64) (hbo : ¬ A bo) (hb17 : α 17 0 ≠ bo)  (o : (Nat ⊕ Int32) × cS) (h : fc_X11_node σ = some o) (j : Nat) (hj : ∀ k, o.1 = .inl k → ([2] : List Nat)[j]? = some k) : lMet false l yLaw_node cLaw_node 3 (lHh [2] 8 (fun j => ([11] : List Nat).getD j 0)) rv_node 1 6 D ca A bo α σ [cr α 0 (some 0), .ref bo] (lO bo cO f) [(cO, .long)] (lK j o.1) o.2 (lO bo cO (lV (fun x => vp_updL f 0 (x.toInt64)) f o.1)) := by
  refine va_MetW (hh := (lHh [2] 8 (fun j => ([11] : List Nat).getD j 0))) (cc := cLaw_node) (maxL := 3) (ret := some .int) (by decide) rfl ?_
  intro p e s m args below meth c s₁ B hml hv
  obtain ⟨rfl, ⟨hP, hK, hD0, hSh, hA, hG⟩, hO, hKO, hN⟩ := hv
  have hts := atoms_spec (ws := lWs yLaw_node cLaw_node 3 (lHh [2] 8 (fun j => ([11] : List Nat).getD j 0))) B.pre
  have C : cC p s m _ c cLaw_node 3 RV D ca A α := ⟨B.exec, B.bytes, hml, findClass_of_methodNamed B.named, fun w hw => hts w (List.mem_cons_of_mem _ hw), hK, hG⟩
  have hM : cM D ca true A s.heap σ α σ α s.heap [] := ⟨hP, hD0, hSh, va_S.rf, hA, cX.rf⟩
  have htab := vx_table (x := yLaw_node) B (hts _ List.mem_cons_self)
  have h17 := c_17 hM
  have hr := B.returns
  have hlk := B.notSynchronized
  have hx := C.1
  have hb := C.2.1
  have hl := lv_entry ([cr α 0 (some 0), .ref bo]) (n := 3) (Nat.le_of_ble_eq_true rfl)
  rw [lg_entry_eq]
  generalize (lg_sl ([cr α 0 (some 0), .ref bo]) ++ List.replicate (3 - (lg_sl ([cr α 0 (some 0), .ref bo])).length) Slot.unset).toArray = ls at hl ⊢
  have hl : lv_has ls 3 [(0, cr α 0 (some 0)), (1, .ref bo)] := hl
  refine lv_aload_n hx hb dLaw_node_0 rfl (lv_at hl 1 rfl) ?_
  refine lv_iconst (v := (0 : Int32)) hx hb dLaw_node_1 (by decide) ?_
  refine c_aload_n (t := 0) (x := (some 0)) hx hb dLaw_node_2 rfl (lv_at hl 0 rfl) ?_
  refine l_call (tv := fun v => .int v) (As := []) (rest := [.int 0, .ref bo]) C hM (cc_X11_node l hst D ca A α σ  o h) cwv_node ⟨rfl, rfl⟩ ⟨Nat.le_of_ble_eq_true rfl, Nat.le_of_ble_eq_true rfl⟩ rfl rfl (cats_le _ (Nat.le_of_ble_eq_true rfl)) hl.1 dLaw_node_3 ⟨Nat.le_of_ble_eq_true rfl, Nat.le_of_ble_eq_true rfl⟩ (fun k q ce H1 locs1 α1 ho hα hM1 h1 h2 h3 => ?_) (fun v H1 locs1 α1 ho hα hM1 => ?_)
  · have hjk := hj k ho
    have hOt := l_out hO (fun q hq => by rw [List.mem_singleton] at hq; rw [hq]; exact hbo) hM1
    refine l_catch (k := k) (j := j) C.2.2.2.1 C.2.2.2.2.1 hG.1.2.2.2 hN htab (by decide) (by decide) (by decide) hjk h1 h2 h3 ?_
    have hjl : j < 1 := (List.getElem?_eq_some_iff.mp hjk).1
    rcases (show j = 0 by omega) with rfl
    · refine W_pc (pc' := 11) rfl ?_
      refine lv_astore_n (lv' := [(2, .ref q), (0, cr α 0 (some 0)), (1, .ref bo)]) hx hb dLaw_node_11 rfl hl (by decide) rfl (fun ls hl => ?_)
      refine lv_iconst (v := nI 1) hx hb dLaw_node_12 (by decide) ?_
      exact l_end C hα hM1 hM1.1 hOt (hM1.2.2.2.1.wk (fun q h => Or.inl h)) hr hlk rfl (by rw [ho]; rfl) (by rw [ho]; rfl) dLaw_node_13
  · refine lv_i2l hx hb dLaw_node_6 rfl ?_
    refine l_storeJ C hM1 h17 hO hKO hbo hb17 dLaw_node_7 (fun H2 locs2 hP2 hO2 hS2 => ?_)
    refine lv_goto (tgt := 14) hx hb dLaw_node_8 (by decide) ?_
    refine lv_iconst (v := nI 0) hx hb dLaw_node_14 (by decide) ?_
    exact l_end C hα hM1 hP2 hO2 hS2 hr hlk rfl (by rw [ho]; rfl) (by rw [ho]; rfl) dLaw_node_15
theorem cwv_nodes : cCallV RV 90 (cRn 0) yX11_nodes cX11_nodes 1 ((some FieldType.int)) 0 := ⟨⟨wl_in (i := 1227) (by decide +kernel), wl_in (i := 1228) (by decide +kernel), wl_in (i := 1229) (by decide +kernel), wl_in (i := 1) (by decide +kernel), wl_in (i := 1230) (by decide +kernel)⟩, rfl, by decide, by decide, by decide +kernel⟩
abbrev rv_nodes : Room := ({ frames := 8, cells := 1, slots := 6, locals := 130 } : Room)
set_option maxHeartbeats 4000000 in
set_option maxRecDepth 100000 in
theorem cv_nodes (l : Launch) (hst : l.stackTraces = false) (D : va_G) (ca : Nat → ClassId) (A : Nat → Prop) (bo : Nat) (cO : ClassId) (α : cAl) (σ : cS) (f : Nat → Int64) (hbo : ¬ A bo) (hb17 : α 17 0 ≠ bo)  (o : (Nat ⊕ Int32) × cS) (h : fc_X11_nodes σ = some o) (j : Nat) (hj : ∀ k, o.1 = .inl k → ([2] : List Nat)[j]? = some k) : lMet false l yLaw_nodes cLaw_nodes 3 (lHh [2] 8 (fun j => ([11] : List Nat).getD j 0)) rv_nodes 1 6 D ca A bo α σ [cr α 0 (some 0), .ref bo] (lO bo cO f) [(cO, .long)] (lK j o.1) o.2 (lO bo cO (lV (fun x => vp_updL f 0 (x.toInt64)) f o.1)) := by
  refine va_MetW (hh := (lHh [2] 8 (fun j => ([11] : List Nat).getD j 0))) (cc := cLaw_nodes) (maxL := 3) (ret := some .int) (by decide) rfl ?_
  intro p e s m args below meth c s₁ B hml hv
  obtain ⟨rfl, ⟨hP, hK, hD0, hSh, hA, hG⟩, hO, hKO, hN⟩ := hv
  have hts := atoms_spec (ws := lWs yLaw_nodes cLaw_nodes 3 (lHh [2] 8 (fun j => ([11] : List Nat).getD j 0))) B.pre
  have C : cC p s m _ c cLaw_nodes 3 RV D ca A α := ⟨B.exec, B.bytes, hml, findClass_of_methodNamed B.named, fun w hw => hts w (List.mem_cons_of_mem _ hw), hK, hG⟩
  have hM : cM D ca true A s.heap σ α σ α s.heap [] := ⟨hP, hD0, hSh, va_S.rf, hA, cX.rf⟩
  have htab := vx_table (x := yLaw_nodes) B (hts _ List.mem_cons_self)
  have h17 := c_17 hM
  have hr := B.returns
  have hlk := B.notSynchronized
  have hx := C.1
  have hb := C.2.1
  have hl := lv_entry ([cr α 0 (some 0), .ref bo]) (n := 3) (Nat.le_of_ble_eq_true rfl)
  rw [lg_entry_eq]
  generalize (lg_sl ([cr α 0 (some 0), .ref bo]) ++ List.replicate (3 - (lg_sl ([cr α 0 (some 0), .ref bo])).length) Slot.unset).toArray = ls at hl ⊢
  have hl : lv_has ls 3 [(0, cr α 0 (some 0)), (1, .ref bo)] := hl
  refine lv_aload_n hx hb dLaw_nodes_0 rfl (lv_at hl 1 rfl) ?_
  refine lv_iconst (v := (0 : Int32)) hx hb dLaw_nodes_1 (by decide) ?_
  refine c_aload_n (t := 0) (x := (some 0)) hx hb dLaw_nodes_2 rfl (lv_at hl 0 rfl) ?_
  refine l_call (tv := fun v => .int v) (As := []) (rest := [.int 0, .ref bo]) C hM (cc_X11_nodes l hst D ca A α σ  o h) cwv_nodes ⟨rfl, rfl⟩ ⟨Nat.le_of_ble_eq_true rfl, Nat.le_of_ble_eq_true rfl⟩ rfl rfl (cats_le _ (Nat.le_of_ble_eq_true rfl)) hl.1 dLaw_nodes_3 ⟨Nat.le_of_ble_eq_true rfl, Nat.le_of_ble_eq_true rfl⟩ (fun k q ce H1 locs1 α1 ho hα hM1 h1 h2 h3 => ?_) (fun v H1 locs1 α1 ho hα hM1 => ?_)
  · have hjk := hj k ho
    have hOt := l_out hO (fun q hq => by rw [List.mem_singleton] at hq; rw [hq]; exact hbo) hM1
    refine l_catch (k := k) (j := j) C.2.2.2.1 C.2.2.2.2.1 hG.1.2.2.2 hN htab (by decide) (by decide) (by decide) hjk h1 h2 h3 ?_
    have hjl : j < 1 := (List.getElem?_eq_some_iff.mp hjk).1
    rcases (show j = 0 by omega) with rfl
    · refine W_pc (pc' := 11) rfl ?_
      refine lv_astore_n (lv' := [(2, .ref q), (0, cr α 0 (some 0)), (1, .ref bo)]) hx hb dLaw_nodes_11 rfl hl (by decide) rfl (fun ls hl => ?_)
      refine lv_iconst (v := nI 1) hx hb dLaw_nodes_12 (by decide) ?_
      exact l_end C hα hM1 hM1.1 hOt (hM1.2.2.2.1.wk (fun q h => Or.inl h)) hr hlk rfl (by rw [ho]; rfl) (by rw [ho]; rfl) dLaw_nodes_13
  · refine lv_i2l hx hb dLaw_nodes_6 rfl ?_
    refine l_storeJ C hM1 h17 hO hKO hbo hb17 dLaw_nodes_7 (fun H2 locs2 hP2 hO2 hS2 => ?_)
    refine lv_goto (tgt := 14) hx hb dLaw_nodes_8 (by decide) ?_
    refine lv_iconst (v := nI 0) hx hb dLaw_nodes_14 (by decide) ?_
    exact l_end C hα hM1 hP2 hO2 hS2 hr hlk rfl (by rw [ho]; rfl) (by rw [ho]; rfl) dLaw_nodes_15
theorem cwv_parent : cCallV RV 93 (cRn 0) yX11_parent cX11_parent 3 ((some FieldType.int)) 1 := ⟨⟨wl_in (i := 1235) (by decide +kernel), wl_in (i := 1236) (by decide +kernel), wl_in (i := 1237) (by decide +kernel), wl_in (i := 1) (by decide +kernel), wl_in (i := 1238) (by decide +kernel)⟩, rfl, by decide, by decide, by decide +kernel⟩
abbrev rv_parent : Room := ({ frames := 8, cells := 2, slots := 12, locals := 145 } : Room)
set_option maxHeartbeats 4000000 in
set_option maxRecDepth 100000 in
theorem cv_parent (l : Launch) (hst : l.stackTraces = false) (D : va_G) (ca : Nat → ClassId) (A : Nat → Prop) (bo : Nat) (cO : ClassId) (α : cAl) (σ : cS) (f : Nat → Int64) (hbo : ¬ A bo) (hb17 : α 17 0 ≠ bo) (x1 : Int32) (o : (Nat ⊕ Int32) × cS) (h : fc_X11_parent σ x1 = some o) (j : Nat) (hj : ∀ k, o.1 = .inl k → ([4, 5] : List Nat)[j]? = some k) : lMet false l yLaw_parent cLaw_parent 4 (lHh [4, 5] 9 (fun j => ([12, 15] : List Nat).getD j 0)) rv_parent 2 12 D ca A bo α σ [cr α 0 (some 0), .int x1, .ref bo] (lO bo cO f) [(cO, .long)] (lK j o.1) o.2 (lO bo cO (lV (fun x => vp_updL f 0 (x.toInt64)) f o.1)) := by
  refine va_MetW (hh := (lHh [4, 5] 9 (fun j => ([12, 15] : List Nat).getD j 0))) (cc := cLaw_parent) (maxL := 4) (ret := some .int) (by decide) rfl ?_
  intro p e s m args below meth c s₁ B hml hv
  obtain ⟨rfl, ⟨hP, hK, hD0, hSh, hA, hG⟩, hO, hKO, hN⟩ := hv
  have hts := atoms_spec (ws := lWs yLaw_parent cLaw_parent 4 (lHh [4, 5] 9 (fun j => ([12, 15] : List Nat).getD j 0))) B.pre
  have C : cC p s m _ c cLaw_parent 4 RV D ca A α := ⟨B.exec, B.bytes, hml, findClass_of_methodNamed B.named, fun w hw => hts w (List.mem_cons_of_mem _ hw), hK, hG⟩
  have hM : cM D ca true A s.heap σ α σ α s.heap [] := ⟨hP, hD0, hSh, va_S.rf, hA, cX.rf⟩
  have htab := vx_table (x := yLaw_parent) B (hts _ List.mem_cons_self)
  have h17 := c_17 hM
  have hr := B.returns
  have hlk := B.notSynchronized
  have hx := C.1
  have hb := C.2.1
  have hl := lv_entry ([cr α 0 (some 0), .int x1, .ref bo]) (n := 4) (Nat.le_of_ble_eq_true rfl)
  rw [lg_entry_eq]
  generalize (lg_sl ([cr α 0 (some 0), .int x1, .ref bo]) ++ List.replicate (4 - (lg_sl ([cr α 0 (some 0), .int x1, .ref bo])).length) Slot.unset).toArray = ls at hl ⊢
  have hl : lv_has ls 4 [(0, cr α 0 (some 0)), (1, .int x1), (2, .ref bo)] := hl
  refine lv_aload_n hx hb dLaw_parent_0 rfl (lv_at hl 2 rfl) ?_
  refine lv_iconst (v := (0 : Int32)) hx hb dLaw_parent_1 (by decide) ?_
  refine c_aload_n (t := 0) (x := (some 0)) hx hb dLaw_parent_2 rfl (lv_at hl 0 rfl) ?_
  refine lv_iload_n hx hb dLaw_parent_3 rfl (lv_at hl 1 rfl) ?_
  refine l_call (tv := fun v => .int v) (As := [.int x1]) (rest := [.int 0, .ref bo]) C hM (cc_X11_parent l hst D ca A α σ x1 o h) cwv_parent ⟨rfl, rfl⟩ ⟨Nat.le_of_ble_eq_true rfl, Nat.le_of_ble_eq_true rfl⟩ rfl rfl (cats_le _ (Nat.le_of_ble_eq_true rfl)) hl.1 dLaw_parent_4 ⟨Nat.le_of_ble_eq_true rfl, Nat.le_of_ble_eq_true rfl⟩ (fun k q ce H1 locs1 α1 ho hα hM1 h1 h2 h3 => ?_) (fun v H1 locs1 α1 ho hα hM1 => ?_)
  · have hjk := hj k ho
    have hOt := l_out hO (fun q hq => by rw [List.mem_singleton] at hq; rw [hq]; exact hbo) hM1
    refine l_catch (k := k) (j := j) C.2.2.2.1 C.2.2.2.2.1 hG.1.2.2.2 hN htab (by decide) (by decide) (by decide) hjk h1 h2 h3 ?_
    have hjl : j < 2 := (List.getElem?_eq_some_iff.mp hjk).1
    rcases (show j = 0 ∨ j = 1 by omega) with rfl | rfl
    · refine W_pc (pc' := 12) rfl ?_
      refine lv_astore_n (lv' := [(3, .ref q), (0, cr α 0 (some 0)), (1, .int x1), (2, .ref bo)]) hx hb dLaw_parent_12 rfl hl (by decide) rfl (fun ls hl => ?_)
      refine lv_iconst (v := nI 1) hx hb dLaw_parent_13 (by decide) ?_
      exact l_end C hα hM1 hM1.1 hOt (hM1.2.2.2.1.wk (fun q h => Or.inl h)) hr hlk rfl (by rw [ho]; rfl) (by rw [ho]; rfl) dLaw_parent_14
    · refine W_pc (pc' := 15) rfl ?_
      refine lv_astore_n (lv' := [(3, .ref q), (0, cr α 0 (some 0)), (1, .int x1), (2, .ref bo)]) hx hb dLaw_parent_15 rfl hl (by decide) rfl (fun ls hl => ?_)
      refine lv_iconst (v := nI 2) hx hb dLaw_parent_16 (by decide) ?_
      exact l_end C hα hM1 hM1.1 hOt (hM1.2.2.2.1.wk (fun q h => Or.inl h)) hr hlk rfl (by rw [ho]; rfl) (by rw [ho]; rfl) dLaw_parent_17
  · refine lv_i2l hx hb dLaw_parent_7 rfl ?_
    refine l_storeJ C hM1 h17 hO hKO hbo hb17 dLaw_parent_8 (fun H2 locs2 hP2 hO2 hS2 => ?_)
    refine lv_goto (tgt := 18) hx hb dLaw_parent_9 (by decide) ?_
    refine lv_iconst (v := nI 0) hx hb dLaw_parent_18 (by decide) ?_
    exact l_end C hα hM1 hP2 hO2 hS2 hr hlk rfl (by rw [ho]; rfl) (by rw [ho]; rfl) dLaw_parent_19
theorem cwv_depth : cCallV RV 98 (cRn 0) yX11_depth cX11_depth 2 ((some FieldType.int)) 1 := ⟨⟨wl_in (i := 1263) (by decide +kernel), wl_in (i := 1264) (by decide +kernel), wl_in (i := 1265) (by decide +kernel), wl_in (i := 1) (by decide +kernel), wl_in (i := 1266) (by decide +kernel)⟩, rfl, by decide, by decide, by decide +kernel⟩
abbrev rv_depth : Room := ({ frames := 8, cells := 1, slots := 6, locals := 144 } : Room)
set_option maxHeartbeats 4000000 in
set_option maxRecDepth 100000 in
theorem cv_depth (l : Launch) (hst : l.stackTraces = false) (D : va_G) (ca : Nat → ClassId) (A : Nat → Prop) (bo : Nat) (cO : ClassId) (α : cAl) (σ : cS) (f : Nat → Int64) (hbo : ¬ A bo) (hb17 : α 17 0 ≠ bo) (x1 : Int32) (o : (Nat ⊕ Int32) × cS) (h : fc_X11_depth σ x1 = some o) (j : Nat) (hj : ∀ k, o.1 = .inl k → ([4] : List Nat)[j]? = some k) : lMet false l yLaw_depth cLaw_depth 4 (lHh [4] 9 (fun j => ([12] : List Nat).getD j 0)) rv_depth 1 6 D ca A bo α σ [cr α 0 (some 0), .int x1, .ref bo] (lO bo cO f) [(cO, .long)] (lK j o.1) o.2 (lO bo cO (lV (fun x => vp_updL f 0 (x.toInt64)) f o.1)) := by
  refine va_MetW (hh := (lHh [4] 9 (fun j => ([12] : List Nat).getD j 0))) (cc := cLaw_depth) (maxL := 4) (ret := some .int) (by decide) rfl ?_
  intro p e s m args below meth c s₁ B hml hv
  obtain ⟨rfl, ⟨hP, hK, hD0, hSh, hA, hG⟩, hO, hKO, hN⟩ := hv
  have hts := atoms_spec (ws := lWs yLaw_depth cLaw_depth 4 (lHh [4] 9 (fun j => ([12] : List Nat).getD j 0))) B.pre
  have C : cC p s m _ c cLaw_depth 4 RV D ca A α := ⟨B.exec, B.bytes, hml, findClass_of_methodNamed B.named, fun w hw => hts w (List.mem_cons_of_mem _ hw), hK, hG⟩
  have hM : cM D ca true A s.heap σ α σ α s.heap [] := ⟨hP, hD0, hSh, va_S.rf, hA, cX.rf⟩
  have htab := vx_table (x := yLaw_depth) B (hts _ List.mem_cons_self)
  have h17 := c_17 hM
  have hr := B.returns
  have hlk := B.notSynchronized
  have hx := C.1
  have hb := C.2.1
  have hl := lv_entry ([cr α 0 (some 0), .int x1, .ref bo]) (n := 4) (Nat.le_of_ble_eq_true rfl)
  rw [lg_entry_eq]
  generalize (lg_sl ([cr α 0 (some 0), .int x1, .ref bo]) ++ List.replicate (4 - (lg_sl ([cr α 0 (some 0), .int x1, .ref bo])).length) Slot.unset).toArray = ls at hl ⊢
  have hl : lv_has ls 4 [(0, cr α 0 (some 0)), (1, .int x1), (2, .ref bo)] := hl
  refine lv_aload_n hx hb dLaw_depth_0 rfl (lv_at hl 2 rfl) ?_
  refine lv_iconst (v := (0 : Int32)) hx hb dLaw_depth_1 (by decide) ?_
  refine c_aload_n (t := 0) (x := (some 0)) hx hb dLaw_depth_2 rfl (lv_at hl 0 rfl) ?_
  refine lv_iload_n hx hb dLaw_depth_3 rfl (lv_at hl 1 rfl) ?_
  refine l_call (tv := fun v => .int v) (As := [.int x1]) (rest := [.int 0, .ref bo]) C hM (cc_X11_depth l hst D ca A α σ x1 o h) cwv_depth ⟨rfl, rfl⟩ ⟨Nat.le_of_ble_eq_true rfl, Nat.le_of_ble_eq_true rfl⟩ rfl rfl (cats_le _ (Nat.le_of_ble_eq_true rfl)) hl.1 dLaw_depth_4 ⟨Nat.le_of_ble_eq_true rfl, Nat.le_of_ble_eq_true rfl⟩ (fun k q ce H1 locs1 α1 ho hα hM1 h1 h2 h3 => ?_) (fun v H1 locs1 α1 ho hα hM1 => ?_)
  · have hjk := hj k ho
    have hOt := l_out hO (fun q hq => by rw [List.mem_singleton] at hq; rw [hq]; exact hbo) hM1
    refine l_catch (k := k) (j := j) C.2.2.2.1 C.2.2.2.2.1 hG.1.2.2.2 hN htab (by decide) (by decide) (by decide) hjk h1 h2 h3 ?_
    have hjl : j < 1 := (List.getElem?_eq_some_iff.mp hjk).1
    rcases (show j = 0 by omega) with rfl
    · refine W_pc (pc' := 12) rfl ?_
      refine lv_astore_n (lv' := [(3, .ref q), (0, cr α 0 (some 0)), (1, .int x1), (2, .ref bo)]) hx hb dLaw_depth_12 rfl hl (by decide) rfl (fun ls hl => ?_)
      refine lv_iconst (v := nI 1) hx hb dLaw_depth_13 (by decide) ?_
      exact l_end C hα hM1 hM1.1 hOt (hM1.2.2.2.1.wk (fun q h => Or.inl h)) hr hlk rfl (by rw [ho]; rfl) (by rw [ho]; rfl) dLaw_depth_14
  · refine lv_i2l hx hb dLaw_depth_7 rfl ?_
    refine l_storeJ C hM1 h17 hO hKO hbo hb17 dLaw_depth_8 (fun H2 locs2 hP2 hO2 hS2 => ?_)
    refine lv_goto (tgt := 15) hx hb dLaw_depth_9 (by decide) ?_
    refine lv_iconst (v := nI 0) hx hb dLaw_depth_15 (by decide) ?_
    exact l_end C hα hM1 hP2 hO2 hS2 hr hlk rfl (by rw [ho]; rfl) (by rw [ho]; rfl) dLaw_depth_16
theorem cwv_children : cCallV RV 101 (cRn 0) yX11_children cX11_children 2 ((some FieldType.int)) 1 := ⟨⟨wl_in (i := 1274) (by decide +kernel), wl_in (i := 1275) (by decide +kernel), wl_in (i := 1276) (by decide +kernel), wl_in (i := 1) (by decide +kernel), wl_in (i := 1277) (by decide +kernel)⟩, rfl, by decide, by decide, by decide +kernel⟩
abbrev rv_children : Room := ({ frames := 8, cells := 1, slots := 6, locals := 147 } : Room)
set_option maxHeartbeats 4000000 in
set_option maxRecDepth 100000 in
theorem cv_children (l : Launch) (hst : l.stackTraces = false) (D : va_G) (ca : Nat → ClassId) (A : Nat → Prop) (bo : Nat) (cO : ClassId) (α : cAl) (σ : cS) (f : Nat → Int64) (hbo : ¬ A bo) (hb17 : α 17 0 ≠ bo) (x1 : Int32) (o : (Nat ⊕ Int32) × cS) (h : fc_X11_children σ x1 = some o) (j : Nat) (hj : ∀ k, o.1 = .inl k → ([4] : List Nat)[j]? = some k) : lMet false l yLaw_children cLaw_children 4 (lHh [4] 9 (fun j => ([12] : List Nat).getD j 0)) rv_children 1 6 D ca A bo α σ [cr α 0 (some 0), .int x1, .ref bo] (lO bo cO f) [(cO, .long)] (lK j o.1) o.2 (lO bo cO (lV (fun x => vp_updL f 0 (x.toInt64)) f o.1)) := by
  refine va_MetW (hh := (lHh [4] 9 (fun j => ([12] : List Nat).getD j 0))) (cc := cLaw_children) (maxL := 4) (ret := some .int) (by decide) rfl ?_
  intro p e s m args below meth c s₁ B hml hv
  obtain ⟨rfl, ⟨hP, hK, hD0, hSh, hA, hG⟩, hO, hKO, hN⟩ := hv
  have hts := atoms_spec (ws := lWs yLaw_children cLaw_children 4 (lHh [4] 9 (fun j => ([12] : List Nat).getD j 0))) B.pre
  have C : cC p s m _ c cLaw_children 4 RV D ca A α := ⟨B.exec, B.bytes, hml, findClass_of_methodNamed B.named, fun w hw => hts w (List.mem_cons_of_mem _ hw), hK, hG⟩
  have hM : cM D ca true A s.heap σ α σ α s.heap [] := ⟨hP, hD0, hSh, va_S.rf, hA, cX.rf⟩
  have htab := vx_table (x := yLaw_children) B (hts _ List.mem_cons_self)
  have h17 := c_17 hM
  have hr := B.returns
  have hlk := B.notSynchronized
  have hx := C.1
  have hb := C.2.1
  have hl := lv_entry ([cr α 0 (some 0), .int x1, .ref bo]) (n := 4) (Nat.le_of_ble_eq_true rfl)
  rw [lg_entry_eq]
  generalize (lg_sl ([cr α 0 (some 0), .int x1, .ref bo]) ++ List.replicate (4 - (lg_sl ([cr α 0 (some 0), .int x1, .ref bo])).length) Slot.unset).toArray = ls at hl ⊢
  have hl : lv_has ls 4 [(0, cr α 0 (some 0)), (1, .int x1), (2, .ref bo)] := hl
  refine lv_aload_n hx hb dLaw_children_0 rfl (lv_at hl 2 rfl) ?_
  refine lv_iconst (v := (0 : Int32)) hx hb dLaw_children_1 (by decide) ?_
  refine c_aload_n (t := 0) (x := (some 0)) hx hb dLaw_children_2 rfl (lv_at hl 0 rfl) ?_
  refine lv_iload_n hx hb dLaw_children_3 rfl (lv_at hl 1 rfl) ?_
  refine l_call (tv := fun v => .int v) (As := [.int x1]) (rest := [.int 0, .ref bo]) C hM (cc_X11_children l hst D ca A α σ x1 o h) cwv_children ⟨rfl, rfl⟩ ⟨Nat.le_of_ble_eq_true rfl, Nat.le_of_ble_eq_true rfl⟩ rfl rfl (cats_le _ (Nat.le_of_ble_eq_true rfl)) hl.1 dLaw_children_4 ⟨Nat.le_of_ble_eq_true rfl, Nat.le_of_ble_eq_true rfl⟩ (fun k q ce H1 locs1 α1 ho hα hM1 h1 h2 h3 => ?_) (fun v H1 locs1 α1 ho hα hM1 => ?_)
  · have hjk := hj k ho
    have hOt := l_out hO (fun q hq => by rw [List.mem_singleton] at hq; rw [hq]; exact hbo) hM1
    refine l_catch (k := k) (j := j) C.2.2.2.1 C.2.2.2.2.1 hG.1.2.2.2 hN htab (by decide) (by decide) (by decide) hjk h1 h2 h3 ?_
    have hjl : j < 1 := (List.getElem?_eq_some_iff.mp hjk).1
    rcases (show j = 0 by omega) with rfl
    · refine W_pc (pc' := 12) rfl ?_
      refine lv_astore_n (lv' := [(3, .ref q), (0, cr α 0 (some 0)), (1, .int x1), (2, .ref bo)]) hx hb dLaw_children_12 rfl hl (by decide) rfl (fun ls hl => ?_)
      refine lv_iconst (v := nI 1) hx hb dLaw_children_13 (by decide) ?_
      exact l_end C hα hM1 hM1.1 hOt (hM1.2.2.2.1.wk (fun q h => Or.inl h)) hr hlk rfl (by rw [ho]; rfl) (by rw [ho]; rfl) dLaw_children_14
  · refine lv_i2l hx hb dLaw_children_7 rfl ?_
    refine l_storeJ C hM1 h17 hO hKO hbo hb17 dLaw_children_8 (fun H2 locs2 hP2 hO2 hS2 => ?_)
    refine lv_goto (tgt := 15) hx hb dLaw_children_9 (by decide) ?_
    refine lv_iconst (v := nI 0) hx hb dLaw_children_15 (by decide) ?_
    exact l_end C hα hM1 hP2 hO2 hS2 hr hlk rfl (by rw [ho]; rfl) (by rw [ho]; rfl) dLaw_children_16
theorem cwv_common : cCallV RV 104 (cRn 0) yX11_common cX11_common 4 ((some FieldType.int)) 2 := ⟨⟨wl_in (i := 1285) (by decide +kernel), wl_in (i := 1286) (by decide +kernel), wl_in (i := 1287) (by decide +kernel), wl_in (i := 1) (by decide +kernel), wl_in (i := 1288) (by decide +kernel)⟩, rfl, by decide, by decide, by decide +kernel⟩
abbrev rv_common : Room := ({ frames := 8, cells := 2, slots := 12, locals := 146 } : Room)
set_option maxHeartbeats 4000000 in
set_option maxRecDepth 100000 in
theorem cv_common (l : Launch) (hst : l.stackTraces = false) (D : va_G) (ca : Nat → ClassId) (A : Nat → Prop) (bo : Nat) (cO : ClassId) (α : cAl) (σ : cS) (f : Nat → Int64) (hbo : ¬ A bo) (hb17 : α 17 0 ≠ bo) (x1 : Int32) (x2 : Int32) (o : (Nat ⊕ Int32) × cS) (h : fc_X11_common σ x1 x2 = some o) (j : Nat) (hj : ∀ k, o.1 = .inl k → ([4] : List Nat)[j]? = some k) : lMet false l yLaw_common cLaw_common 5 (lHh [4] 10 (fun j => ([13] : List Nat).getD j 0)) rv_common 2 12 D ca A bo α σ [cr α 0 (some 0), .int x1, .int x2, .ref bo] (lO bo cO f) [(cO, .long)] (lK j o.1) o.2 (lO bo cO (lV (fun x => vp_updL f 0 (x.toInt64)) f o.1)) := by
  refine va_MetW (hh := (lHh [4] 10 (fun j => ([13] : List Nat).getD j 0))) (cc := cLaw_common) (maxL := 5) (ret := some .int) (by decide) rfl ?_
  intro p e s m args below meth c s₁ B hml hv
  obtain ⟨rfl, ⟨hP, hK, hD0, hSh, hA, hG⟩, hO, hKO, hN⟩ := hv
  have hts := atoms_spec (ws := lWs yLaw_common cLaw_common 5 (lHh [4] 10 (fun j => ([13] : List Nat).getD j 0))) B.pre
  have C : cC p s m _ c cLaw_common 5 RV D ca A α := ⟨B.exec, B.bytes, hml, findClass_of_methodNamed B.named, fun w hw => hts w (List.mem_cons_of_mem _ hw), hK, hG⟩
  have hM : cM D ca true A s.heap σ α σ α s.heap [] := ⟨hP, hD0, hSh, va_S.rf, hA, cX.rf⟩
  have htab := vx_table (x := yLaw_common) B (hts _ List.mem_cons_self)
  have h17 := c_17 hM
  have hr := B.returns
  have hlk := B.notSynchronized
  have hx := C.1
  have hb := C.2.1
  have hl := lv_entry ([cr α 0 (some 0), .int x1, .int x2, .ref bo]) (n := 5) (Nat.le_of_ble_eq_true rfl)
  rw [lg_entry_eq]
  generalize (lg_sl ([cr α 0 (some 0), .int x1, .int x2, .ref bo]) ++ List.replicate (5 - (lg_sl ([cr α 0 (some 0), .int x1, .int x2, .ref bo])).length) Slot.unset).toArray = ls at hl ⊢
  have hl : lv_has ls 5 [(0, cr α 0 (some 0)), (1, .int x1), (2, .int x2), (3, .ref bo)] := hl
  refine lv_aload_n hx hb dLaw_common_0 rfl (lv_at hl 3 rfl) ?_
  refine lv_iconst (v := (0 : Int32)) hx hb dLaw_common_1 (by decide) ?_
  refine c_aload_n (t := 0) (x := (some 0)) hx hb dLaw_common_2 rfl (lv_at hl 0 rfl) ?_
  refine lv_iload_n hx hb dLaw_common_3 rfl (lv_at hl 1 rfl) ?_
  refine lv_iload_n hx hb dLaw_common_4 rfl (lv_at hl 2 rfl) ?_
  refine l_call (tv := fun v => .int v) (As := [.int x1, .int x2]) (rest := [.int 0, .ref bo]) C hM (cc_X11_common l hst D ca A α σ x1 x2 o h) cwv_common ⟨rfl, rfl⟩ ⟨Nat.le_of_ble_eq_true rfl, Nat.le_of_ble_eq_true rfl⟩ rfl rfl (cats_le _ (Nat.le_of_ble_eq_true rfl)) hl.1 dLaw_common_5 ⟨Nat.le_of_ble_eq_true rfl, Nat.le_of_ble_eq_true rfl⟩ (fun k q ce H1 locs1 α1 ho hα hM1 h1 h2 h3 => ?_) (fun v H1 locs1 α1 ho hα hM1 => ?_)
  · have hjk := hj k ho
    have hOt := l_out hO (fun q hq => by rw [List.mem_singleton] at hq; rw [hq]; exact hbo) hM1
    refine l_catch (k := k) (j := j) C.2.2.2.1 C.2.2.2.2.1 hG.1.2.2.2 hN htab (by decide) (by decide) (by decide) hjk h1 h2 h3 ?_
    have hjl : j < 1 := (List.getElem?_eq_some_iff.mp hjk).1
    rcases (show j = 0 by omega) with rfl
    · refine W_pc (pc' := 13) rfl ?_
      refine lv_astore (lv' := [(4, .ref q), (0, cr α 0 (some 0)), (1, .int x1), (2, .int x2), (3, .ref bo)]) hx hb dLaw_common_13 hl (by decide) rfl (fun ls hl => ?_)
      refine lv_iconst (v := nI 1) hx hb dLaw_common_15 (by decide) ?_
      exact l_end C hα hM1 hM1.1 hOt (hM1.2.2.2.1.wk (fun q h => Or.inl h)) hr hlk rfl (by rw [ho]; rfl) (by rw [ho]; rfl) dLaw_common_16
  · refine lv_i2l hx hb dLaw_common_8 rfl ?_
    refine l_storeJ C hM1 h17 hO hKO hbo hb17 dLaw_common_9 (fun H2 locs2 hP2 hO2 hS2 => ?_)
    refine lv_goto (tgt := 17) hx hb dLaw_common_10 (by decide) ?_
    refine lv_iconst (v := nI 0) hx hb dLaw_common_17 (by decide) ?_
    exact l_end C hα hM1 hP2 hO2 hS2 hr hlk rfl (by rw [ho]; rfl) (by rw [ho]; rfl) dLaw_common_18
theorem cwv_undo : cCallV RV 107 (cRn 0) yX11_undo cX11_undo 2 ((some FieldType.int)) 0 := ⟨⟨wl_in (i := 1297) (by decide +kernel), wl_in (i := 1298) (by decide +kernel), wl_in (i := 1299) (by decide +kernel), wl_in (i := 1) (by decide +kernel), wl_in (i := 1300) (by decide +kernel)⟩, rfl, by decide, by decide, by decide +kernel⟩
abbrev rv_undo : Room := ({ frames := 8, cells := 2, slots := 12, locals := 143 } : Room)
set_option maxHeartbeats 4000000 in
set_option maxRecDepth 100000 in
theorem cv_undo (l : Launch) (hst : l.stackTraces = false) (D : va_G) (ca : Nat → ClassId) (A : Nat → Prop) (bo : Nat) (cO : ClassId) (α : cAl) (σ : cS) (f : Nat → Int64) (hbo : ¬ A bo) (hb17 : α 17 0 ≠ bo)  (o : (Nat ⊕ Int32) × cS) (h : fc_X11_undo σ = some o) (j : Nat) (hj : ∀ k, o.1 = .inl k → ([2, 5] : List Nat)[j]? = some k) : lMet false l yLaw_undo cLaw_undo 3 (lHh [2, 5] 8 (fun j => ([11, 14] : List Nat).getD j 0)) rv_undo 2 12 D ca A bo α σ [cr α 0 (some 0), .ref bo] (lO bo cO f) [(cO, .long)] (lK j o.1) o.2 (lO bo cO (lV (fun x => vp_updL f 0 (x.toInt64)) f o.1)) := by
  refine va_MetW (hh := (lHh [2, 5] 8 (fun j => ([11, 14] : List Nat).getD j 0))) (cc := cLaw_undo) (maxL := 3) (ret := some .int) (by decide) rfl ?_
  intro p e s m args below meth c s₁ B hml hv
  obtain ⟨rfl, ⟨hP, hK, hD0, hSh, hA, hG⟩, hO, hKO, hN⟩ := hv
  have hts := atoms_spec (ws := lWs yLaw_undo cLaw_undo 3 (lHh [2, 5] 8 (fun j => ([11, 14] : List Nat).getD j 0))) B.pre
  have C : cC p s m _ c cLaw_undo 3 RV D ca A α := ⟨B.exec, B.bytes, hml, findClass_of_methodNamed B.named, fun w hw => hts w (List.mem_cons_of_mem _ hw), hK, hG⟩
  have hM : cM D ca true A s.heap σ α σ α s.heap [] := ⟨hP, hD0, hSh, va_S.rf, hA, cX.rf⟩
  have htab := vx_table (x := yLaw_undo) B (hts _ List.mem_cons_self)
  have h17 := c_17 hM
  have hr := B.returns
  have hlk := B.notSynchronized
  have hx := C.1
  have hb := C.2.1
  have hl := lv_entry ([cr α 0 (some 0), .ref bo]) (n := 3) (Nat.le_of_ble_eq_true rfl)
  rw [lg_entry_eq]
  generalize (lg_sl ([cr α 0 (some 0), .ref bo]) ++ List.replicate (3 - (lg_sl ([cr α 0 (some 0), .ref bo])).length) Slot.unset).toArray = ls at hl ⊢
  have hl : lv_has ls 3 [(0, cr α 0 (some 0)), (1, .ref bo)] := hl
  refine lv_aload_n hx hb dLaw_undo_0 rfl (lv_at hl 1 rfl) ?_
  refine lv_iconst (v := (0 : Int32)) hx hb dLaw_undo_1 (by decide) ?_
  refine c_aload_n (t := 0) (x := (some 0)) hx hb dLaw_undo_2 rfl (lv_at hl 0 rfl) ?_
  refine l_call (tv := fun v => .int v) (As := []) (rest := [.int 0, .ref bo]) C hM (cc_X11_undo l hst D ca A α σ  o h) cwv_undo ⟨rfl, rfl⟩ ⟨Nat.le_of_ble_eq_true rfl, Nat.le_of_ble_eq_true rfl⟩ rfl rfl (cats_le _ (Nat.le_of_ble_eq_true rfl)) hl.1 dLaw_undo_3 ⟨Nat.le_of_ble_eq_true rfl, Nat.le_of_ble_eq_true rfl⟩ (fun k q ce H1 locs1 α1 ho hα hM1 h1 h2 h3 => ?_) (fun v H1 locs1 α1 ho hα hM1 => ?_)
  · have hjk := hj k ho
    have hOt := l_out hO (fun q hq => by rw [List.mem_singleton] at hq; rw [hq]; exact hbo) hM1
    refine l_catch (k := k) (j := j) C.2.2.2.1 C.2.2.2.2.1 hG.1.2.2.2 hN htab (by decide) (by decide) (by decide) hjk h1 h2 h3 ?_
    have hjl : j < 2 := (List.getElem?_eq_some_iff.mp hjk).1
    rcases (show j = 0 ∨ j = 1 by omega) with rfl | rfl
    · refine W_pc (pc' := 11) rfl ?_
      refine lv_astore_n (lv' := [(2, .ref q), (0, cr α 0 (some 0)), (1, .ref bo)]) hx hb dLaw_undo_11 rfl hl (by decide) rfl (fun ls hl => ?_)
      refine lv_iconst (v := nI 1) hx hb dLaw_undo_12 (by decide) ?_
      exact l_end C hα hM1 hM1.1 hOt (hM1.2.2.2.1.wk (fun q h => Or.inl h)) hr hlk rfl (by rw [ho]; rfl) (by rw [ho]; rfl) dLaw_undo_13
    · refine W_pc (pc' := 14) rfl ?_
      refine lv_astore_n (lv' := [(2, .ref q), (0, cr α 0 (some 0)), (1, .ref bo)]) hx hb dLaw_undo_14 rfl hl (by decide) rfl (fun ls hl => ?_)
      refine lv_iconst (v := nI 2) hx hb dLaw_undo_15 (by decide) ?_
      exact l_end C hα hM1 hM1.1 hOt (hM1.2.2.2.1.wk (fun q h => Or.inl h)) hr hlk rfl (by rw [ho]; rfl) (by rw [ho]; rfl) dLaw_undo_16
  · refine lv_i2l hx hb dLaw_undo_6 rfl ?_
    refine l_storeJ C hM1 h17 hO hKO hbo hb17 dLaw_undo_7 (fun H2 locs2 hP2 hO2 hS2 => ?_)
    refine lv_goto (tgt := 17) hx hb dLaw_undo_8 (by decide) ?_
    refine lv_iconst (v := nI 0) hx hb dLaw_undo_17 (by decide) ?_
    exact l_end C hα hM1 hP2 hO2 hS2 hr hlk rfl (by rw [ho]; rfl) (by rw [ho]; rfl) dLaw_undo_18
theorem cwv_redo : cCallV RV 110 (cRn 0) yX11_redo cX11_redo 3 ((some FieldType.int)) 1 := ⟨⟨wl_in (i := 1305) (by decide +kernel), wl_in (i := 1306) (by decide +kernel), wl_in (i := 1307) (by decide +kernel), wl_in (i := 1) (by decide +kernel), wl_in (i := 1308) (by decide +kernel)⟩, rfl, by decide, by decide, by decide +kernel⟩
abbrev rv_redo : Room := ({ frames := 8, cells := 2, slots := 12, locals := 168 } : Room)
set_option maxHeartbeats 4000000 in
set_option maxRecDepth 100000 in
theorem cv_redo (l : Launch) (hst : l.stackTraces = false) (D : va_G) (ca : Nat → ClassId) (A : Nat → Prop) (bo : Nat) (cO : ClassId) (α : cAl) (σ : cS) (f : Nat → Int64) (hbo : ¬ A bo) (hb17 : α 17 0 ≠ bo) (x1 : Int32) (o : (Nat ⊕ Int32) × cS) (h : fc_X11_redo σ x1 = some o) (j : Nat) (hj : ∀ k, o.1 = .inl k → ([2, 5] : List Nat)[j]? = some k) : lMet false l yLaw_redo cLaw_redo 4 (lHh [2, 5] 9 (fun j => ([12, 15] : List Nat).getD j 0)) rv_redo 2 12 D ca A bo α σ [cr α 0 (some 0), .int x1, .ref bo] (lO bo cO f) [(cO, .long)] (lK j o.1) o.2 (lO bo cO (lV (fun x => vp_updL f 0 (x.toInt64)) f o.1)) := by
  refine va_MetW (hh := (lHh [2, 5] 9 (fun j => ([12, 15] : List Nat).getD j 0))) (cc := cLaw_redo) (maxL := 4) (ret := some .int) (by decide) rfl ?_
  intro p e s m args below meth c s₁ B hml hv
  obtain ⟨rfl, ⟨hP, hK, hD0, hSh, hA, hG⟩, hO, hKO, hN⟩ := hv
  have hts := atoms_spec (ws := lWs yLaw_redo cLaw_redo 4 (lHh [2, 5] 9 (fun j => ([12, 15] : List Nat).getD j 0))) B.pre
  have C : cC p s m _ c cLaw_redo 4 RV D ca A α := ⟨B.exec, B.bytes, hml, findClass_of_methodNamed B.named, fun w hw => hts w (List.mem_cons_of_mem _ hw), hK, hG⟩
  have hM : cM D ca true A s.heap σ α σ α s.heap [] := ⟨hP, hD0, hSh, va_S.rf, hA, cX.rf⟩
  have htab := vx_table (x := yLaw_redo) B (hts _ List.mem_cons_self)
  have h17 := c_17 hM
  have hr := B.returns
  have hlk := B.notSynchronized
  have hx := C.1
  have hb := C.2.1
  have hl := lv_entry ([cr α 0 (some 0), .int x1, .ref bo]) (n := 4) (Nat.le_of_ble_eq_true rfl)
  rw [lg_entry_eq]
  generalize (lg_sl ([cr α 0 (some 0), .int x1, .ref bo]) ++ List.replicate (4 - (lg_sl ([cr α 0 (some 0), .int x1, .ref bo])).length) Slot.unset).toArray = ls at hl ⊢
  have hl : lv_has ls 4 [(0, cr α 0 (some 0)), (1, .int x1), (2, .ref bo)] := hl
  refine lv_aload_n hx hb dLaw_redo_0 rfl (lv_at hl 2 rfl) ?_
  refine lv_iconst (v := (0 : Int32)) hx hb dLaw_redo_1 (by decide) ?_
  refine c_aload_n (t := 0) (x := (some 0)) hx hb dLaw_redo_2 rfl (lv_at hl 0 rfl) ?_
  refine lv_iload_n hx hb dLaw_redo_3 rfl (lv_at hl 1 rfl) ?_
  refine l_call (tv := fun v => .int v) (As := [.int x1]) (rest := [.int 0, .ref bo]) C hM (cc_X11_redo l hst D ca A α σ x1 o h) cwv_redo ⟨rfl, rfl⟩ ⟨Nat.le_of_ble_eq_true rfl, Nat.le_of_ble_eq_true rfl⟩ rfl rfl (cats_le _ (Nat.le_of_ble_eq_true rfl)) hl.1 dLaw_redo_4 ⟨Nat.le_of_ble_eq_true rfl, Nat.le_of_ble_eq_true rfl⟩ (fun k q ce H1 locs1 α1 ho hα hM1 h1 h2 h3 => ?_) (fun v H1 locs1 α1 ho hα hM1 => ?_)
  · have hjk := hj k ho
    have hOt := l_out hO (fun q hq => by rw [List.mem_singleton] at hq; rw [hq]; exact hbo) hM1
    refine l_catch (k := k) (j := j) C.2.2.2.1 C.2.2.2.2.1 hG.1.2.2.2 hN htab (by decide) (by decide) (by decide) hjk h1 h2 h3 ?_
    have hjl : j < 2 := (List.getElem?_eq_some_iff.mp hjk).1
    rcases (show j = 0 ∨ j = 1 by omega) with rfl | rfl
    · refine W_pc (pc' := 12) rfl ?_
      refine lv_astore_n (lv' := [(3, .ref q), (0, cr α 0 (some 0)), (1, .int x1), (2, .ref bo)]) hx hb dLaw_redo_12 rfl hl (by decide) rfl (fun ls hl => ?_)
      refine lv_iconst (v := nI 1) hx hb dLaw_redo_13 (by decide) ?_
      exact l_end C hα hM1 hM1.1 hOt (hM1.2.2.2.1.wk (fun q h => Or.inl h)) hr hlk rfl (by rw [ho]; rfl) (by rw [ho]; rfl) dLaw_redo_14
    · refine W_pc (pc' := 15) rfl ?_
      refine lv_astore_n (lv' := [(3, .ref q), (0, cr α 0 (some 0)), (1, .int x1), (2, .ref bo)]) hx hb dLaw_redo_15 rfl hl (by decide) rfl (fun ls hl => ?_)
      refine lv_iconst (v := nI 2) hx hb dLaw_redo_16 (by decide) ?_
      exact l_end C hα hM1 hM1.1 hOt (hM1.2.2.2.1.wk (fun q h => Or.inl h)) hr hlk rfl (by rw [ho]; rfl) (by rw [ho]; rfl) dLaw_redo_17
  · refine lv_i2l hx hb dLaw_redo_7 rfl ?_
    refine l_storeJ C hM1 h17 hO hKO hbo hb17 dLaw_redo_8 (fun H2 locs2 hP2 hO2 hS2 => ?_)
    refine lv_goto (tgt := 18) hx hb dLaw_redo_9 (by decide) ?_
    refine lv_iconst (v := nI 0) hx hb dLaw_redo_18 (by decide) ?_
    exact l_end C hα hM1 hP2 hO2 hS2 hr hlk rfl (by rw [ho]; rfl) (by rw [ho]; rfl) dLaw_redo_19
theorem cwv_name : cCallV RV 113 (cRn 0) yX11_name cX11_name 4 ((some FieldType.int)) 0 := ⟨⟨wl_in (i := 1317) (by decide +kernel), wl_in (i := 1318) (by decide +kernel), wl_in (i := 1319) (by decide +kernel), wl_in (i := 1) (by decide +kernel), wl_in (i := 1320) (by decide +kernel)⟩, rfl, by decide, by decide, by decide +kernel⟩
abbrev rv_name : Room := ({ frames := 8, cells := 2, slots := 12, locals := 148 } : Room)
set_option maxHeartbeats 4000000 in
set_option maxRecDepth 100000 in
theorem cv_name (l : Launch) (hst : l.stackTraces = false) (D : va_G) (ca : Nat → ClassId) (A : Nat → Prop) (bo : Nat) (cO : ClassId) (α : cAl) (σ : cS) (f : Nat → Int64) (hbo : ¬ A bo) (hb17 : α 17 0 ≠ bo)  (o : (Nat ⊕ Int32) × cS) (h : fc_X11_name σ = some o) (j : Nat) (hj : ∀ k, o.1 = .inl k → ([2, 1, 3] : List Nat)[j]? = some k) : lMet false l yLaw_name cLaw_name 3 (lHh [2, 1, 3] 8 (fun j => ([11, 14, 17] : List Nat).getD j 0)) rv_name 2 12 D ca A bo α σ [cr α 0 (some 0), .ref bo] (lO bo cO f) [(cO, .long)] (lK j o.1) o.2 (lO bo cO (lV (fun x => vp_updL f 0 (x.toInt64)) f o.1)) := by
  refine va_MetW (hh := (lHh [2, 1, 3] 8 (fun j => ([11, 14, 17] : List Nat).getD j 0))) (cc := cLaw_name) (maxL := 3) (ret := some .int) (by decide) rfl ?_
  intro p e s m args below meth c s₁ B hml hv
  obtain ⟨rfl, ⟨hP, hK, hD0, hSh, hA, hG⟩, hO, hKO, hN⟩ := hv
  have hts := atoms_spec (ws := lWs yLaw_name cLaw_name 3 (lHh [2, 1, 3] 8 (fun j => ([11, 14, 17] : List Nat).getD j 0))) B.pre
  have C : cC p s m _ c cLaw_name 3 RV D ca A α := ⟨B.exec, B.bytes, hml, findClass_of_methodNamed B.named, fun w hw => hts w (List.mem_cons_of_mem _ hw), hK, hG⟩
  have hM : cM D ca true A s.heap σ α σ α s.heap [] := ⟨hP, hD0, hSh, va_S.rf, hA, cX.rf⟩
  have htab := vx_table (x := yLaw_name) B (hts _ List.mem_cons_self)
  have h17 := c_17 hM
  have hr := B.returns
  have hlk := B.notSynchronized
  have hx := C.1
  have hb := C.2.1
  have hl := lv_entry ([cr α 0 (some 0), .ref bo]) (n := 3) (Nat.le_of_ble_eq_true rfl)
  rw [lg_entry_eq]
  generalize (lg_sl ([cr α 0 (some 0), .ref bo]) ++ List.replicate (3 - (lg_sl ([cr α 0 (some 0), .ref bo])).length) Slot.unset).toArray = ls at hl ⊢
  have hl : lv_has ls 3 [(0, cr α 0 (some 0)), (1, .ref bo)] := hl
  refine lv_aload_n hx hb dLaw_name_0 rfl (lv_at hl 1 rfl) ?_
  refine lv_iconst (v := (0 : Int32)) hx hb dLaw_name_1 (by decide) ?_
  refine c_aload_n (t := 0) (x := (some 0)) hx hb dLaw_name_2 rfl (lv_at hl 0 rfl) ?_
  refine l_call (tv := fun v => .int v) (As := []) (rest := [.int 0, .ref bo]) C hM (cc_X11_name l hst D ca A α σ  o h) cwv_name ⟨rfl, rfl⟩ ⟨Nat.le_of_ble_eq_true rfl, Nat.le_of_ble_eq_true rfl⟩ rfl rfl (cats_le _ (Nat.le_of_ble_eq_true rfl)) hl.1 dLaw_name_3 ⟨Nat.le_of_ble_eq_true rfl, Nat.le_of_ble_eq_true rfl⟩ (fun k q ce H1 locs1 α1 ho hα hM1 h1 h2 h3 => ?_) (fun v H1 locs1 α1 ho hα hM1 => ?_)
  · have hjk := hj k ho
    have hOt := l_out hO (fun q hq => by rw [List.mem_singleton] at hq; rw [hq]; exact hbo) hM1
    refine l_catch (k := k) (j := j) C.2.2.2.1 C.2.2.2.2.1 hG.1.2.2.2 hN htab (by decide) (by decide) (by decide) hjk h1 h2 h3 ?_
    have hjl : j < 3 := (List.getElem?_eq_some_iff.mp hjk).1
    rcases (show j = 0 ∨ j = 1 ∨ j = 2 by omega) with rfl | rfl | rfl
    · refine W_pc (pc' := 11) rfl ?_
      refine lv_astore_n (lv' := [(2, .ref q), (0, cr α 0 (some 0)), (1, .ref bo)]) hx hb dLaw_name_11 rfl hl (by decide) rfl (fun ls hl => ?_)
      refine lv_iconst (v := nI 1) hx hb dLaw_name_12 (by decide) ?_
      exact l_end C hα hM1 hM1.1 hOt (hM1.2.2.2.1.wk (fun q h => Or.inl h)) hr hlk rfl (by rw [ho]; rfl) (by rw [ho]; rfl) dLaw_name_13
    · refine W_pc (pc' := 14) rfl ?_
      refine lv_astore_n (lv' := [(2, .ref q), (0, cr α 0 (some 0)), (1, .ref bo)]) hx hb dLaw_name_14 rfl hl (by decide) rfl (fun ls hl => ?_)
      refine lv_iconst (v := nI 2) hx hb dLaw_name_15 (by decide) ?_
      exact l_end C hα hM1 hM1.1 hOt (hM1.2.2.2.1.wk (fun q h => Or.inl h)) hr hlk rfl (by rw [ho]; rfl) (by rw [ho]; rfl) dLaw_name_16
    · refine W_pc (pc' := 17) rfl ?_
      refine lv_astore_n (lv' := [(2, .ref q), (0, cr α 0 (some 0)), (1, .ref bo)]) hx hb dLaw_name_17 rfl hl (by decide) rfl (fun ls hl => ?_)
      refine lv_iconst (v := nI 3) hx hb dLaw_name_18 (by decide) ?_
      exact l_end C hα hM1 hM1.1 hOt (hM1.2.2.2.1.wk (fun q h => Or.inl h)) hr hlk rfl (by rw [ho]; rfl) (by rw [ho]; rfl) dLaw_name_19
  · refine lv_i2l hx hb dLaw_name_6 rfl ?_
    refine l_storeJ C hM1 h17 hO hKO hbo hb17 dLaw_name_7 (fun H2 locs2 hP2 hO2 hS2 => ?_)
    refine lv_goto (tgt := 20) hx hb dLaw_name_8 (by decide) ?_
    refine lv_iconst (v := nI 0) hx hb dLaw_name_20 (by decide) ?_
    exact l_end C hα hM1 hP2 hO2 hS2 hr hlk rfl (by rw [ho]; rfl) (by rw [ho]; rfl) dLaw_name_21
theorem cwv_jump : cCallV RV 116 (cRn 0) yX11_jump cX11_jump 2 ((some FieldType.int)) 0 := ⟨⟨wl_in (i := 1333) (by decide +kernel), wl_in (i := 1334) (by decide +kernel), wl_in (i := 1335) (by decide +kernel), wl_in (i := 1) (by decide +kernel), wl_in (i := 1336) (by decide +kernel)⟩, rfl, by decide, by decide, by decide +kernel⟩
abbrev rv_jump : Room := ({ frames := 8, cells := 2, slots := 12, locals := 146 } : Room)
set_option maxHeartbeats 4000000 in
set_option maxRecDepth 100000 in
theorem cv_jump (l : Launch) (hst : l.stackTraces = false) (D : va_G) (ca : Nat → ClassId) (A : Nat → Prop) (bo : Nat) (cO : ClassId) (α : cAl) (σ : cS) (f : Nat → Int64) (hbo : ¬ A bo) (hb17 : α 17 0 ≠ bo)  (o : (Nat ⊕ Int32) × cS) (h : fc_X11_jump σ = some o) (j : Nat) (hj : ∀ k, o.1 = .inl k → ([2, 5] : List Nat)[j]? = some k) : lMet false l yLaw_jump cLaw_jump 3 (lHh [2, 5] 8 (fun j => ([11, 14] : List Nat).getD j 0)) rv_jump 2 12 D ca A bo α σ [cr α 0 (some 0), .ref bo] (lO bo cO f) [(cO, .long)] (lK j o.1) o.2 (lO bo cO (lV (fun x => vp_updL f 0 (x.toInt64)) f o.1)) := by
  refine va_MetW (hh := (lHh [2, 5] 8 (fun j => ([11, 14] : List Nat).getD j 0))) (cc := cLaw_jump) (maxL := 3) (ret := some .int) (by decide) rfl ?_
  intro p e s m args below meth c s₁ B hml hv
  obtain ⟨rfl, ⟨hP, hK, hD0, hSh, hA, hG⟩, hO, hKO, hN⟩ := hv
  have hts := atoms_spec (ws := lWs yLaw_jump cLaw_jump 3 (lHh [2, 5] 8 (fun j => ([11, 14] : List Nat).getD j 0))) B.pre
  have C : cC p s m _ c cLaw_jump 3 RV D ca A α := ⟨B.exec, B.bytes, hml, findClass_of_methodNamed B.named, fun w hw => hts w (List.mem_cons_of_mem _ hw), hK, hG⟩
  have hM : cM D ca true A s.heap σ α σ α s.heap [] := ⟨hP, hD0, hSh, va_S.rf, hA, cX.rf⟩
  have htab := vx_table (x := yLaw_jump) B (hts _ List.mem_cons_self)
  have h17 := c_17 hM
  have hr := B.returns
  have hlk := B.notSynchronized
  have hx := C.1
  have hb := C.2.1
  have hl := lv_entry ([cr α 0 (some 0), .ref bo]) (n := 3) (Nat.le_of_ble_eq_true rfl)
  rw [lg_entry_eq]
  generalize (lg_sl ([cr α 0 (some 0), .ref bo]) ++ List.replicate (3 - (lg_sl ([cr α 0 (some 0), .ref bo])).length) Slot.unset).toArray = ls at hl ⊢
  have hl : lv_has ls 3 [(0, cr α 0 (some 0)), (1, .ref bo)] := hl
  refine lv_aload_n hx hb dLaw_jump_0 rfl (lv_at hl 1 rfl) ?_
  refine lv_iconst (v := (0 : Int32)) hx hb dLaw_jump_1 (by decide) ?_
  refine c_aload_n (t := 0) (x := (some 0)) hx hb dLaw_jump_2 rfl (lv_at hl 0 rfl) ?_
  refine l_call (tv := fun v => .int v) (As := []) (rest := [.int 0, .ref bo]) C hM (cc_X11_jump l hst D ca A α σ  o h) cwv_jump ⟨rfl, rfl⟩ ⟨Nat.le_of_ble_eq_true rfl, Nat.le_of_ble_eq_true rfl⟩ rfl rfl (cats_le _ (Nat.le_of_ble_eq_true rfl)) hl.1 dLaw_jump_3 ⟨Nat.le_of_ble_eq_true rfl, Nat.le_of_ble_eq_true rfl⟩ (fun k q ce H1 locs1 α1 ho hα hM1 h1 h2 h3 => ?_) (fun v H1 locs1 α1 ho hα hM1 => ?_)
  · have hjk := hj k ho
    have hOt := l_out hO (fun q hq => by rw [List.mem_singleton] at hq; rw [hq]; exact hbo) hM1
    refine l_catch (k := k) (j := j) C.2.2.2.1 C.2.2.2.2.1 hG.1.2.2.2 hN htab (by decide) (by decide) (by decide) hjk h1 h2 h3 ?_
    have hjl : j < 2 := (List.getElem?_eq_some_iff.mp hjk).1
    rcases (show j = 0 ∨ j = 1 by omega) with rfl | rfl
    · refine W_pc (pc' := 11) rfl ?_
      refine lv_astore_n (lv' := [(2, .ref q), (0, cr α 0 (some 0)), (1, .ref bo)]) hx hb dLaw_jump_11 rfl hl (by decide) rfl (fun ls hl => ?_)
      refine lv_iconst (v := nI 1) hx hb dLaw_jump_12 (by decide) ?_
      exact l_end C hα hM1 hM1.1 hOt (hM1.2.2.2.1.wk (fun q h => Or.inl h)) hr hlk rfl (by rw [ho]; rfl) (by rw [ho]; rfl) dLaw_jump_13
    · refine W_pc (pc' := 14) rfl ?_
      refine lv_astore_n (lv' := [(2, .ref q), (0, cr α 0 (some 0)), (1, .ref bo)]) hx hb dLaw_jump_14 rfl hl (by decide) rfl (fun ls hl => ?_)
      refine lv_iconst (v := nI 2) hx hb dLaw_jump_15 (by decide) ?_
      exact l_end C hα hM1 hM1.1 hOt (hM1.2.2.2.1.wk (fun q h => Or.inl h)) hr hlk rfl (by rw [ho]; rfl) (by rw [ho]; rfl) dLaw_jump_16
  · refine lv_i2l hx hb dLaw_jump_6 rfl ?_
    refine l_storeJ C hM1 h17 hO hKO hbo hb17 dLaw_jump_7 (fun H2 locs2 hP2 hO2 hS2 => ?_)
    refine lv_goto (tgt := 17) hx hb dLaw_jump_8 (by decide) ?_
    refine lv_iconst (v := nI 0) hx hb dLaw_jump_17 (by decide) ?_
    exact l_end C hα hM1 hP2 hO2 hS2 hr hlk rfl (by rw [ho]; rfl) (by rw [ho]; rfl) dLaw_jump_18
