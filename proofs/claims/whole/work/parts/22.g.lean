/-! The law's own methods: contracts. -/
theorem cwv_isKnown : cCallV RV 119 (cRn 0) yX11_isKnown cX11_isKnown 2 ((some FieldType.boolean)) 1 := ⟨⟨wl_in (i := 1341) (by decide +kernel), wl_in (i := 1342) (by decide +kernel), wl_in (i := 1343) (by decide +kernel), wl_in (i := 1) (by decide +kernel), wl_in (i := 1344) (by decide +kernel)⟩, rfl, by decide, by decide, by decide +kernel⟩
abbrev rv_isKnown : Room := ({ frames := 8, cells := 2, slots := 12, locals := 143 } : Room)
set_option maxHeartbeats 4000000 in
set_option maxRecDepth 100000 in
theorem cv_isKnown (l : Launch) (hst : l.stackTraces = false) (D : va_G) (ca : Nat → ClassId) (A : Nat → Prop) (bo : Nat) (cO : ClassId) (α : cAl) (σ : cS) (f : Nat → Int64) (hbo : ¬ A bo) (hb17 : α 17 0 ≠ bo) (x1 : Int32) (o : (Nat ⊕ Int32) × cS) (h : fc_X11_isKnown σ x1 = some o) (j : Nat) (hj : ∀ k, o.1 = .inl k → ([4, 2] : List Nat)[j]? = some k) : lMet false l yLaw_isKnown cLaw_isKnown 4 (lHh [4, 2] 16 (fun j => ([19, 22] : List Nat).getD j 0)) rv_isKnown 2 12 D ca A bo α σ [cr α 0 (some 0), .int x1, .ref bo] (lO bo cO f) [(cO, .long)] (lK j o.1) o.2 (lO bo cO (lV (fun x => vp_updL f 0 (if x = 0 then 0 else 1)) f o.1)) := by
  refine va_MetW (hh := (lHh [4, 2] 16 (fun j => ([19, 22] : List Nat).getD j 0))) (cc := cLaw_isKnown) (maxL := 4) (ret := some .int) (by decide) rfl ?_
  intro p e s m args below meth c s₁ B hml hv
  obtain ⟨rfl, ⟨hP, hK, hD0, hSh, hA, hG⟩, hO, hKO, hN⟩ := hv
  have hts := atoms_spec (ws := lWs yLaw_isKnown cLaw_isKnown 4 (lHh [4, 2] 16 (fun j => ([19, 22] : List Nat).getD j 0))) B.pre
  have C : cC p s m _ c cLaw_isKnown 4 RV D ca A α := ⟨B.exec, B.bytes, hml, findClass_of_methodNamed B.named, fun w hw => hts w (List.mem_cons_of_mem _ hw), hK, hG⟩
  have hM : cM D ca true A s.heap σ α σ α s.heap [] := ⟨hP, hD0, hSh, va_S.rf, hA, cX.rf⟩
  have htab := vx_table (x := yLaw_isKnown) B (hts _ List.mem_cons_self)
  have h17 := c_17 hM
  have hr := B.returns
  have hlk := B.notSynchronized
  have hx := C.1
  have hb := C.2.1
  have hl := lv_entry ([cr α 0 (some 0), .int x1, .ref bo]) (n := 4) (Nat.le_of_ble_eq_true rfl)
  rw [lg_entry_eq]
  generalize (lg_sl ([cr α 0 (some 0), .int x1, .ref bo]) ++ List.replicate (4 - (lg_sl ([cr α 0 (some 0), .int x1, .ref bo])).length) Slot.unset).toArray = ls at hl ⊢
  have hl : lv_has ls 4 [(0, cr α 0 (some 0)), (1, .int x1), (2, .ref bo)] := hl
  refine lv_aload_n hx hb dLaw_isKnown_0 rfl (lv_at hl 2 rfl) ?_
  refine lv_iconst (v := (0 : Int32)) hx hb dLaw_isKnown_1 (by decide) ?_
  refine c_aload_n (t := 0) (x := (some 0)) hx hb dLaw_isKnown_2 rfl (lv_at hl 0 rfl) ?_
  refine lv_iload_n hx hb dLaw_isKnown_3 rfl (lv_at hl 1 rfl) ?_
  refine l_call (tv := fun v => .int v) (As := [.int x1]) (rest := [.int 0, .ref bo]) C hM (cc_X11_isKnown l hst D ca A α σ x1 o h) cwv_isKnown ⟨rfl, rfl⟩ ⟨Nat.le_of_ble_eq_true rfl, Nat.le_of_ble_eq_true rfl⟩ rfl rfl (cats_le _ (Nat.le_of_ble_eq_true rfl)) hl.1 dLaw_isKnown_4 ⟨Nat.le_of_ble_eq_true rfl, Nat.le_of_ble_eq_true rfl⟩ (fun k q ce H1 locs1 α1 ho hα hM1 h1 h2 h3 => ?_) (fun v H1 locs1 α1 ho hα hM1 => ?_)
  · have hjk := hj k ho
    have hOt := l_out hO (fun q hq => by rw [List.mem_singleton] at hq; rw [hq]; exact hbo) hM1
    refine l_catch (k := k) (j := j) C.2.2.2.1 C.2.2.2.2.1 hG.1.2.2.2 hN htab (by decide) (by decide) (by decide) hjk h1 h2 h3 ?_
    have hjl : j < 2 := (List.getElem?_eq_some_iff.mp hjk).1
    rcases (show j = 0 ∨ j = 1 by omega) with rfl | rfl
    · refine W_pc (pc' := 19) rfl ?_
      refine lv_astore_n (lv' := [(3, .ref q), (0, cr α 0 (some 0)), (1, .int x1), (2, .ref bo)]) hx hb dLaw_isKnown_19 rfl hl (by decide) rfl (fun ls hl => ?_)
      refine lv_iconst (v := nI 1) hx hb dLaw_isKnown_20 (by decide) ?_
      exact l_end C hα hM1 hM1.1 hOt (hM1.2.2.2.1.wk (fun q h => Or.inl h)) hr hlk rfl (by rw [ho]; rfl) (by rw [ho]; rfl) dLaw_isKnown_21
    · refine W_pc (pc' := 22) rfl ?_
      refine lv_astore_n (lv' := [(3, .ref q), (0, cr α 0 (some 0)), (1, .int x1), (2, .ref bo)]) hx hb dLaw_isKnown_22 rfl hl (by decide) rfl (fun ls hl => ?_)
      refine lv_iconst (v := nI 2) hx hb dLaw_isKnown_23 (by decide) ?_
      exact l_end C hα hM1 hM1.1 hOt (hM1.2.2.2.1.wk (fun q h => Or.inl h)) hr hlk rfl (by rw [ho]; rfl) (by rw [ho]; rfl) dLaw_isKnown_24
  · refine lv_if_eq (tgt := 14) hx hb dLaw_isKnown_7 (by decide) (fun c_1 => ?_) (fun c_1 => ?_)
    · refine lv_lconst (v := (0 : Int64)) hx hb dLaw_isKnown_14 (by decide) ?_
      refine l_storeJ C hM1 h17 hO hKO hbo hb17 dLaw_isKnown_15 (fun H2 locs2 hP2 hO2 hS2 => ?_)
      refine lv_goto (tgt := 25) hx hb dLaw_isKnown_16 (by decide) ?_
      refine lv_iconst (v := nI 0) hx hb dLaw_isKnown_25 (by decide) ?_
      exact l_end C hα hM1 hP2 hO2 hS2 hr hlk rfl (by rw [ho]; rfl) (by rw [ho]; show _ = lO bo cO (vp_updL f 0 (if v = 0 then 0 else 1)); rw [if_pos c_1]) dLaw_isKnown_26
    · refine lv_lconst (v := (1 : Int64)) hx hb dLaw_isKnown_10 (by decide) ?_
      refine lv_goto (tgt := 15) hx hb dLaw_isKnown_11 (by decide) ?_
      refine l_storeJ C hM1 h17 hO hKO hbo hb17 dLaw_isKnown_15 (fun H2 locs2 hP2 hO2 hS2 => ?_)
      refine lv_goto (tgt := 25) hx hb dLaw_isKnown_16 (by decide) ?_
      refine lv_iconst (v := nI 0) hx hb dLaw_isKnown_25 (by decide) ?_
      exact l_end C hα hM1 hP2 hO2 hS2 hr hlk rfl (by rw [ho]; rfl) (by rw [ho]; show _ = lO bo cO (vp_updL f 0 (if v = 0 then 0 else 1)); rw [if_neg c_1]) dLaw_isKnown_26
theorem cwv_known : cCallV RV 122 (cRn 0) yX11_known cX11_known 1 ((some FieldType.int)) 0 := ⟨⟨wl_in (i := 1348) (by decide +kernel), wl_in (i := 1349) (by decide +kernel), wl_in (i := 1350) (by decide +kernel), wl_in (i := 1) (by decide +kernel), wl_in (i := 1351) (by decide +kernel)⟩, rfl, by decide, by decide, by decide +kernel⟩
abbrev rv_known : Room := ({ frames := 8, cells := 1, slots := 6, locals := 162 } : Room)
set_option maxHeartbeats 4000000 in
set_option maxRecDepth 100000 in
theorem cv_known (l : Launch) (hst : l.stackTraces = false) (D : va_G) (ca : Nat → ClassId) (A : Nat → Prop) (bo : Nat) (cO : ClassId) (α : cAl) (σ : cS) (f : Nat → Int64) (hbo : ¬ A bo) (hb17 : α 17 0 ≠ bo)  (o : (Nat ⊕ Int32) × cS) (h : fc_X11_known σ = some o) (j : Nat) (hj : ∀ k, o.1 = .inl k → ([2] : List Nat)[j]? = some k) : lMet false l yLaw_known cLaw_known 3 (lHh [2] 8 (fun j => ([11] : List Nat).getD j 0)) rv_known 1 6 D ca A bo α σ [cr α 0 (some 0), .ref bo] (lO bo cO f) [(cO, .long)] (lK j o.1) o.2 (lO bo cO (lV (fun x => vp_updL f 0 (x.toInt64)) f o.1)) := by
  refine va_MetW (hh := (lHh [2] 8 (fun j => ([11] : List Nat).getD j 0))) (cc := cLaw_known) (maxL := 3) (ret := some .int) (by decide) rfl ?_
  intro p e s m args below meth c s₁ B hml hv
  obtain ⟨rfl, ⟨hP, hK, hD0, hSh, hA, hG⟩, hO, hKO, hN⟩ := hv
  have hts := atoms_spec (ws := lWs yLaw_known cLaw_known 3 (lHh [2] 8 (fun j => ([11] : List Nat).getD j 0))) B.pre
  have C : cC p s m _ c cLaw_known 3 RV D ca A α := ⟨B.exec, B.bytes, hml, findClass_of_methodNamed B.named, fun w hw => hts w (List.mem_cons_of_mem _ hw), hK, hG⟩
  have hM : cM D ca true A s.heap σ α σ α s.heap [] := ⟨hP, hD0, hSh, va_S.rf, hA, cX.rf⟩
  have htab := vx_table (x := yLaw_known) B (hts _ List.mem_cons_self)
  have h17 := c_17 hM
  have hr := B.returns
  have hlk := B.notSynchronized
  have hx := C.1
  have hb := C.2.1
  have hl := lv_entry ([cr α 0 (some 0), .ref bo]) (n := 3) (Nat.le_of_ble_eq_true rfl)
  rw [lg_entry_eq]
  generalize (lg_sl ([cr α 0 (some 0), .ref bo]) ++ List.replicate (3 - (lg_sl ([cr α 0 (some 0), .ref bo])).length) Slot.unset).toArray = ls at hl ⊢
  have hl : lv_has ls 3 [(0, cr α 0 (some 0)), (1, .ref bo)] := hl
  refine lv_aload_n hx hb dLaw_known_0 rfl (lv_at hl 1 rfl) ?_
  refine lv_iconst (v := (0 : Int32)) hx hb dLaw_known_1 (by decide) ?_
  refine c_aload_n (t := 0) (x := (some 0)) hx hb dLaw_known_2 rfl (lv_at hl 0 rfl) ?_
  refine l_call (tv := fun v => .int v) (As := []) (rest := [.int 0, .ref bo]) C hM (cc_X11_known l hst D ca A α σ  o h) cwv_known ⟨rfl, rfl⟩ ⟨Nat.le_of_ble_eq_true rfl, Nat.le_of_ble_eq_true rfl⟩ rfl rfl (cats_le _ (Nat.le_of_ble_eq_true rfl)) hl.1 dLaw_known_3 ⟨Nat.le_of_ble_eq_true rfl, Nat.le_of_ble_eq_true rfl⟩ (fun k q ce H1 locs1 α1 ho hα hM1 h1 h2 h3 => ?_) (fun v H1 locs1 α1 ho hα hM1 => ?_)
  · have hjk := hj k ho
    have hOt := l_out hO (fun q hq => by rw [List.mem_singleton] at hq; rw [hq]; exact hbo) hM1
    refine l_catch (k := k) (j := j) C.2.2.2.1 C.2.2.2.2.1 hG.1.2.2.2 hN htab (by decide) (by decide) (by decide) hjk h1 h2 h3 ?_
    have hjl : j < 1 := (List.getElem?_eq_some_iff.mp hjk).1
    rcases (show j = 0 by omega) with rfl
    · refine W_pc (pc' := 11) rfl ?_
      refine lv_astore_n (lv' := [(2, .ref q), (0, cr α 0 (some 0)), (1, .ref bo)]) hx hb dLaw_known_11 rfl hl (by decide) rfl (fun ls hl => ?_)
      refine lv_iconst (v := nI 1) hx hb dLaw_known_12 (by decide) ?_
      exact l_end C hα hM1 hM1.1 hOt (hM1.2.2.2.1.wk (fun q h => Or.inl h)) hr hlk rfl (by rw [ho]; rfl) (by rw [ho]; rfl) dLaw_known_13
  · refine lv_i2l hx hb dLaw_known_6 rfl ?_
    refine l_storeJ C hM1 h17 hO hKO hbo hb17 dLaw_known_7 (fun H2 locs2 hP2 hO2 hS2 => ?_)
    refine lv_goto (tgt := 14) hx hb dLaw_known_8 (by decide) ?_
    refine lv_iconst (v := nI 0) hx hb dLaw_known_14 (by decide) ?_
    exact l_end C hα hM1 hP2 hO2 hS2 hr hlk rfl (by rw [ho]; rfl) (by rw [ho]; rfl) dLaw_known_15
theorem cwv_learnt : cCallV RV 125 (cRn 0) yX11_learnt cX11_learnt 3 ((some FieldType.int)) 1 := ⟨⟨wl_in (i := 1355) (by decide +kernel), wl_in (i := 1356) (by decide +kernel), wl_in (i := 1357) (by decide +kernel), wl_in (i := 1) (by decide +kernel), wl_in (i := 1358) (by decide +kernel)⟩, rfl, by decide, by decide, by decide +kernel⟩
abbrev rv_learnt : Room := ({ frames := 8, cells := 3, slots := 18, locals := 144 } : Room)
set_option maxHeartbeats 4000000 in
set_option maxRecDepth 100000 in
theorem cv_learnt (l : Launch) (hst : l.stackTraces = false) (D : va_G) (ca : Nat → ClassId) (A : Nat → Prop) (bo : Nat) (cO : ClassId) (α : cAl) (σ : cS) (f : Nat → Int64) (hbo : ¬ A bo) (hb17 : α 17 0 ≠ bo) (x1 : Int32) (o : (Nat ⊕ Int32) × cS) (h : fc_X11_learnt σ x1 = some o) (j : Nat) (hj : ∀ k, o.1 = .inl k → ([4, 2, 5] : List Nat)[j]? = some k) : lMet false l yLaw_learnt cLaw_learnt 4 (lHh [4, 2, 5] 9 (fun j => ([12, 15, 18] : List Nat).getD j 0)) rv_learnt 3 18 D ca A bo α σ [cr α 0 (some 0), .int x1, .ref bo] (lO bo cO f) [(cO, .long)] (lK j o.1) o.2 (lO bo cO (lV (fun x => vp_updL f 0 (x.toInt64)) f o.1)) := by
  refine va_MetW (hh := (lHh [4, 2, 5] 9 (fun j => ([12, 15, 18] : List Nat).getD j 0))) (cc := cLaw_learnt) (maxL := 4) (ret := some .int) (by decide) rfl ?_
  intro p e s m args below meth c s₁ B hml hv
  obtain ⟨rfl, ⟨hP, hK, hD0, hSh, hA, hG⟩, hO, hKO, hN⟩ := hv
  have hts := atoms_spec (ws := lWs yLaw_learnt cLaw_learnt 4 (lHh [4, 2, 5] 9 (fun j => ([12, 15, 18] : List Nat).getD j 0))) B.pre
  have C : cC p s m _ c cLaw_learnt 4 RV D ca A α := ⟨B.exec, B.bytes, hml, findClass_of_methodNamed B.named, fun w hw => hts w (List.mem_cons_of_mem _ hw), hK, hG⟩
  have hM : cM D ca true A s.heap σ α σ α s.heap [] := ⟨hP, hD0, hSh, va_S.rf, hA, cX.rf⟩
  have htab := vx_table (x := yLaw_learnt) B (hts _ List.mem_cons_self)
  have h17 := c_17 hM
  have hr := B.returns
  have hlk := B.notSynchronized
  have hx := C.1
  have hb := C.2.1
  have hl := lv_entry ([cr α 0 (some 0), .int x1, .ref bo]) (n := 4) (Nat.le_of_ble_eq_true rfl)
  rw [lg_entry_eq]
  generalize (lg_sl ([cr α 0 (some 0), .int x1, .ref bo]) ++ List.replicate (4 - (lg_sl ([cr α 0 (some 0), .int x1, .ref bo])).length) Slot.unset).toArray = ls at hl ⊢
  have hl : lv_has ls 4 [(0, cr α 0 (some 0)), (1, .int x1), (2, .ref bo)] := hl
  refine lv_aload_n hx hb dLaw_learnt_0 rfl (lv_at hl 2 rfl) ?_
  refine lv_iconst (v := (0 : Int32)) hx hb dLaw_learnt_1 (by decide) ?_
  refine c_aload_n (t := 0) (x := (some 0)) hx hb dLaw_learnt_2 rfl (lv_at hl 0 rfl) ?_
  refine lv_iload_n hx hb dLaw_learnt_3 rfl (lv_at hl 1 rfl) ?_
  refine l_call (tv := fun v => .int v) (As := [.int x1]) (rest := [.int 0, .ref bo]) C hM (cc_X11_learnt l hst D ca A α σ x1 o h) cwv_learnt ⟨rfl, rfl⟩ ⟨Nat.le_of_ble_eq_true rfl, Nat.le_of_ble_eq_true rfl⟩ rfl rfl (cats_le _ (Nat.le_of_ble_eq_true rfl)) hl.1 dLaw_learnt_4 ⟨Nat.le_of_ble_eq_true rfl, Nat.le_of_ble_eq_true rfl⟩ (fun k q ce H1 locs1 α1 ho hα hM1 h1 h2 h3 => ?_) (fun v H1 locs1 α1 ho hα hM1 => ?_)
  · have hjk := hj k ho
    have hOt := l_out hO (fun q hq => by rw [List.mem_singleton] at hq; rw [hq]; exact hbo) hM1
    refine l_catch (k := k) (j := j) C.2.2.2.1 C.2.2.2.2.1 hG.1.2.2.2 hN htab (by decide) (by decide) (by decide) hjk h1 h2 h3 ?_
    have hjl : j < 3 := (List.getElem?_eq_some_iff.mp hjk).1
    rcases (show j = 0 ∨ j = 1 ∨ j = 2 by omega) with rfl | rfl | rfl
    · refine W_pc (pc' := 12) rfl ?_
      refine lv_astore_n (lv' := [(3, .ref q), (0, cr α 0 (some 0)), (1, .int x1), (2, .ref bo)]) hx hb dLaw_learnt_12 rfl hl (by decide) rfl (fun ls hl => ?_)
      refine lv_iconst (v := nI 1) hx hb dLaw_learnt_13 (by decide) ?_
      exact l_end C hα hM1 hM1.1 hOt (hM1.2.2.2.1.wk (fun q h => Or.inl h)) hr hlk rfl (by rw [ho]; rfl) (by rw [ho]; rfl) dLaw_learnt_14
    · refine W_pc (pc' := 15) rfl ?_
      refine lv_astore_n (lv' := [(3, .ref q), (0, cr α 0 (some 0)), (1, .int x1), (2, .ref bo)]) hx hb dLaw_learnt_15 rfl hl (by decide) rfl (fun ls hl => ?_)
      refine lv_iconst (v := nI 2) hx hb dLaw_learnt_16 (by decide) ?_
      exact l_end C hα hM1 hM1.1 hOt (hM1.2.2.2.1.wk (fun q h => Or.inl h)) hr hlk rfl (by rw [ho]; rfl) (by rw [ho]; rfl) dLaw_learnt_17
    · refine W_pc (pc' := 18) rfl ?_
      refine lv_astore_n (lv' := [(3, .ref q), (0, cr α 0 (some 0)), (1, .int x1), (2, .ref bo)]) hx hb dLaw_learnt_18 rfl hl (by decide) rfl (fun ls hl => ?_)
      refine lv_iconst (v := nI 3) hx hb dLaw_learnt_19 (by decide) ?_
      exact l_end C hα hM1 hM1.1 hOt (hM1.2.2.2.1.wk (fun q h => Or.inl h)) hr hlk rfl (by rw [ho]; rfl) (by rw [ho]; rfl) dLaw_learnt_20
  · refine lv_i2l hx hb dLaw_learnt_7 rfl ?_
    refine l_storeJ C hM1 h17 hO hKO hbo hb17 dLaw_learnt_8 (fun H2 locs2 hP2 hO2 hS2 => ?_)
    refine lv_goto (tgt := 21) hx hb dLaw_learnt_9 (by decide) ?_
    refine lv_iconst (v := nI 0) hx hb dLaw_learnt_21 (by decide) ?_
    exact l_end C hα hM1 hP2 hO2 hS2 hr hlk rfl (by rw [ho]; rfl) (by rw [ho]; rfl) dLaw_learnt_22
theorem cwv_postings : cCallV RV 128 (cRn 0) yX11_postings cX11_postings 2 ((some FieldType.int)) 1 := ⟨⟨wl_in (i := 1368) (by decide +kernel), wl_in (i := 1369) (by decide +kernel), wl_in (i := 1370) (by decide +kernel), wl_in (i := 1) (by decide +kernel), wl_in (i := 1371) (by decide +kernel)⟩, rfl, by decide, by decide, by decide +kernel⟩
abbrev rv_postings : Room := ({ frames := 8, cells := 1, slots := 6, locals := 132 } : Room)
set_option maxHeartbeats 4000000 in
set_option maxRecDepth 100000 in
theorem cv_postings (l : Launch) (hst : l.stackTraces = false) (D : va_G) (ca : Nat → ClassId) (A : Nat → Prop) (bo : Nat) (cO : ClassId) (α : cAl) (σ : cS) (f : Nat → Int64) (hbo : ¬ A bo) (hb17 : α 17 0 ≠ bo) (x1 : Int32) (o : (Nat ⊕ Int32) × cS) (h : fc_X11_postings σ x1 = some o) (j : Nat) (hj : ∀ k, o.1 = .inl k → ([4] : List Nat)[j]? = some k) : lMet false l yLaw_postings cLaw_postings 4 (lHh [4] 9 (fun j => ([12] : List Nat).getD j 0)) rv_postings 1 6 D ca A bo α σ [cr α 0 (some 0), .int x1, .ref bo] (lO bo cO f) [(cO, .long)] (lK j o.1) o.2 (lO bo cO (lV (fun x => vp_updL f 0 (x.toInt64)) f o.1)) := by
  refine va_MetW (hh := (lHh [4] 9 (fun j => ([12] : List Nat).getD j 0))) (cc := cLaw_postings) (maxL := 4) (ret := some .int) (by decide) rfl ?_
  intro p e s m args below meth c s₁ B hml hv
  obtain ⟨rfl, ⟨hP, hK, hD0, hSh, hA, hG⟩, hO, hKO, hN⟩ := hv
  have hts := atoms_spec (ws := lWs yLaw_postings cLaw_postings 4 (lHh [4] 9 (fun j => ([12] : List Nat).getD j 0))) B.pre
  have C : cC p s m _ c cLaw_postings 4 RV D ca A α := ⟨B.exec, B.bytes, hml, findClass_of_methodNamed B.named, fun w hw => hts w (List.mem_cons_of_mem _ hw), hK, hG⟩
  have hM : cM D ca true A s.heap σ α σ α s.heap [] := ⟨hP, hD0, hSh, va_S.rf, hA, cX.rf⟩
  have htab := vx_table (x := yLaw_postings) B (hts _ List.mem_cons_self)
  have h17 := c_17 hM
  have hr := B.returns
  have hlk := B.notSynchronized
  have hx := C.1
  have hb := C.2.1
  have hl := lv_entry ([cr α 0 (some 0), .int x1, .ref bo]) (n := 4) (Nat.le_of_ble_eq_true rfl)
  rw [lg_entry_eq]
  generalize (lg_sl ([cr α 0 (some 0), .int x1, .ref bo]) ++ List.replicate (4 - (lg_sl ([cr α 0 (some 0), .int x1, .ref bo])).length) Slot.unset).toArray = ls at hl ⊢
  have hl : lv_has ls 4 [(0, cr α 0 (some 0)), (1, .int x1), (2, .ref bo)] := hl
  refine lv_aload_n hx hb dLaw_postings_0 rfl (lv_at hl 2 rfl) ?_
  refine lv_iconst (v := (0 : Int32)) hx hb dLaw_postings_1 (by decide) ?_
  refine c_aload_n (t := 0) (x := (some 0)) hx hb dLaw_postings_2 rfl (lv_at hl 0 rfl) ?_
  refine lv_iload_n hx hb dLaw_postings_3 rfl (lv_at hl 1 rfl) ?_
  refine l_call (tv := fun v => .int v) (As := [.int x1]) (rest := [.int 0, .ref bo]) C hM (cc_X11_postings l hst D ca A α σ x1 o h) cwv_postings ⟨rfl, rfl⟩ ⟨Nat.le_of_ble_eq_true rfl, Nat.le_of_ble_eq_true rfl⟩ rfl rfl (cats_le _ (Nat.le_of_ble_eq_true rfl)) hl.1 dLaw_postings_4 ⟨Nat.le_of_ble_eq_true rfl, Nat.le_of_ble_eq_true rfl⟩ (fun k q ce H1 locs1 α1 ho hα hM1 h1 h2 h3 => ?_) (fun v H1 locs1 α1 ho hα hM1 => ?_)
  · have hjk := hj k ho
    have hOt := l_out hO (fun q hq => by rw [List.mem_singleton] at hq; rw [hq]; exact hbo) hM1
    refine l_catch (k := k) (j := j) C.2.2.2.1 C.2.2.2.2.1 hG.1.2.2.2 hN htab (by decide) (by decide) (by decide) hjk h1 h2 h3 ?_
    have hjl : j < 1 := (List.getElem?_eq_some_iff.mp hjk).1
    rcases (show j = 0 by omega) with rfl
    · refine W_pc (pc' := 12) rfl ?_
      refine lv_astore_n (lv' := [(3, .ref q), (0, cr α 0 (some 0)), (1, .int x1), (2, .ref bo)]) hx hb dLaw_postings_12 rfl hl (by decide) rfl (fun ls hl => ?_)
      refine lv_iconst (v := nI 1) hx hb dLaw_postings_13 (by decide) ?_
      exact l_end C hα hM1 hM1.1 hOt (hM1.2.2.2.1.wk (fun q h => Or.inl h)) hr hlk rfl (by rw [ho]; rfl) (by rw [ho]; rfl) dLaw_postings_14
  · refine lv_i2l hx hb dLaw_postings_7 rfl ?_
    refine l_storeJ C hM1 h17 hO hKO hbo hb17 dLaw_postings_8 (fun H2 locs2 hP2 hO2 hS2 => ?_)
    refine lv_goto (tgt := 15) hx hb dLaw_postings_9 (by decide) ?_
    refine lv_iconst (v := nI 0) hx hb dLaw_postings_15 (by decide) ?_
    exact l_end C hα hM1 hP2 hO2 hS2 hr hlk rfl (by rw [ho]; rfl) (by rw [ho]; rfl) dLaw_postings_16
theorem cwv_posting : cCallV RV 131 (cRn 0) yX11_posting cX11_posting 4 ((some FieldType.int)) 2 := ⟨⟨wl_in (i := 1375) (by decide +kernel), wl_in (i := 1376) (by decide +kernel), wl_in (i := 1377) (by decide +kernel), wl_in (i := 1) (by decide +kernel), wl_in (i := 1378) (by decide +kernel)⟩, rfl, by decide, by decide, by decide +kernel⟩
abbrev rv_posting : Room := ({ frames := 8, cells := 2, slots := 12, locals := 149 } : Room)
set_option maxHeartbeats 4000000 in
set_option maxRecDepth 100000 in
theorem cv_posting (l : Launch) (hst : l.stackTraces = false) (D : va_G) (ca : Nat → ClassId) (A : Nat → Prop) (bo : Nat) (cO : ClassId) (α : cAl) (σ : cS) (f : Nat → Int64) (hbo : ¬ A bo) (hb17 : α 17 0 ≠ bo) (x1 : Int32) (x2 : Int32) (o : (Nat ⊕ Int32) × cS) (h : fc_X11_posting σ x1 x2 = some o) (j : Nat) (hj : ∀ k, o.1 = .inl k → ([4, 5] : List Nat)[j]? = some k) : lMet false l yLaw_posting cLaw_posting 5 (lHh [4, 5] 10 (fun j => ([13, 17] : List Nat).getD j 0)) rv_posting 2 12 D ca A bo α σ [cr α 0 (some 0), .int x1, .int x2, .ref bo] (lO bo cO f) [(cO, .long)] (lK j o.1) o.2 (lO bo cO (lV (fun x => vp_updL f 0 (x.toInt64)) f o.1)) := by
  refine va_MetW (hh := (lHh [4, 5] 10 (fun j => ([13, 17] : List Nat).getD j 0))) (cc := cLaw_posting) (maxL := 5) (ret := some .int) (by decide) rfl ?_
  intro p e s m args below meth c s₁ B hml hv
  obtain ⟨rfl, ⟨hP, hK, hD0, hSh, hA, hG⟩, hO, hKO, hN⟩ := hv
  have hts := atoms_spec (ws := lWs yLaw_posting cLaw_posting 5 (lHh [4, 5] 10 (fun j => ([13, 17] : List Nat).getD j 0))) B.pre
  have C : cC p s m _ c cLaw_posting 5 RV D ca A α := ⟨B.exec, B.bytes, hml, findClass_of_methodNamed B.named, fun w hw => hts w (List.mem_cons_of_mem _ hw), hK, hG⟩
  have hM : cM D ca true A s.heap σ α σ α s.heap [] := ⟨hP, hD0, hSh, va_S.rf, hA, cX.rf⟩
  have htab := vx_table (x := yLaw_posting) B (hts _ List.mem_cons_self)
  have h17 := c_17 hM
  have hr := B.returns
  have hlk := B.notSynchronized
  have hx := C.1
  have hb := C.2.1
  have hl := lv_entry ([cr α 0 (some 0), .int x1, .int x2, .ref bo]) (n := 5) (Nat.le_of_ble_eq_true rfl)
  rw [lg_entry_eq]
  generalize (lg_sl ([cr α 0 (some 0), .int x1, .int x2, .ref bo]) ++ List.replicate (5 - (lg_sl ([cr α 0 (some 0), .int x1, .int x2, .ref bo])).length) Slot.unset).toArray = ls at hl ⊢
  have hl : lv_has ls 5 [(0, cr α 0 (some 0)), (1, .int x1), (2, .int x2), (3, .ref bo)] := hl
  refine lv_aload_n hx hb dLaw_posting_0 rfl (lv_at hl 3 rfl) ?_
  refine lv_iconst (v := (0 : Int32)) hx hb dLaw_posting_1 (by decide) ?_
  refine c_aload_n (t := 0) (x := (some 0)) hx hb dLaw_posting_2 rfl (lv_at hl 0 rfl) ?_
  refine lv_iload_n hx hb dLaw_posting_3 rfl (lv_at hl 1 rfl) ?_
  refine lv_iload_n hx hb dLaw_posting_4 rfl (lv_at hl 2 rfl) ?_
  refine l_call (tv := fun v => .int v) (As := [.int x1, .int x2]) (rest := [.int 0, .ref bo]) C hM (cc_X11_posting l hst D ca A α σ x1 x2 o h) cwv_posting ⟨rfl, rfl⟩ ⟨Nat.le_of_ble_eq_true rfl, Nat.le_of_ble_eq_true rfl⟩ rfl rfl (cats_le _ (Nat.le_of_ble_eq_true rfl)) hl.1 dLaw_posting_5 ⟨Nat.le_of_ble_eq_true rfl, Nat.le_of_ble_eq_true rfl⟩ (fun k q ce H1 locs1 α1 ho hα hM1 h1 h2 h3 => ?_) (fun v H1 locs1 α1 ho hα hM1 => ?_)
  · have hjk := hj k ho
    have hOt := l_out hO (fun q hq => by rw [List.mem_singleton] at hq; rw [hq]; exact hbo) hM1
    refine l_catch (k := k) (j := j) C.2.2.2.1 C.2.2.2.2.1 hG.1.2.2.2 hN htab (by decide) (by decide) (by decide) hjk h1 h2 h3 ?_
    have hjl : j < 2 := (List.getElem?_eq_some_iff.mp hjk).1
    rcases (show j = 0 ∨ j = 1 by omega) with rfl | rfl
    · refine W_pc (pc' := 13) rfl ?_
      refine lv_astore (lv' := [(4, .ref q), (0, cr α 0 (some 0)), (1, .int x1), (2, .int x2), (3, .ref bo)]) hx hb dLaw_posting_13 hl (by decide) rfl (fun ls hl => ?_)
      refine lv_iconst (v := nI 1) hx hb dLaw_posting_15 (by decide) ?_
      exact l_end C hα hM1 hM1.1 hOt (hM1.2.2.2.1.wk (fun q h => Or.inl h)) hr hlk rfl (by rw [ho]; rfl) (by rw [ho]; rfl) dLaw_posting_16
    · refine W_pc (pc' := 17) rfl ?_
      refine lv_astore (lv' := [(4, .ref q), (0, cr α 0 (some 0)), (1, .int x1), (2, .int x2), (3, .ref bo)]) hx hb dLaw_posting_17 hl (by decide) rfl (fun ls hl => ?_)
      refine lv_iconst (v := nI 2) hx hb dLaw_posting_19 (by decide) ?_
      exact l_end C hα hM1 hM1.1 hOt (hM1.2.2.2.1.wk (fun q h => Or.inl h)) hr hlk rfl (by rw [ho]; rfl) (by rw [ho]; rfl) dLaw_posting_20
  · refine lv_i2l hx hb dLaw_posting_8 rfl ?_
    refine l_storeJ C hM1 h17 hO hKO hbo hb17 dLaw_posting_9 (fun H2 locs2 hP2 hO2 hS2 => ?_)
    refine lv_goto (tgt := 21) hx hb dLaw_posting_10 (by decide) ?_
    refine lv_iconst (v := nI 0) hx hb dLaw_posting_21 (by decide) ?_
    exact l_end C hα hM1 hP2 hO2 hS2 hr hlk rfl (by rw [ho]; rfl) (by rw [ho]; rfl) dLaw_posting_22
theorem cwv_rare : cCallV RV 134 (cRn 0) yX11_rare cX11_rare 3 ((some FieldType.int)) 1 := ⟨⟨wl_in (i := 1387) (by decide +kernel), wl_in (i := 1388) (by decide +kernel), wl_in (i := 1389) (by decide +kernel), wl_in (i := 1) (by decide +kernel), wl_in (i := 1390) (by decide +kernel)⟩, rfl, by decide, by decide, by decide +kernel⟩
abbrev rv_rare : Room := ({ frames := 8, cells := 2, slots := 12, locals := 144 } : Room)
set_option maxHeartbeats 4000000 in
set_option maxRecDepth 100000 in
theorem cv_rare (l : Launch) (hst : l.stackTraces = false) (D : va_G) (ca : Nat → ClassId) (A : Nat → Prop) (bo : Nat) (cO : ClassId) (α : cAl) (σ : cS) (f : Nat → Int64) (hbo : ¬ A bo) (hb17 : α 17 0 ≠ bo) (x1 : Int32) (o : (Nat ⊕ Int32) × cS) (h : fc_X11_rare σ x1 = some o) (j : Nat) (hj : ∀ k, o.1 = .inl k → ([2, 5] : List Nat)[j]? = some k) : lMet false l yLaw_rare cLaw_rare 4 (lHh [2, 5] 9 (fun j => ([12, 15] : List Nat).getD j 0)) rv_rare 2 12 D ca A bo α σ [cr α 0 (some 0), .int x1, .ref bo] (lO bo cO f) [(cO, .long)] (lK j o.1) o.2 (lO bo cO (lV (fun x => vp_updL f 0 (x.toInt64)) f o.1)) := by
  refine va_MetW (hh := (lHh [2, 5] 9 (fun j => ([12, 15] : List Nat).getD j 0))) (cc := cLaw_rare) (maxL := 4) (ret := some .int) (by decide) rfl ?_
  intro p e s m args below meth c s₁ B hml hv
  obtain ⟨rfl, ⟨hP, hK, hD0, hSh, hA, hG⟩, hO, hKO, hN⟩ := hv
  have hts := atoms_spec (ws := lWs yLaw_rare cLaw_rare 4 (lHh [2, 5] 9 (fun j => ([12, 15] : List Nat).getD j 0))) B.pre
  have C : cC p s m _ c cLaw_rare 4 RV D ca A α := ⟨B.exec, B.bytes, hml, findClass_of_methodNamed B.named, fun w hw => hts w (List.mem_cons_of_mem _ hw), hK, hG⟩
  have hM : cM D ca true A s.heap σ α σ α s.heap [] := ⟨hP, hD0, hSh, va_S.rf, hA, cX.rf⟩
  have htab := vx_table (x := yLaw_rare) B (hts _ List.mem_cons_self)
  have h17 := c_17 hM
  have hr := B.returns
  have hlk := B.notSynchronized
  have hx := C.1
  have hb := C.2.1
  have hl := lv_entry ([cr α 0 (some 0), .int x1, .ref bo]) (n := 4) (Nat.le_of_ble_eq_true rfl)
  rw [lg_entry_eq]
  generalize (lg_sl ([cr α 0 (some 0), .int x1, .ref bo]) ++ List.replicate (4 - (lg_sl ([cr α 0 (some 0), .int x1, .ref bo])).length) Slot.unset).toArray = ls at hl ⊢
  have hl : lv_has ls 4 [(0, cr α 0 (some 0)), (1, .int x1), (2, .ref bo)] := hl
  refine lv_aload_n hx hb dLaw_rare_0 rfl (lv_at hl 2 rfl) ?_
  refine lv_iconst (v := (0 : Int32)) hx hb dLaw_rare_1 (by decide) ?_
  refine c_aload_n (t := 0) (x := (some 0)) hx hb dLaw_rare_2 rfl (lv_at hl 0 rfl) ?_
  refine lv_iload_n hx hb dLaw_rare_3 rfl (lv_at hl 1 rfl) ?_
  refine l_call (tv := fun v => .int v) (As := [.int x1]) (rest := [.int 0, .ref bo]) C hM (cc_X11_rare l hst D ca A α σ x1 o h) cwv_rare ⟨rfl, rfl⟩ ⟨Nat.le_of_ble_eq_true rfl, Nat.le_of_ble_eq_true rfl⟩ rfl rfl (cats_le _ (Nat.le_of_ble_eq_true rfl)) hl.1 dLaw_rare_4 ⟨Nat.le_of_ble_eq_true rfl, Nat.le_of_ble_eq_true rfl⟩ (fun k q ce H1 locs1 α1 ho hα hM1 h1 h2 h3 => ?_) (fun v H1 locs1 α1 ho hα hM1 => ?_)
  · have hjk := hj k ho
    have hOt := l_out hO (fun q hq => by rw [List.mem_singleton] at hq; rw [hq]; exact hbo) hM1
    refine l_catch (k := k) (j := j) C.2.2.2.1 C.2.2.2.2.1 hG.1.2.2.2 hN htab (by decide) (by decide) (by decide) hjk h1 h2 h3 ?_
    have hjl : j < 2 := (List.getElem?_eq_some_iff.mp hjk).1
    rcases (show j = 0 ∨ j = 1 by omega) with rfl | rfl
    · refine W_pc (pc' := 12) rfl ?_
      refine lv_astore_n (lv' := [(3, .ref q), (0, cr α 0 (some 0)), (1, .int x1), (2, .ref bo)]) hx hb dLaw_rare_12 rfl hl (by decide) rfl (fun ls hl => ?_)
      refine lv_iconst (v := nI 1) hx hb dLaw_rare_13 (by decide) ?_
      exact l_end C hα hM1 hM1.1 hOt (hM1.2.2.2.1.wk (fun q h => Or.inl h)) hr hlk rfl (by rw [ho]; rfl) (by rw [ho]; rfl) dLaw_rare_14
    · refine W_pc (pc' := 15) rfl ?_
      refine lv_astore_n (lv' := [(3, .ref q), (0, cr α 0 (some 0)), (1, .int x1), (2, .ref bo)]) hx hb dLaw_rare_15 rfl hl (by decide) rfl (fun ls hl => ?_)
      refine lv_iconst (v := nI 2) hx hb dLaw_rare_16 (by decide) ?_
      exact l_end C hα hM1 hM1.1 hOt (hM1.2.2.2.1.wk (fun q h => Or.inl h)) hr hlk rfl (by rw [ho]; rfl) (by rw [ho]; rfl) dLaw_rare_17
  · refine lv_i2l hx hb dLaw_rare_7 rfl ?_
    refine l_storeJ C hM1 h17 hO hKO hbo hb17 dLaw_rare_8 (fun H2 locs2 hP2 hO2 hS2 => ?_)
    refine lv_goto (tgt := 18) hx hb dLaw_rare_9 (by decide) ?_
    refine lv_iconst (v := nI 0) hx hb dLaw_rare_18 (by decide) ?_
    exact l_end C hα hM1 hP2 hO2 hS2 hr hlk rfl (by rw [ho]; rfl) (by rw [ho]; rfl) dLaw_rare_19
theorem cwv_price : cCallV RV 137 (cRn 0) yX11_price cX11_price 2 ((some FieldType.int)) 1 := ⟨⟨wl_in (i := 1402) (by decide +kernel), wl_in (i := 1403) (by decide +kernel), wl_in (i := 1404) (by decide +kernel), wl_in (i := 1) (by decide +kernel), wl_in (i := 1405) (by decide +kernel)⟩, rfl, by decide, by decide, by decide +kernel⟩
abbrev rv_price : Room := ({ frames := 8, cells := 3, slots := 18, locals := 175 } : Room)
set_option maxHeartbeats 4000000 in
set_option maxRecDepth 100000 in
theorem cv_price (l : Launch) (hst : l.stackTraces = false) (D : va_G) (ca : Nat → ClassId) (A : Nat → Prop) (bo : Nat) (cO : ClassId) (α : cAl) (σ : cS) (f : Nat → Int64) (hbo : ¬ A bo) (hb17 : α 17 0 ≠ bo) (x1 : Int32) (o : (Nat ⊕ Int32) × cS) (h : fc_X11_price σ x1 = some o) (j : Nat) (hj : ∀ k, o.1 = .inl k → ([4, 2, 3] : List Nat)[j]? = some k) : lMet false l yLaw_price cLaw_price 4 (lHh [4, 2, 3] 9 (fun j => ([12, 15, 18] : List Nat).getD j 0)) rv_price 3 18 D ca A bo α σ [cr α 0 (some 0), .int x1, .ref bo] (lO bo cO f) [(cO, .long)] (lK j o.1) o.2 (lO bo cO (lV (fun x => vp_updL f 0 (x.toInt64)) f o.1)) := by
  refine va_MetW (hh := (lHh [4, 2, 3] 9 (fun j => ([12, 15, 18] : List Nat).getD j 0))) (cc := cLaw_price) (maxL := 4) (ret := some .int) (by decide) rfl ?_
  intro p e s m args below meth c s₁ B hml hv
  obtain ⟨rfl, ⟨hP, hK, hD0, hSh, hA, hG⟩, hO, hKO, hN⟩ := hv
  have hts := atoms_spec (ws := lWs yLaw_price cLaw_price 4 (lHh [4, 2, 3] 9 (fun j => ([12, 15, 18] : List Nat).getD j 0))) B.pre
  have C : cC p s m _ c cLaw_price 4 RV D ca A α := ⟨B.exec, B.bytes, hml, findClass_of_methodNamed B.named, fun w hw => hts w (List.mem_cons_of_mem _ hw), hK, hG⟩
  have hM : cM D ca true A s.heap σ α σ α s.heap [] := ⟨hP, hD0, hSh, va_S.rf, hA, cX.rf⟩
  have htab := vx_table (x := yLaw_price) B (hts _ List.mem_cons_self)
  have h17 := c_17 hM
  have hr := B.returns
  have hlk := B.notSynchronized
  have hx := C.1
  have hb := C.2.1
  have hl := lv_entry ([cr α 0 (some 0), .int x1, .ref bo]) (n := 4) (Nat.le_of_ble_eq_true rfl)
  rw [lg_entry_eq]
  generalize (lg_sl ([cr α 0 (some 0), .int x1, .ref bo]) ++ List.replicate (4 - (lg_sl ([cr α 0 (some 0), .int x1, .ref bo])).length) Slot.unset).toArray = ls at hl ⊢
  have hl : lv_has ls 4 [(0, cr α 0 (some 0)), (1, .int x1), (2, .ref bo)] := hl
  refine lv_aload_n hx hb dLaw_price_0 rfl (lv_at hl 2 rfl) ?_
  refine lv_iconst (v := (0 : Int32)) hx hb dLaw_price_1 (by decide) ?_
  refine c_aload_n (t := 0) (x := (some 0)) hx hb dLaw_price_2 rfl (lv_at hl 0 rfl) ?_
  refine lv_iload_n hx hb dLaw_price_3 rfl (lv_at hl 1 rfl) ?_
  refine l_call (tv := fun v => .int v) (As := [.int x1]) (rest := [.int 0, .ref bo]) C hM (cc_X11_price l hst D ca A α σ x1 o h) cwv_price ⟨rfl, rfl⟩ ⟨Nat.le_of_ble_eq_true rfl, Nat.le_of_ble_eq_true rfl⟩ rfl rfl (cats_le _ (Nat.le_of_ble_eq_true rfl)) hl.1 dLaw_price_4 ⟨Nat.le_of_ble_eq_true rfl, Nat.le_of_ble_eq_true rfl⟩ (fun k q ce H1 locs1 α1 ho hα hM1 h1 h2 h3 => ?_) (fun v H1 locs1 α1 ho hα hM1 => ?_)
  · have hjk := hj k ho
    have hOt := l_out hO (fun q hq => by rw [List.mem_singleton] at hq; rw [hq]; exact hbo) hM1
    refine l_catch (k := k) (j := j) C.2.2.2.1 C.2.2.2.2.1 hG.1.2.2.2 hN htab (by decide) (by decide) (by decide) hjk h1 h2 h3 ?_
    have hjl : j < 3 := (List.getElem?_eq_some_iff.mp hjk).1
    rcases (show j = 0 ∨ j = 1 ∨ j = 2 by omega) with rfl | rfl | rfl
    · refine W_pc (pc' := 12) rfl ?_
      refine lv_astore_n (lv' := [(3, .ref q), (0, cr α 0 (some 0)), (1, .int x1), (2, .ref bo)]) hx hb dLaw_price_12 rfl hl (by decide) rfl (fun ls hl => ?_)
      refine lv_iconst (v := nI 1) hx hb dLaw_price_13 (by decide) ?_
      exact l_end C hα hM1 hM1.1 hOt (hM1.2.2.2.1.wk (fun q h => Or.inl h)) hr hlk rfl (by rw [ho]; rfl) (by rw [ho]; rfl) dLaw_price_14
    · refine W_pc (pc' := 15) rfl ?_
      refine lv_astore_n (lv' := [(3, .ref q), (0, cr α 0 (some 0)), (1, .int x1), (2, .ref bo)]) hx hb dLaw_price_15 rfl hl (by decide) rfl (fun ls hl => ?_)
      refine lv_iconst (v := nI 2) hx hb dLaw_price_16 (by decide) ?_
      exact l_end C hα hM1 hM1.1 hOt (hM1.2.2.2.1.wk (fun q h => Or.inl h)) hr hlk rfl (by rw [ho]; rfl) (by rw [ho]; rfl) dLaw_price_17
    · refine W_pc (pc' := 18) rfl ?_
      refine lv_astore_n (lv' := [(3, .ref q), (0, cr α 0 (some 0)), (1, .int x1), (2, .ref bo)]) hx hb dLaw_price_18 rfl hl (by decide) rfl (fun ls hl => ?_)
      refine lv_iconst (v := nI 3) hx hb dLaw_price_19 (by decide) ?_
      exact l_end C hα hM1 hM1.1 hOt (hM1.2.2.2.1.wk (fun q h => Or.inl h)) hr hlk rfl (by rw [ho]; rfl) (by rw [ho]; rfl) dLaw_price_20
  · refine lv_i2l hx hb dLaw_price_7 rfl ?_
    refine l_storeJ C hM1 h17 hO hKO hbo hb17 dLaw_price_8 (fun H2 locs2 hP2 hO2 hS2 => ?_)
    refine lv_goto (tgt := 21) hx hb dLaw_price_9 (by decide) ?_
    refine lv_iconst (v := nI 0) hx hb dLaw_price_21 (by decide) ?_
    exact l_end C hα hM1 hP2 hO2 hS2 hr hlk rfl (by rw [ho]; rfl) (by rw [ho]; rfl) dLaw_price_22
theorem cwv_buy : cCallV RV 140 (cRn 0) yX11_buy cX11_buy 3 ((some FieldType.int)) 1 := ⟨⟨wl_in (i := 1429) (by decide +kernel), wl_in (i := 1430) (by decide +kernel), wl_in (i := 1431) (by decide +kernel), wl_in (i := 1) (by decide +kernel), wl_in (i := 1432) (by decide +kernel)⟩, rfl, by decide, by decide, by decide +kernel⟩
abbrev rv_buy : Room := ({ frames := 11, cells := 12, slots := 470, locals := 299 } : Room)
set_option maxHeartbeats 4000000 in
set_option maxRecDepth 100000 in
theorem cv_buy (l : Launch) (hst : l.stackTraces = false) (D : va_G) (ca : Nat → ClassId) (A : Nat → Prop) (bo : Nat) (cO : ClassId) (α : cAl) (σ : cS) (f : Nat → Int64) (hbo : ¬ A bo) (hb17 : α 17 0 ≠ bo) (x1 : Int32) (o : (Nat ⊕ Int32) × cS) (h : fc_X11_buy σ x1 = some o) (j : Nat) (hj : ∀ k, o.1 = .inl k → ([4, 2, 3, 5] : List Nat)[j]? = some k) : lMet true l yLaw_buy cLaw_buy 4 (lHh [4, 2, 3, 5] 9 (fun j => ([12, 15, 18, 21] : List Nat).getD j 0)) rv_buy 12 470 D ca A bo α σ [cr α 0 (some 0), .int x1, .ref bo] (lO bo cO f) [(cO, .long)] (lK j o.1) o.2 (lO bo cO (lV (fun x => vp_updL f 0 (x.toInt64)) f o.1)) := by
  refine va_MetW (hh := (lHh [4, 2, 3, 5] 9 (fun j => ([12, 15, 18, 21] : List Nat).getD j 0))) (cc := cLaw_buy) (maxL := 4) (ret := some .int) (by decide) rfl ?_
  intro p e s m args below meth c s₁ B hml hv
  obtain ⟨rfl, ⟨hP, hK, hD0, hSh, hA, hG⟩, hO, hKO, hN⟩ := hv
  have hts := atoms_spec (ws := lWs yLaw_buy cLaw_buy 4 (lHh [4, 2, 3, 5] 9 (fun j => ([12, 15, 18, 21] : List Nat).getD j 0))) B.pre
  have C : cC p s m _ c cLaw_buy 4 RV D ca A α := ⟨B.exec, B.bytes, hml, findClass_of_methodNamed B.named, fun w hw => hts w (List.mem_cons_of_mem _ hw), hK, hG⟩
  have hM : cM D ca true A s.heap σ α σ α s.heap [] := ⟨hP, hD0, hSh, va_S.rf, hA, cX.rf⟩
  have htab := vx_table (x := yLaw_buy) B (hts _ List.mem_cons_self)
  have h17 := c_17 hM
  have hr := B.returns
  have hlk := B.notSynchronized
  have hx := C.1
  have hb := C.2.1
  have hl := lv_entry ([cr α 0 (some 0), .int x1, .ref bo]) (n := 4) (Nat.le_of_ble_eq_true rfl)
  rw [lg_entry_eq]
  generalize (lg_sl ([cr α 0 (some 0), .int x1, .ref bo]) ++ List.replicate (4 - (lg_sl ([cr α 0 (some 0), .int x1, .ref bo])).length) Slot.unset).toArray = ls at hl ⊢
  have hl : lv_has ls 4 [(0, cr α 0 (some 0)), (1, .int x1), (2, .ref bo)] := hl
  refine lv_aload_n hx hb dLaw_buy_0 rfl (lv_at hl 2 rfl) ?_
  refine lv_iconst (v := (0 : Int32)) hx hb dLaw_buy_1 (by decide) ?_
  refine c_aload_n (t := 0) (x := (some 0)) hx hb dLaw_buy_2 rfl (lv_at hl 0 rfl) ?_
  refine lv_iload_n hx hb dLaw_buy_3 rfl (lv_at hl 1 rfl) ?_
  refine l_call (tv := fun v => .int v) (As := [.int x1]) (rest := [.int 0, .ref bo]) C hM (cc_X11_buy l hst D ca A α σ x1 o h) cwv_buy ⟨rfl, rfl⟩ ⟨Nat.le_of_ble_eq_true rfl, Nat.le_of_ble_eq_true rfl⟩ rfl rfl (cats_le _ (Nat.le_of_ble_eq_true rfl)) hl.1 dLaw_buy_4 ⟨Nat.le_of_ble_eq_true rfl, Nat.le_of_ble_eq_true rfl⟩ (fun k q ce H1 locs1 α1 ho hα hM1 h1 h2 h3 => ?_) (fun v H1 locs1 α1 ho hα hM1 => ?_)
  · have hjk := hj k ho
    have hOt := l_out hO (fun q hq => by rw [List.mem_singleton] at hq; rw [hq]; exact hbo) hM1
    refine l_catch (k := k) (j := j) C.2.2.2.1 C.2.2.2.2.1 hG.1.2.2.2 hN htab (by decide) (by decide) (by decide) hjk h1 h2 h3 ?_
    have hjl : j < 4 := (List.getElem?_eq_some_iff.mp hjk).1
    rcases (show j = 0 ∨ j = 1 ∨ j = 2 ∨ j = 3 by omega) with rfl | rfl | rfl | rfl
    · refine W_pc (pc' := 12) rfl ?_
      refine lv_astore_n (lv' := [(3, .ref q), (0, cr α 0 (some 0)), (1, .int x1), (2, .ref bo)]) hx hb dLaw_buy_12 rfl hl (by decide) rfl (fun ls hl => ?_)
      refine lv_iconst (v := nI 1) hx hb dLaw_buy_13 (by decide) ?_
      exact l_end C hα hM1 hM1.1 hOt (hM1.2.2.2.1.wk (fun q h => Or.inl h)) hr hlk rfl (by rw [ho]; rfl) (by rw [ho]; rfl) dLaw_buy_14
    · refine W_pc (pc' := 15) rfl ?_
      refine lv_astore_n (lv' := [(3, .ref q), (0, cr α 0 (some 0)), (1, .int x1), (2, .ref bo)]) hx hb dLaw_buy_15 rfl hl (by decide) rfl (fun ls hl => ?_)
      refine lv_iconst (v := nI 2) hx hb dLaw_buy_16 (by decide) ?_
      exact l_end C hα hM1 hM1.1 hOt (hM1.2.2.2.1.wk (fun q h => Or.inl h)) hr hlk rfl (by rw [ho]; rfl) (by rw [ho]; rfl) dLaw_buy_17
    · refine W_pc (pc' := 18) rfl ?_
      refine lv_astore_n (lv' := [(3, .ref q), (0, cr α 0 (some 0)), (1, .int x1), (2, .ref bo)]) hx hb dLaw_buy_18 rfl hl (by decide) rfl (fun ls hl => ?_)
      refine lv_iconst (v := nI 3) hx hb dLaw_buy_19 (by decide) ?_
      exact l_end C hα hM1 hM1.1 hOt (hM1.2.2.2.1.wk (fun q h => Or.inl h)) hr hlk rfl (by rw [ho]; rfl) (by rw [ho]; rfl) dLaw_buy_20
    · refine W_pc (pc' := 21) rfl ?_
      refine lv_astore_n (lv' := [(3, .ref q), (0, cr α 0 (some 0)), (1, .int x1), (2, .ref bo)]) hx hb dLaw_buy_21 rfl hl (by decide) rfl (fun ls hl => ?_)
      refine lv_iconst (v := nI 4) hx hb dLaw_buy_22 (by decide) ?_
      exact l_end C hα hM1 hM1.1 hOt (hM1.2.2.2.1.wk (fun q h => Or.inl h)) hr hlk rfl (by rw [ho]; rfl) (by rw [ho]; rfl) dLaw_buy_23
  · refine lv_i2l hx hb dLaw_buy_7 rfl ?_
    refine l_storeJ C hM1 h17 hO hKO hbo hb17 dLaw_buy_8 (fun H2 locs2 hP2 hO2 hS2 => ?_)
    refine lv_goto (tgt := 24) hx hb dLaw_buy_9 (by decide) ?_
    refine lv_iconst (v := nI 0) hx hb dLaw_buy_24 (by decide) ?_
    exact l_end C hα hM1 hP2 hO2 hS2 hr hlk rfl (by rw [ho]; rfl) (by rw [ho]; rfl) dLaw_buy_25
theorem cwv_isOwned : cCallV RV 143 (cRn 0) yX11_isOwned cX11_isOwned 2 ((some FieldType.boolean)) 1 := ⟨⟨wl_in (i := 1464) (by decide +kernel), wl_in (i := 1465) (by decide +kernel), wl_in (i := 1466) (by decide +kernel), wl_in (i := 1) (by decide +kernel), wl_in (i := 1467) (by decide +kernel)⟩, rfl, by decide, by decide, by decide +kernel⟩
abbrev rv_isOwned : Room := ({ frames := 8, cells := 2, slots := 12, locals := 147 } : Room)
set_option maxHeartbeats 4000000 in
set_option maxRecDepth 100000 in
theorem cv_isOwned (l : Launch) (hst : l.stackTraces = false) (D : va_G) (ca : Nat → ClassId) (A : Nat → Prop) (bo : Nat) (cO : ClassId) (α : cAl) (σ : cS) (f : Nat → Int64) (hbo : ¬ A bo) (hb17 : α 17 0 ≠ bo) (x1 : Int32) (o : (Nat ⊕ Int32) × cS) (h : fc_X11_isOwned σ x1 = some o) (j : Nat) (hj : ∀ k, o.1 = .inl k → ([4, 2] : List Nat)[j]? = some k) : lMet false l yLaw_isOwned cLaw_isOwned 4 (lHh [4, 2] 16 (fun j => ([19, 22] : List Nat).getD j 0)) rv_isOwned 2 12 D ca A bo α σ [cr α 0 (some 0), .int x1, .ref bo] (lO bo cO f) [(cO, .long)] (lK j o.1) o.2 (lO bo cO (lV (fun x => vp_updL f 0 (if x = 0 then 0 else 1)) f o.1)) := by
  refine va_MetW (hh := (lHh [4, 2] 16 (fun j => ([19, 22] : List Nat).getD j 0))) (cc := cLaw_isOwned) (maxL := 4) (ret := some .int) (by decide) rfl ?_
  intro p e s m args below meth c s₁ B hml hv
  obtain ⟨rfl, ⟨hP, hK, hD0, hSh, hA, hG⟩, hO, hKO, hN⟩ := hv
  have hts := atoms_spec (ws := lWs yLaw_isOwned cLaw_isOwned 4 (lHh [4, 2] 16 (fun j => ([19, 22] : List Nat).getD j 0))) B.pre
  have C : cC p s m _ c cLaw_isOwned 4 RV D ca A α := ⟨B.exec, B.bytes, hml, findClass_of_methodNamed B.named, fun w hw => hts w (List.mem_cons_of_mem _ hw), hK, hG⟩
  have hM : cM D ca true A s.heap σ α σ α s.heap [] := ⟨hP, hD0, hSh, va_S.rf, hA, cX.rf⟩
  have htab := vx_table (x := yLaw_isOwned) B (hts _ List.mem_cons_self)
  have h17 := c_17 hM
  have hr := B.returns
  have hlk := B.notSynchronized
  have hx := C.1
  have hb := C.2.1
  have hl := lv_entry ([cr α 0 (some 0), .int x1, .ref bo]) (n := 4) (Nat.le_of_ble_eq_true rfl)
  rw [lg_entry_eq]
  generalize (lg_sl ([cr α 0 (some 0), .int x1, .ref bo]) ++ List.replicate (4 - (lg_sl ([cr α 0 (some 0), .int x1, .ref bo])).length) Slot.unset).toArray = ls at hl ⊢
  have hl : lv_has ls 4 [(0, cr α 0 (some 0)), (1, .int x1), (2, .ref bo)] := hl
  refine lv_aload_n hx hb dLaw_isOwned_0 rfl (lv_at hl 2 rfl) ?_
  refine lv_iconst (v := (0 : Int32)) hx hb dLaw_isOwned_1 (by decide) ?_
  refine c_aload_n (t := 0) (x := (some 0)) hx hb dLaw_isOwned_2 rfl (lv_at hl 0 rfl) ?_
  refine lv_iload_n hx hb dLaw_isOwned_3 rfl (lv_at hl 1 rfl) ?_
  refine l_call (tv := fun v => .int v) (As := [.int x1]) (rest := [.int 0, .ref bo]) C hM (cc_X11_isOwned l hst D ca A α σ x1 o h) cwv_isOwned ⟨rfl, rfl⟩ ⟨Nat.le_of_ble_eq_true rfl, Nat.le_of_ble_eq_true rfl⟩ rfl rfl (cats_le _ (Nat.le_of_ble_eq_true rfl)) hl.1 dLaw_isOwned_4 ⟨Nat.le_of_ble_eq_true rfl, Nat.le_of_ble_eq_true rfl⟩ (fun k q ce H1 locs1 α1 ho hα hM1 h1 h2 h3 => ?_) (fun v H1 locs1 α1 ho hα hM1 => ?_)
  · have hjk := hj k ho
    have hOt := l_out hO (fun q hq => by rw [List.mem_singleton] at hq; rw [hq]; exact hbo) hM1
    refine l_catch (k := k) (j := j) C.2.2.2.1 C.2.2.2.2.1 hG.1.2.2.2 hN htab (by decide) (by decide) (by decide) hjk h1 h2 h3 ?_
    have hjl : j < 2 := (List.getElem?_eq_some_iff.mp hjk).1
    rcases (show j = 0 ∨ j = 1 by omega) with rfl | rfl
    · refine W_pc (pc' := 19) rfl ?_
      refine lv_astore_n (lv' := [(3, .ref q), (0, cr α 0 (some 0)), (1, .int x1), (2, .ref bo)]) hx hb dLaw_isOwned_19 rfl hl (by decide) rfl (fun ls hl => ?_)
      refine lv_iconst (v := nI 1) hx hb dLaw_isOwned_20 (by decide) ?_
      exact l_end C hα hM1 hM1.1 hOt (hM1.2.2.2.1.wk (fun q h => Or.inl h)) hr hlk rfl (by rw [ho]; rfl) (by rw [ho]; rfl) dLaw_isOwned_21
    · refine W_pc (pc' := 22) rfl ?_
      refine lv_astore_n (lv' := [(3, .ref q), (0, cr α 0 (some 0)), (1, .int x1), (2, .ref bo)]) hx hb dLaw_isOwned_22 rfl hl (by decide) rfl (fun ls hl => ?_)
      refine lv_iconst (v := nI 2) hx hb dLaw_isOwned_23 (by decide) ?_
      exact l_end C hα hM1 hM1.1 hOt (hM1.2.2.2.1.wk (fun q h => Or.inl h)) hr hlk rfl (by rw [ho]; rfl) (by rw [ho]; rfl) dLaw_isOwned_24
  · refine lv_if_eq (tgt := 14) hx hb dLaw_isOwned_7 (by decide) (fun c_1 => ?_) (fun c_1 => ?_)
    · refine lv_lconst (v := (0 : Int64)) hx hb dLaw_isOwned_14 (by decide) ?_
      refine l_storeJ C hM1 h17 hO hKO hbo hb17 dLaw_isOwned_15 (fun H2 locs2 hP2 hO2 hS2 => ?_)
      refine lv_goto (tgt := 25) hx hb dLaw_isOwned_16 (by decide) ?_
      refine lv_iconst (v := nI 0) hx hb dLaw_isOwned_25 (by decide) ?_
      exact l_end C hα hM1 hP2 hO2 hS2 hr hlk rfl (by rw [ho]; rfl) (by rw [ho]; show _ = lO bo cO (vp_updL f 0 (if v = 0 then 0 else 1)); rw [if_pos c_1]) dLaw_isOwned_26
    · refine lv_lconst (v := (1 : Int64)) hx hb dLaw_isOwned_10 (by decide) ?_
      refine lv_goto (tgt := 15) hx hb dLaw_isOwned_11 (by decide) ?_
      refine l_storeJ C hM1 h17 hO hKO hbo hb17 dLaw_isOwned_15 (fun H2 locs2 hP2 hO2 hS2 => ?_)
      refine lv_goto (tgt := 25) hx hb dLaw_isOwned_16 (by decide) ?_
      refine lv_iconst (v := nI 0) hx hb dLaw_isOwned_25 (by decide) ?_
      exact l_end C hα hM1 hP2 hO2 hS2 hr hlk rfl (by rw [ho]; rfl) (by rw [ho]; show _ = lO bo cO (vp_updL f 0 (if v = 0 then 0 else 1)); rw [if_neg c_1]) dLaw_isOwned_26
theorem cwv_read : cCallV RV 146 (cRn 0) yX11_read cX11_read 3 ((some FieldType.int)) 1 := ⟨⟨wl_in (i := 1471) (by decide +kernel), wl_in (i := 1472) (by decide +kernel), wl_in (i := 1473) (by decide +kernel), wl_in (i := 1) (by decide +kernel), wl_in (i := 1474) (by decide +kernel)⟩, rfl, by decide, by decide, by decide +kernel⟩
abbrev rv_read : Room := ({ frames := 11, cells := 10, slots := 267, locals := 299 } : Room)
set_option maxHeartbeats 4000000 in
set_option maxRecDepth 100000 in
theorem cv_read (l : Launch) (hst : l.stackTraces = false) (D : va_G) (ca : Nat → ClassId) (A : Nat → Prop) (bo : Nat) (cO : ClassId) (α : cAl) (σ : cS) (f : Nat → Int64) (hbo : ¬ A bo) (hb17 : α 17 0 ≠ bo) (x1 : Int32) (o : (Nat ⊕ Int32) × cS) (h : fc_X11_read σ x1 = some o) (j : Nat) (hj : ∀ k, o.1 = .inl k → ([4, 2, 3] : List Nat)[j]? = some k) : lMet true l yLaw_read cLaw_read 4 (lHh [4, 2, 3] 9 (fun j => ([12, 15, 18] : List Nat).getD j 0)) rv_read 10 267 D ca A bo α σ [cr α 0 (some 0), .int x1, .ref bo] (lO bo cO f) [(cO, .long)] (lK j o.1) o.2 (lO bo cO (lV (fun x => vp_updL f 0 (x.toInt64)) f o.1)) := by
  refine va_MetW (hh := (lHh [4, 2, 3] 9 (fun j => ([12, 15, 18] : List Nat).getD j 0))) (cc := cLaw_read) (maxL := 4) (ret := some .int) (by decide) rfl ?_
  intro p e s m args below meth c s₁ B hml hv
  obtain ⟨rfl, ⟨hP, hK, hD0, hSh, hA, hG⟩, hO, hKO, hN⟩ := hv
  have hts := atoms_spec (ws := lWs yLaw_read cLaw_read 4 (lHh [4, 2, 3] 9 (fun j => ([12, 15, 18] : List Nat).getD j 0))) B.pre
  have C : cC p s m _ c cLaw_read 4 RV D ca A α := ⟨B.exec, B.bytes, hml, findClass_of_methodNamed B.named, fun w hw => hts w (List.mem_cons_of_mem _ hw), hK, hG⟩
  have hM : cM D ca true A s.heap σ α σ α s.heap [] := ⟨hP, hD0, hSh, va_S.rf, hA, cX.rf⟩
  have htab := vx_table (x := yLaw_read) B (hts _ List.mem_cons_self)
  have h17 := c_17 hM
  have hr := B.returns
  have hlk := B.notSynchronized
  have hx := C.1
  have hb := C.2.1
  have hl := lv_entry ([cr α 0 (some 0), .int x1, .ref bo]) (n := 4) (Nat.le_of_ble_eq_true rfl)
  rw [lg_entry_eq]
  generalize (lg_sl ([cr α 0 (some 0), .int x1, .ref bo]) ++ List.replicate (4 - (lg_sl ([cr α 0 (some 0), .int x1, .ref bo])).length) Slot.unset).toArray = ls at hl ⊢
  have hl : lv_has ls 4 [(0, cr α 0 (some 0)), (1, .int x1), (2, .ref bo)] := hl
  refine lv_aload_n hx hb dLaw_read_0 rfl (lv_at hl 2 rfl) ?_
  refine lv_iconst (v := (0 : Int32)) hx hb dLaw_read_1 (by decide) ?_
  refine c_aload_n (t := 0) (x := (some 0)) hx hb dLaw_read_2 rfl (lv_at hl 0 rfl) ?_
  refine lv_iload_n hx hb dLaw_read_3 rfl (lv_at hl 1 rfl) ?_
  refine l_call (tv := fun v => .int v) (As := [.int x1]) (rest := [.int 0, .ref bo]) C hM (cc_X11_read l hst D ca A α σ x1 o h) cwv_read ⟨rfl, rfl⟩ ⟨Nat.le_of_ble_eq_true rfl, Nat.le_of_ble_eq_true rfl⟩ rfl rfl (cats_le _ (Nat.le_of_ble_eq_true rfl)) hl.1 dLaw_read_4 ⟨Nat.le_of_ble_eq_true rfl, Nat.le_of_ble_eq_true rfl⟩ (fun k q ce H1 locs1 α1 ho hα hM1 h1 h2 h3 => ?_) (fun v H1 locs1 α1 ho hα hM1 => ?_)
  · have hjk := hj k ho
    have hOt := l_out hO (fun q hq => by rw [List.mem_singleton] at hq; rw [hq]; exact hbo) hM1
    refine l_catch (k := k) (j := j) C.2.2.2.1 C.2.2.2.2.1 hG.1.2.2.2 hN htab (by decide) (by decide) (by decide) hjk h1 h2 h3 ?_
    have hjl : j < 3 := (List.getElem?_eq_some_iff.mp hjk).1
    rcases (show j = 0 ∨ j = 1 ∨ j = 2 by omega) with rfl | rfl | rfl
    · refine W_pc (pc' := 12) rfl ?_
      refine lv_astore_n (lv' := [(3, .ref q), (0, cr α 0 (some 0)), (1, .int x1), (2, .ref bo)]) hx hb dLaw_read_12 rfl hl (by decide) rfl (fun ls hl => ?_)
      refine lv_iconst (v := nI 1) hx hb dLaw_read_13 (by decide) ?_
      exact l_end C hα hM1 hM1.1 hOt (hM1.2.2.2.1.wk (fun q h => Or.inl h)) hr hlk rfl (by rw [ho]; rfl) (by rw [ho]; rfl) dLaw_read_14
    · refine W_pc (pc' := 15) rfl ?_
      refine lv_astore_n (lv' := [(3, .ref q), (0, cr α 0 (some 0)), (1, .int x1), (2, .ref bo)]) hx hb dLaw_read_15 rfl hl (by decide) rfl (fun ls hl => ?_)
      refine lv_iconst (v := nI 2) hx hb dLaw_read_16 (by decide) ?_
      exact l_end C hα hM1 hM1.1 hOt (hM1.2.2.2.1.wk (fun q h => Or.inl h)) hr hlk rfl (by rw [ho]; rfl) (by rw [ho]; rfl) dLaw_read_17
    · refine W_pc (pc' := 18) rfl ?_
      refine lv_astore_n (lv' := [(3, .ref q), (0, cr α 0 (some 0)), (1, .int x1), (2, .ref bo)]) hx hb dLaw_read_18 rfl hl (by decide) rfl (fun ls hl => ?_)
      refine lv_iconst (v := nI 3) hx hb dLaw_read_19 (by decide) ?_
      exact l_end C hα hM1 hM1.1 hOt (hM1.2.2.2.1.wk (fun q h => Or.inl h)) hr hlk rfl (by rw [ho]; rfl) (by rw [ho]; rfl) dLaw_read_20
  · refine lv_i2l hx hb dLaw_read_7 rfl ?_
    refine l_storeJ C hM1 h17 hO hKO hbo hb17 dLaw_read_8 (fun H2 locs2 hP2 hO2 hS2 => ?_)
    refine lv_goto (tgt := 21) hx hb dLaw_read_9 (by decide) ?_
    refine lv_iconst (v := nI 0) hx hb dLaw_read_21 (by decide) ?_
    exact l_end C hα hM1 hP2 hO2 hS2 hr hlk rfl (by rw [ho]; rfl) (by rw [ho]; rfl) dLaw_read_22
