/-! The list. -/
theorem fl_Jx4a65c_9 : Cond.fieldLink RJx4a65c 9 (cTt 10 1).1 (cTt 10 1).2.1 (cTt 10 1).2.2.1 ∈ wl := wl_in (i := 200) (by decide +kernel)
theorem cw_Jx4a65c_118 : mCallS RJx4a65c 118 yJ15_checkIndex_7cf53 cJ15_checkIndex_7cf53 2 ((some FieldType.int)) 2 := ⟨⟨wl_in (i := 364) (by decide +kernel), wl_in (i := 365) (by decide +kernel), wl_in (i := 31) (by decide +kernel), wl_in (i := 366) (by decide +kernel)⟩, by decide, by decide, by decide +kernel⟩
theorem cw_Jx4a65c_123 : cCallV RJx4a65c 123 (cRn 10) yJx4a65c_elementData_915e3 cJx4a65c_elementData_915e3 2 ((some (FieldType.object "java/lang/Object"))) 1 := ⟨⟨wl_in (i := 370) (by decide +kernel), wl_in (i := 371) (by decide +kernel), wl_in (i := 372) (by decide +kernel), wl_in (i := 9) (by decide +kernel), wl_in (i := 373) (by decide +kernel)⟩, rfl, by decide, by decide, by decide +kernel⟩
theorem cw_Jx4a65c_73 : mCallS RJx4a65c 73 yJ8_newLength_cabcc cJ8_newLength_cabcc 4 ((some FieldType.int)) 3 := ⟨⟨wl_in (i := 1023) (by decide +kernel), wl_in (i := 1024) (by decide +kernel), wl_in (i := 36) (by decide +kernel), wl_in (i := 1025) (by decide +kernel)⟩, by decide, by decide, by decide +kernel⟩
theorem cw_Jx4a65c_66 : mCallS RJx4a65c 66 yJ7_copyOf_1904c cJ7_copyOf_1904c 2 ((some (FieldType.array (FieldType.object "java/lang/Object")))) 2 := ⟨⟨wl_in (i := 1031) (by decide +kernel), wl_in (i := 1032) (by decide +kernel), wl_in (i := 4) (by decide +kernel), wl_in (i := 1033) (by decide +kernel)⟩, by decide, by decide, by decide +kernel⟩
theorem fl_Jx4a65c_39 : Cond.fieldLink RJx4a65c 39 "java/util/ArrayList" "DEFAULTCAPACITY_EMPTY_ELEMENTDATA" "[Ljava/lang/Object;" ∈ wl := wl_in (i := 198) (by decide +kernel)
theorem cw_Jx4a65c_69 : cCallV RJx4a65c 69 (cRn 10) yJx4a65c_grow_92f84 cJx4a65c_grow_92f84 4 ((some (FieldType.array (FieldType.object "java/lang/Object")))) 1 := ⟨⟨wl_in (i := 1019) (by decide +kernel), wl_in (i := 1021) (by decide +kernel), wl_inp (i := 12) (by decide +kernel), wl_in (i := 9) (by decide +kernel), wl_in (i := 1022) (by decide +kernel)⟩, rfl, by decide, by decide, by decide +kernel⟩
theorem cw_Jx4a65c_129 : cCallV RJx4a65c 129 (cRn 10) yJx4a65c_grow_d5877 cJx4a65c_grow_d5877 1 ((some (FieldType.array (FieldType.object "java/lang/Object")))) 0 := ⟨⟨wl_in (i := 1015) (by decide +kernel), wl_in (i := 1017) (by decide +kernel), wl_inp (i := 11) (by decide +kernel), wl_in (i := 9) (by decide +kernel), wl_in (i := 1018) (by decide +kernel)⟩, rfl, by decide, by decide, by decide +kernel⟩
theorem fl_Jx4a65c_63 : Cond.fieldLink RJx4a65c 63 "java/util/ArrayList" "modCount" "I" ∈ wl := wl_in (i := 203) (by decide +kernel)
theorem cw_Jx4a65c_131 : cCallV RJx4a65c 131 (cRn 10) yJx4a65c_add_72be8 cJx4a65c_add_72be8 4 ((none : Option FieldType)) 3 := ⟨⟨wl_in (i := 1011) (by decide +kernel), wl_in (i := 1013) (by decide +kernel), wl_inp (i := 10) (by decide +kernel), wl_in (i := 9) (by decide +kernel), wl_in (i := 1014) (by decide +kernel)⟩, rfl, by decide, by decide, by decide +kernel⟩
theorem c_cast79 {t : Nat} (h : t = 7 ∨ t = 9) : Cond.castable (cRn t) "java/lang/Object" ∈ wn := by
  rcases h with rfl | rfl
  · exact wn_in (i := 2457) (by decide +kernel)
  · exact wn_in (i := 2459) (by decide +kernel)
def fc_AR_copy (σ : cS) (x0 : Option Nat) (x1 : Int32) (t : Nat) : Option (Option Nat × cS) :=
  (dr σ 17 x0).bind fun i =>
  if ¬ (0 ≤ x1 ∧ x1.toNatClampNeg ≤ 200 ∧ cln σ 17 i < x1.toNatClampNeg ∧ cel σ i = t ∧ ¬ i = 0 ∧ (t = 7 ∨ t = 9)) then none else
  some (some (cn σ 17), uC (uN σ 17 x1.toNatClampNeg t) i (cn σ 17) (cln σ 17 i))
abbrev rc_AR_copy3 : Room := { frames := 1, cells := 1, slots := 200, locals := 40 }
abbrev rc_AR_copy : Room := { frames := 3, cells := 1, slots := 200, locals := 120 }
set_option maxHeartbeats 4000000 in
theorem cc_AR_copy3 (l : Launch) (D : va_G) (ca : Nat → ClassId) (A : Nat → Prop) (α : cAl) (σ : cS) (x1 : Int32) (t i : Nat) (hi0 : i < cn σ 17) (h : 0 ≤ x1 ∧ x1.toNatClampNeg ≤ 200 ∧ cln σ 17 i < x1.toNatClampNeg ∧ cel σ i = t ∧ ¬ i = 0 ∧ (t = 7 ∨ t = 9)) : cMet true l yJ7_copyOf_6403c cJ7_copyOf_6403c 4 (some (.array (.object "java/lang/Object"))) rc_AR_copy3 1 200 D ca true A α σ [cr α 17 (some i), .int x1, cr α 22 (some 0)] (fun α1 => some (cr α1 17 (some (cn σ 17)))) (uC (uN σ 17 x1.toNatClampNeg t) i (cn σ 17) (cln σ 17 i)) := by
  refine Met.ofW (cc := cJ7_copyOf_6403c) (maxL := 4) (ret := some (.array (.object "java/lang/Object"))) (by decide) rfl ?_
  intro p e s m args below meth c s₁ B hml hv
  obtain ⟨rfl, hP, hK, hD0, hSh, hA, hG⟩ := hv
  have C : cC p s m _ c cJ7_copyOf_6403c 4 RJ7 D ca A α := ⟨B.exec, B.bytes, hml, findClass_of_methodNamed B.named, fun w hw => atoms_spec (ws := mWs yJ7_copyOf_6403c cJ7_copyOf_6403c 4 (some (.array (.object "java/lang/Object")))) B.pre w (List.mem_cons_of_mem _ hw), hK, hG⟩
  have hM : cM D ca true A s.heap σ α σ α s.heap [] := ⟨hP, hD0, hSh, va_S.rf, hA, cX.rf⟩
  have h17 : 0 < cn σ 17 := c_17 hM
  have hr := B.returns
  have hlk := B.notSynchronized
  have hx := C.1
  have hb := C.2.1
  have hl := lv_entry ([cr α 17 (some i), .int x1, cr α 22 (some 0)]) (n := 4) (Nat.le_of_ble_eq_true rfl)
  rw [lg_entry_eq]
  generalize (lg_sl ([cr α 17 (some i), .int x1, cr α 22 (some 0)]) ++ List.replicate (4 - (lg_sl ([cr α 17 (some i), .int x1, cr α 22 (some 0)])).length) Slot.unset).toArray = ls at hl ⊢
  have hl : lv_has ls 4 [(0, cr α 17 (some i)), (1, .int x1), (2, cr α 22 (some 0))] := hl
  obtain ⟨h1, h2, h3, h4, h5, h6⟩ := h
  have hn1 : ¬ x1 < 0 := Int32.not_lt.mpr h1
  refine c_aload_n (t := 22) (x := some 0) hx hb dJ7_copyOf_6403c_0 rfl (lv_at hl 2 rfl) ?_
  refine va_ldcM hx hb C.2.2.2.1 (C.2.2.2.2.1 _ (wl_in (i := 1064) (by decide +kernel))) hG.2.2.2.2.2.2.2.2.2.1 dJ7_copyOf_6403c_1 ?_
  refine lv_acmp_ne (tgt := 13) (rx := some (α 22 0)) (ry := some (α 22 0)) hx hb dJ7_copyOf_6403c_3 (by decide) (fun q => absurd rfl q) (fun _ => ?_)
  refine lv_iload_n hx hb dJ7_copyOf_6403c_6 rfl (lv_at hl 1 rfl) ?_
  refine c_newq C hM h17 t (N := x1.toNatClampNeg) (wl_in (i := 1066) (by decide +kernel)) hn1 rfl (Nat.le_trans h2 (by decide)) (Nat.le_of_ble_eq_true rfl) (Nat.le_trans (Nat.add_le_add_left h2 _) (Nat.le_of_ble_eq_true rfl)) dJ7_copyOf_6403c_7 (fun H α1 hX hM => ?_)
  refine W.widen (k := 1) (n := 200) (Nat.le_of_ble_eq_true rfl) (Nat.le_trans (Nat.add_le_add_left h2 _) (Nat.le_of_ble_eq_true rfl)) ?_
  have e1 : cr α 17 (some i) = cr α1 17 (some i) := cr_to hX (decide_eq_true hi0)
  have hl := lv_to (lv_sub hl [0, 1] rfl) (show ([(0, cr α 17 (some i)), (1, .int x1)] : List (Nat × Value)) = [(0, cr α1 17 (some i)), (1, .int x1)] by rw [e1])
  refine lv_goto (tgt := 24) hx hb dJ7_copyOf_6403c_10 (by decide) ?_
  refine c_astore_n (t := 17) (x := some (cn σ 17)) (lv' := [(3, cr α1 17 (some (cn σ 17))), (0, cr α1 17 (some i)), (1, .int x1)]) hx hb dJ7_copyOf_6403c_24 rfl hl (by decide) rfl (fun ls hl => ?_)
  refine c_aload_n (t := 17) (x := some i) hx hb dJ7_copyOf_6403c_25 rfl (lv_at hl 1 rfl) ?_
  refine lv_iconst (v := 0) hx hb dJ7_copyOf_6403c_26 (by decide) ?_
  refine c_aload_n (t := 17) (x := some (cn σ 17)) hx hb dJ7_copyOf_6403c_27 rfl (lv_at hl 0 rfl) ?_
  refine lv_iconst (v := 0) hx hb dJ7_copyOf_6403c_28 (by decide) ?_
  refine c_aload_n (t := 17) (x := some i) hx hb dJ7_copyOf_6403c_29 rfl (lv_at hl 1 rfl) ?_
  have hne : ¬ i = cn σ 17 := by omega
  have hdi : dr (uN σ 17 x1.toNatClampNeg t) 17 (some i) = some i := dr_mk (Nat.lt_of_lt_of_le hi0 cn_uNle)
  have hdn : dr (uN σ 17 x1.toNatClampNeg t) 17 (some (cn σ 17)) = some (cn σ 17) := dr_mk (by rw [cn_uN, if_pos rfl]; omega)
  refine c_alen C hM hdi (by decide) dJ7_copyOf_6403c_30 ?_
  have hlen : cln (uN σ 17 x1.toNatClampNeg t) 17 i = cln σ 17 i := if_neg fun q => hne q.2
  rw [hlen]
  refine lv_iload_n hx hb dJ7_copyOf_6403c_31 rfl (lv_at hl 2 rfl) ?_
  refine va_mmin (rest := [.int 0, cr α1 17 (some (cn σ 17)), .int 0, cr α1 17 (some i)]) hx hb (C.2.2.1.trans hl.1.symm) C.2.2.2.1 (C.2.2.2.2.1 _ (wl_in (i := 1067) (by decide +kernel))) (C.2.2.2.2.1 _ (wl_in (i := 786) (by decide +kernel))) (C.2.2.2.2.1 _ (wl_in (i := 28) (by decide +kernel))) (C.2.2.2.2.1 _ (wl_in (i := 787) (by decide +kernel))) (Nat.le_of_ble_eq_true rfl) (Nat.le_of_ble_eq_true rfl) (Nat.le_of_ble_eq_true rfl) (Nat.le_of_ble_eq_true rfl) dJ7_copyOf_6403c_32 ?_
  have hmin : (if x1 < nI (cln σ 17 i) then x1 else nI (cln σ 17 i)) = nI (cln σ 17 i) := by
    rw [if_neg]
    intro q
    have q1 := Int32.lt_iff_toInt_lt.mp q
    rw [nI_toInt (by omega)] at q1
    have q2 : x1.toInt = (x1.toNatClampNeg : Int) := by
      have q3 : (0 : Int) ≤ x1.toInt := by simpa using Int32.le_iff_toInt_le.mp h1
      show x1.toInt = ((x1.toInt.toNat : Nat) : Int)
      omega
    omega
  rw [hmin]
  have hcl : (nI (cln σ 17 i)).toNatClampNeg = cln σ 17 i := nI_clamp (by omega)
  refine c_copyq (n := nI (cln σ 17 i)) (rest := []) C hM h17 hdi hdn h5 (by omega) hne (t := t) ((show cel (uN σ 17 x1.toNatClampNeg t) i = cel σ i from if_neg fun q => hne q.2).trans h4) (if_pos ⟨rfl, rfl⟩) h6 (c_cast79 h6) (wl_in (i := 1068) (by decide +kernel)) (nI_pos (by omega)) (by rw [hcl, hlen]; exact Nat.le_refl _) (by rw [hcl, show cln (uN σ 17 x1.toNatClampNeg t) 17 (cn σ 17) = x1.toNatClampNeg from if_pos ⟨rfl, rfl⟩]; omega) hl.1 (Nat.le_of_ble_eq_true rfl) (Nat.le_of_ble_eq_true rfl) dJ7_copyOf_6403c_35 (fun H locs hM => ?_)
  rw [hcl] at hM
  refine c_aload_n (t := 17) (x := some (cn σ 17)) hx hb dJ7_copyOf_6403c_38 rfl (lv_at hl 0 rfl) ?_
  exact c_ra (k := 17) (v := some (cn σ 17)) (o := (some (cn σ 17), uC (uN σ 17 x1.toNatClampNeg t) i (cn σ 17) (cln σ 17 i))) C hM (fun h => by cases h) hr rfl hlk dJ7_copyOf_6403c_39 rfl
theorem cw_J7_300 : mCallS RJ7 300 yJ7_copyOf_6403c cJ7_copyOf_6403c 4 (some (.array (.object "java/lang/Object"))) 3 := ⟨⟨wl_in (i := 1061) (by decide +kernel), wl_in (i := 1062) (by decide +kernel), wl_in (i := 4) (by decide +kernel), wl_in (i := 1063) (by decide +kernel)⟩, by decide, by decide, by decide +kernel⟩
set_option maxHeartbeats 4000000 in
theorem cc_AR_copy (l : Launch) (D : va_G) (ca : Nat → ClassId) (A : Nat → Prop) (α : cAl) (σ : cS) (x0 : Option Nat) (x1 : Int32) (t : Nat) (o : Option Nat × cS) (h : fc_AR_copy σ x0 x1 t = some o) : cMet true l yJ7_copyOf_1904c cJ7_copyOf_1904c 2 (some (.array (.object "java/lang/Object"))) rc_AR_copy 1 200 D ca true A α σ [cr α 17 x0, .int x1] (fun α1 => some (cr α1 17 o.1)) o.2 := by
  unfold fc_AR_copy at h
  obtain ⟨i, hd, h⟩ := bd_of h
  obtain ⟨h0, h⟩ := ko_of h
  cases h
  have hcond := Classical.not_not.mp h0
  obtain ⟨rfl, hi0⟩ := dr_of hd
  refine Met.ofW (cc := cJ7_copyOf_1904c) (maxL := 2) (ret := some (.array (.object "java/lang/Object"))) (by decide) rfl ?_
  intro p e s m args below meth c s₁ B hml hv
  obtain ⟨rfl, hP, hK, hD0, hSh, hA, hG⟩ := hv
  have C : cC p s m _ c cJ7_copyOf_1904c 2 RJ7 D ca A α := ⟨B.exec, B.bytes, hml, findClass_of_methodNamed B.named, fun w hw => atoms_spec (ws := mWs yJ7_copyOf_1904c cJ7_copyOf_1904c 2 (some (.array (.object "java/lang/Object")))) B.pre w (List.mem_cons_of_mem _ hw), hK, hG⟩
  have hM : cM D ca true A s.heap σ α σ α s.heap [] := ⟨hP, hD0, hSh, va_S.rf, hA, cX.rf⟩
  have h17 : 0 < cn σ 17 := c_17 hM
  have hr := B.returns
  have hlk := B.notSynchronized
  have hx := C.1
  have hb := C.2.1
  have hl := lv_entry ([cr α 17 (some i), .int x1]) (n := 2) (Nat.le_of_ble_eq_true rfl)
  rw [lg_entry_eq]
  generalize (lg_sl ([cr α 17 (some i), .int x1]) ++ List.replicate (2 - (lg_sl ([cr α 17 (some i), .int x1])).length) Slot.unset).toArray = ls at hl ⊢
  have hl : lv_has ls 2 [(0, cr α 17 (some i)), (1, .int x1)] := hl
  refine c_aload_n (t := 17) (x := some i) hx hb dJ7_copyOf_1904c_0 rfl (lv_at hl 0 rfl) ?_
  refine lv_iload_n hx hb dJ7_copyOf_1904c_1 rfl (lv_at hl 1 rfl) ?_
  refine c_aload_n (t := 17) (x := some i) hx hb dJ7_copyOf_1904c_2 rfl (lv_at hl 0 rfl) ?_
  have hrec : ∃ cell : Cell, s.heap[α 17 i]? = some cell ∧ cell.vm.isStatics = false ∧ s.vm.findClass "[Ljava/lang/Object;" = some cell.cls := by
    have h9 := hP 17 i (by omega) hi0
    obtain ⟨-, -, -, -, -, e9⟩ := (hK.2 5 (ca 17, .object "java/lang/Object") rfl).2
    by_cases z : i = 0
    · subst z
      obtain ⟨c0, g, cell, z1, z2, z3, z4, z5, -⟩ := h9.zz
      have z6 : cE ca α σ 17 0 = .inl (c0, g) := z1
      rw [cE_arrR] at z6
      cases z6
      refine ⟨cell, z3, ?_, by rw [z4]; exact e9⟩
      cases z7 : cell.vm with
      | statics q => exact absurd z7 (z5 q)
      | _ => rfl
    · have h9 := h9.ob (fun q => z q.2)
      rw [cE_arrR] at h9
      exact ⟨_, h9, rfl, e9⟩
  refine va_getC (rest := [.int x1, cr α 17 (some i)]) hx hb (hml.trans hl.1.symm) C.2.2.2.1 (C.2.2.2.2.1 _ (wl_in (i := 1034) (by decide +kernel))) (va_Dc.use (va_Dc.of (hG.1.2.2.2 _ (wn_in (i := 2466) (by decide +kernel))))) (C.2.2.2.2.1 _ (wl_in (i := 2465) (by decide +kernel))) (C.2.2.2.2.1 _ (wl_in (i := 1035) (by decide +kernel))) (C.2.2.2.2.1 _ (wl_in (i := 1060) (by decide +kernel))) hG.2.2.2.2.2.2.2.2.2.1 hrec (Nat.le_of_ble_eq_true rfl) (Nat.le_of_ble_eq_true rfl) dJ7_copyOf_1904c_3 ?_
  refine c_go1 (c_rS (As := [cr α 17 (some i), .int x1, cr α 22 (some 0)]) (rest := []) C hM h17 (cc_AR_copy3 l D ca A α σ x1 t i hi0 hcond) cw_J7_300 ⟨rfl, rfl⟩ ⟨Nat.le_of_ble_eq_true rfl, Nat.le_of_ble_eq_true rfl⟩ rfl rfl (cats_le _ (Nat.le_of_ble_eq_true rfl)) hl.1 dJ7_copyOf_1904c_6 ⟨Nat.le_of_ble_eq_true rfl, Nat.le_of_ble_eq_true rfl⟩) hM (fun H locs α1 hX hM => ?_)
  refine W_st (st' := [cr α1 17 (some (cn σ 17))]) rfl ?_
  exact c_ra (k := 17) (v := some (cn σ 17)) C hM (fun h => by cases h) hr rfl hlk dJ7_copyOf_1904c_9 rfl

/-! java/util/ArrayList.elementData(I)Ljava/lang/Object; -/
abbrev rc_Jx4a65c_elementData_915e3 : Room := { frames := 0, cells := 0, slots := 0, locals := 0 }
def fc_Jx4a65c_elementData_915e3 (σ : cS) (x0 : Option Nat) (x1 : Int32) (t : Nat) : Option (Option Nat × cS) :=
  (dr σ 10 x0).bind fun i_1 =>
  (dr σ 17 (cR σ 10 i_1 1)).bind fun i_2 =>
  if x1 < 0 ∨ cln σ 17 i_2 ≤ x1.toNatClampNeg then none else
  if ¬ (cel σ i_2 = t) then none else
  some ((cR σ 17 i_2 x1.toNatClampNeg), σ)
set_option maxHeartbeats 4000000 in
set_option maxRecDepth 100000 in
theorem cc_Jx4a65c_elementData_915e3 (l : Launch) (D : va_G) (ca : Nat → ClassId) (A : Nat → Prop) (α : cAl) (σ : cS) (x0 : Option Nat) (x1 : Int32) (t : Nat) (o : Option Nat × cS) (h : fc_Jx4a65c_elementData_915e3 σ x0 x1 t = some o) : cMet false l yJx4a65c_elementData_915e3 cJx4a65c_elementData_915e3 2 ((some (FieldType.object "java/lang/Object"))) rc_Jx4a65c_elementData_915e3 0 0 D ca true A α σ [cr α 10 x0, .int x1] (fun α1 => some (cr α1 t o.1)) o.2 := by
  refine Met.ofW (cc := cJx4a65c_elementData_915e3) (maxL := 2) (ret := (some (FieldType.object "java/lang/Object"))) (by decide) rfl ?_
  intro p e s m args below meth c s₁ B hml hv
  obtain ⟨rfl, hP, hK, hD0, hSh, hA, hG⟩ := hv
  have C : cC p s m _ c cJx4a65c_elementData_915e3 2 RJx4a65c D ca A α := ⟨B.exec, B.bytes, hml, findClass_of_methodNamed B.named, fun w hw => atoms_spec (ws := mWs yJx4a65c_elementData_915e3 cJx4a65c_elementData_915e3 2 ((some (FieldType.object "java/lang/Object")))) B.pre w (List.mem_cons_of_mem _ hw), hK, hG⟩
  have hM : cM D ca true A s.heap σ α σ α s.heap [] := ⟨hP, hD0, hSh, va_S.rf, hA, cX.rf⟩
  have h17 : 0 < cn σ 17 := c_17 hM
  have hr := B.returns
  have hlk := B.notSynchronized
  have hx := C.1
  have hb := C.2.1
  have hl := lv_entry ([cr α 10 x0, .int x1]) (n := 2) (by simp [lg_r, lg_i, lg_l, lg_n])
  rw [lg_entry_eq]
  generalize (lg_sl ([cr α 10 x0, .int x1]) ++ List.replicate (2 - (lg_sl ([cr α 10 x0, .int x1])).length) Slot.unset).toArray = ls at hl ⊢
  have hl : lv_has ls 2 [(0, cr α 10 x0), (1, .int x1)] := (lv_to hl (by simp only [la_r, la_i, la_l, la_n]))
  unfold fc_Jx4a65c_elementData_915e3 at h
  refine c_aload_n (t := 10) (x := x0) hx hb dJx4a65c_elementData_915e3_0 rfl (lv_at hl 0 rfl) ?_
  obtain ⟨i_1, hd_1, h⟩ := bd_of h
  refine c_getrt C hM (k := 10) (f := 1) (t := 17) hd_1 (by decide) fl_Jx4a65c_9 dJx4a65c_elementData_915e3_1 ?_
  refine lv_iload_n hx hb dJx4a65c_elementData_915e3_4 rfl (lv_at hl 1 rfl) ?_
  obtain ⟨i_2, hd_2, h⟩ := bd_of h
  obtain ⟨c_1, h⟩ := ko_of h
  obtain ⟨c_2, h⟩ := ko_of h
  refine c_qald (t := t) C hM hd_2 c_1 (Classical.not_not.mp c_2) dJx4a65c_elementData_915e3_5 ?_
  exact c_ra (k := t) (v := (cR σ 17 i_2 x1.toNatClampNeg)) C hM (fun _ => rfl) hr rfl hlk dJx4a65c_elementData_915e3_6 h
/-! java/util/ArrayList.get(I)Ljava/lang/Object; -/
abbrev rc_Jx4a65c_get_915e3 : Room := { frames := 3, cells := 0, slots := 0, locals := 81 }
def fc_Jx4a65c_get_915e3 (σ : cS) (x0 : Option Nat) (x1 : Int32) (t : Nat) : Option (Option Nat × cS) :=
  (dr σ 10 x0).bind fun i_1 =>
  (fc_O_ck σ x1 (cI σ 10 i_1 2)).bind fun r_2 =>
  (dr r_2.2 10 x0).bind fun i_3 =>
  (fc_Jx4a65c_elementData_915e3 r_2.2 x0 x1 t).bind fun r_4 =>
  some (r_4.1, r_4.2)
set_option maxHeartbeats 4000000 in
set_option maxRecDepth 100000 in
theorem cc_Jx4a65c_get_915e3 (l : Launch) (D : va_G) (ca : Nat → ClassId) (A : Nat → Prop) (α : cAl) (σ : cS) (x0 : Option Nat) (x1 : Int32) (t : Nat) (o : Option Nat × cS) (h : fc_Jx4a65c_get_915e3 σ x0 x1 t = some o) : cMet false l yJx4a65c_get_915e3 cJx4a65c_get_915e3 2 ((some (FieldType.object "java/lang/Object"))) rc_Jx4a65c_get_915e3 0 0 D ca true A α σ [cr α 10 x0, .int x1] (fun α1 => some (cr α1 t o.1)) o.2 := by
  refine Met.ofW (cc := cJx4a65c_get_915e3) (maxL := 2) (ret := (some (FieldType.object "java/lang/Object"))) (by decide) rfl ?_
  intro p e s m args below meth c s₁ B hml hv
  obtain ⟨rfl, hP, hK, hD0, hSh, hA, hG⟩ := hv
  have C : cC p s m _ c cJx4a65c_get_915e3 2 RJx4a65c D ca A α := ⟨B.exec, B.bytes, hml, findClass_of_methodNamed B.named, fun w hw => atoms_spec (ws := mWs yJx4a65c_get_915e3 cJx4a65c_get_915e3 2 ((some (FieldType.object "java/lang/Object")))) B.pre w (List.mem_cons_of_mem _ hw), hK, hG⟩
  have hM : cM D ca true A s.heap σ α σ α s.heap [] := ⟨hP, hD0, hSh, va_S.rf, hA, cX.rf⟩
  have h17 : 0 < cn σ 17 := c_17 hM
  have hr := B.returns
  have hlk := B.notSynchronized
  have hx := C.1
  have hb := C.2.1
  have hl := lv_entry ([cr α 10 x0, .int x1]) (n := 2) (by simp [lg_r, lg_i, lg_l, lg_n])
  rw [lg_entry_eq]
  generalize (lg_sl ([cr α 10 x0, .int x1]) ++ List.replicate (2 - (lg_sl ([cr α 10 x0, .int x1])).length) Slot.unset).toArray = ls at hl ⊢
  have hl : lv_has ls 2 [(0, cr α 10 x0), (1, .int x1)] := (lv_to hl (by simp only [la_r, la_i, la_l, la_n]))
  unfold fc_Jx4a65c_get_915e3 at h
  refine lv_iload_n hx hb dJx4a65c_get_915e3_0 rfl (lv_at hl 1 rfl) ?_
  refine c_aload_n (t := 10) (x := x0) hx hb dJx4a65c_get_915e3_1 rfl (lv_at hl 0 rfl) ?_
  obtain ⟨i_1, hd_1, h⟩ := bd_of h
  refine c_geti C hM (k := 10) (f := 2) hd_1 rfl fl_Jx4a65c_48 dJx4a65c_get_915e3_2 ?_
  obtain ⟨r_2, hr_2, h⟩ := bd_of h
  refine c_go0 (c_rS (As := [.int x1, .int (cI σ 10 i_1 2)]) (rest := []) C hM h17 (cc_O_ck l D ca A α σ x1 (cI σ 10 i_1 2) _ hr_2) cw_Jx4a65c_118 ⟨rfl, rfl⟩ ⟨Nat.le_of_ble_eq_true rfl, Nat.le_of_ble_eq_true rfl⟩ rfl rfl (cats_le _ (Nat.le_of_ble_eq_true rfl)) hl.1 dJx4a65c_get_915e3_5 ⟨Nat.le_of_ble_eq_true rfl, Nat.le_of_ble_eq_true rfl⟩) hM (fun H locs hM => ?_)
  refine W_st (st' := [.int r_2.1]) rfl ?_
  refine lv_pop hx hb dJx4a65c_get_915e3_8 rfl ?_
  refine c_aload_n (t := 10) (x := x0) hx hb dJx4a65c_get_915e3_9 rfl (lv_at hl 0 rfl) ?_
  refine lv_iload_n hx hb dJx4a65c_get_915e3_10 rfl (lv_at hl 1 rfl) ?_
  obtain ⟨i_3, hd_3, h⟩ := bd_of h
  obtain ⟨r_4, hr_4, h⟩ := bd_of h
  refine c_go0 (c_rV (As := [.int x1]) (rest := []) C hM h17 hd_3 (by decide) (cc_Jx4a65c_elementData_915e3 l D ca A α r_2.2 x0 x1 t _ hr_4) cw_Jx4a65c_123 ⟨rfl, rfl⟩ ⟨Nat.le_of_ble_eq_true rfl, Nat.le_of_ble_eq_true rfl⟩ rfl rfl (cats_le _ (Nat.le_of_ble_eq_true rfl)) hl.1 dJx4a65c_get_915e3_11 ⟨Nat.le_of_ble_eq_true rfl, Nat.le_of_ble_eq_true rfl⟩) hM (fun H locs hM => ?_)
  refine W_st (st' := [cr α t r_4.1]) rfl ?_
  exact c_ra (k := t) (v := r_4.1) C hM (fun _ => rfl) hr rfl hlk dJx4a65c_get_915e3_14 h
/-! java/util/ArrayList.grow(I)[Ljava/lang/Object; -/
abbrev rc_Jx4a65c_grow_92f84 : Room := { frames := 4, cells := 1, slots := 200, locals := 141 }
def fc_Jx4a65c_grow_92f84_20 (t : Nat) (σ : cS) (x0 : Option Nat) (x1 : Int32) (x2 : Int32) : Option (Option Nat × cS) :=
    (fc_J8_newLength_cabcc σ x2 (x1 - x2) (x2 >>> ((1 : Int32) &&& 31))).bind fun r_1 =>
    (dr r_1.2 10 x0).bind fun i_2 =>
    if ¬ (lvq r_1.2 10 x0 = true) then none else
    (fc_AR_copy r_1.2 (cR r_1.2 10 i_2 1) r_1.1 t).bind fun r_3 =>
    (dr r_3.2 10 x0).bind fun i_5 =>
    if ¬ (lvq r_3.2 17 r_3.1 = true) then none else
    some (r_3.1, (uR r_3.2 10 i_5 1 r_3.1))
set_option maxHeartbeats 4000000 in
set_option maxRecDepth 100000 in
theorem gc_Jx4a65c_grow_92f84_20 {t : Nat} {p : Program} {l : Launch} {e : Env} {s : State} {m : MethodId} {args : Array Value} {below : List Frame} {meth : Method} {c : Code} {D : va_G} {ca : Nat → ClassId} {A : Nat → Prop} {σ0 : cS} {α0 : cAl} {o : Option Nat × cS} (C : cC p s m args c cJx4a65c_grow_92f84 4 RJx4a65c D ca A α0) (hr : meth.sig.returnType = (some (FieldType.array (FieldType.object "java/lang/Object")))) (hlk : meth.locks = false) (h17 : 0 < cn σ0 17) : ∀ (α : cAl) (σ : cS) (x0 : Option Nat) (x1 : Int32) (x2 : Int32) (H : Heap) (locs : List Loc) (ls : Array Slot), cM D ca true A s.heap σ0 α0 σ α H locs → lv_has ls 4 [(0, cr α 10 x0), (1, .int x1), (2, .int x2)] → fc_Jx4a65c_grow_92f84_20 t σ x0 x1 x2 = some o → W p l e rc_Jx4a65c_grow_92f84 s m args below meth c H locs 0 0 (MQ below (cQ true D ca true A α0 σ0 (fun α1 => some (cr α1 17 o.1)) o.2) args s 1 200 A) (F0 m 20 ls []) := by
  have hx := C.1
  have hb := C.2.1
  intro α σ x0 x1 x2 H locs ls hM hl h
  unfold fc_Jx4a65c_grow_92f84_20 at h
  refine lv_iload_n hx hb dJx4a65c_grow_92f84_20 rfl (lv_at hl 2 rfl) ?_
  refine lv_iload_n hx hb dJx4a65c_grow_92f84_21 rfl (lv_at hl 1 rfl) ?_
  refine lv_iload_n hx hb dJx4a65c_grow_92f84_22 rfl (lv_at hl 2 rfl) ?_
  refine lv_isub hx hb dJx4a65c_grow_92f84_23 ?_
  refine lv_iload_n hx hb dJx4a65c_grow_92f84_24 rfl (lv_at hl 2 rfl) ?_
  refine lv_iconst (v := (1 : Int32)) hx hb dJx4a65c_grow_92f84_25 (by decide) ?_
  refine lv_ishr hx hb dJx4a65c_grow_92f84_26 ?_
  obtain ⟨r_1, hr_1, h⟩ := bd_of h
  refine c_go0 (c_rS (As := [.int x2, .int (x1 - x2), .int (x2 >>> ((1 : Int32) &&& 31))]) (rest := []) C hM h17 (cc_J8_newLength_cabcc l D ca A α σ x2 (x1 - x2) (x2 >>> ((1 : Int32) &&& 31)) _ hr_1) cw_Jx4a65c_73 ⟨rfl, rfl⟩ ⟨Nat.le_of_ble_eq_true rfl, Nat.le_of_ble_eq_true rfl⟩ rfl rfl (cats_le _ (Nat.le_of_ble_eq_true rfl)) hl.1 dJx4a65c_grow_92f84_27 ⟨Nat.le_of_ble_eq_true rfl, Nat.le_of_ble_eq_true rfl⟩) hM (fun H locs hM => ?_)
  refine W_st (st' := [.int r_1.1]) rfl ?_
  refine lv_istore_n (lv' := [(3, .int r_1.1), (0, cr α 10 x0), (1, .int x1), (2, .int x2)]) hx hb dJx4a65c_grow_92f84_30 rfl hl (by decide) rfl (fun ls hl => ?_)
  refine c_aload_n (t := 10) (x := x0) hx hb dJx4a65c_grow_92f84_31 rfl (lv_at hl 1 rfl) ?_
  refine c_aload_n (t := 10) (x := x0) hx hb dJx4a65c_grow_92f84_32 rfl (lv_at hl 1 rfl) ?_
  obtain ⟨i_2, hd_2, h⟩ := bd_of h
  refine c_getrt C hM (k := 10) (f := 1) (t := 17) hd_2 (by decide) fl_Jx4a65c_9 dJx4a65c_grow_92f84_33 ?_
  refine lv_iload_n hx hb dJx4a65c_grow_92f84_36 rfl (lv_at hl 0 rfl) ?_
  obtain ⟨c_1, h⟩ := ko_of h
  have hlv_4 := (Classical.not_not.mp c_1)
  obtain ⟨r_3, hr_3, h⟩ := bd_of h
  refine c_go1 (c_rS (As := [cr α 17 (cR r_1.2 10 i_2 1), .int r_1.1]) (rest := [cr α 10 x0]) C hM h17 (cc_AR_copy l D ca A α r_1.2 (cR r_1.2 10 i_2 1) r_1.1 t _ hr_3) cw_Jx4a65c_66 ⟨rfl, rfl⟩ ⟨Nat.le_of_ble_eq_true rfl, Nat.le_of_ble_eq_true rfl⟩ rfl rfl (cats_le _ (Nat.le_of_ble_eq_true rfl)) hl.1 dJx4a65c_grow_92f84_37 ⟨Nat.le_of_ble_eq_true rfl, Nat.le_of_ble_eq_true rfl⟩) hM (fun H locs α_1 hX_3 hM => ?_)
  have e_4 : cr α 10 x0 = cr α_1 10 x0 := cr_to hX_3 hlv_4
  have hl := lv_to (lv_sub hl [] rfl) (show ([] : List (Nat × Value)) = [] by rfl)
  refine W_st (st' := [cr α_1 17 r_3.1, cr α_1 10 x0]) (show ([cr α_1 17 r_3.1, cr α 10 x0] : List Value) = _ by rw [e_4]) ?_
  refine lv_dup_x1 hx hb dJx4a65c_grow_92f84_40 cr_cat cr_cat ?_
  obtain ⟨i_5, hd_5, h⟩ := bd_of h
  obtain ⟨c_2, h⟩ := ko_of h
  refine c_putr C hM (k := 10) (f := 1) (t := 17) (v := r_3.1) hd_5 (by decide) (fun _ => Or.inl (by decide)) (Classical.not_not.mp c_2) fl_Jx4a65c_9 (Or.inl rfl) dJx4a65c_grow_92f84_41 (fun H locs hM => ?_)
  exact c_ra (k := 17) (v := r_3.1) C hM (fun h => by cases h) hr rfl hlk dJx4a65c_grow_92f84_44 h
def fc_Jx4a65c_grow_92f84 (σ : cS) (x0 : Option Nat) (x1 : Int32) (t : Nat) : Option (Option Nat × cS) :=
  (dr σ 10 x0).bind fun i_1 =>
  (dr σ 17 (cR σ 10 i_1 1)).bind fun i_2 =>
  if 0 < (nI (cln σ 17 i_2)) then
    fc_Jx4a65c_grow_92f84_20 t σ x0 x1 (nI (cln σ 17 i_2))
  else
    if ¬ (lvq σ 17 (cR σ 10 i_1 1) = true) then none else
    if (cR σ 10 i_1 1) = (some 0) then
      if ¬ (¬ (if (10 : Int32) < x1 then x1 else (10 : Int32)) < 0) then none else
      if ¬ ((if (10 : Int32) < x1 then x1 else (10 : Int32)).toNatClampNeg ≤ 200) then none else
      if ¬ (lvq σ 10 x0 = true) then none else
      (dr (uN σ 17 (if (10 : Int32) < x1 then x1 else (10 : Int32)).toNatClampNeg t) 10 x0).bind fun i_5 =>
      if ¬ (lvq (uN σ 17 (if (10 : Int32) < x1 then x1 else (10 : Int32)).toNatClampNeg t) 17 (some (cn σ 17)) = true) then none else
      some ((some (cn σ 17)), (uR (uN σ 17 (if (10 : Int32) < x1 then x1 else (10 : Int32)).toNatClampNeg t) 10 i_5 1 (some (cn σ 17))))
    else
      fc_Jx4a65c_grow_92f84_20 t σ x0 x1 (nI (cln σ 17 i_2))
set_option maxHeartbeats 4000000 in
set_option maxRecDepth 100000 in
theorem cc_Jx4a65c_grow_92f84 (l : Launch) (D : va_G) (ca : Nat → ClassId) (A : Nat → Prop) (α : cAl) (σ : cS) (x0 : Option Nat) (x1 : Int32) (t : Nat) (o : Option Nat × cS) (h : fc_Jx4a65c_grow_92f84 σ x0 x1 t = some o) : cMet true l yJx4a65c_grow_92f84 cJx4a65c_grow_92f84 4 ((some (FieldType.array (FieldType.object "java/lang/Object")))) rc_Jx4a65c_grow_92f84 1 200 D ca true A α σ [cr α 10 x0, .int x1] (fun α1 => some (cr α1 17 o.1)) o.2 := by
  refine Met.ofW (cc := cJx4a65c_grow_92f84) (maxL := 4) (ret := (some (FieldType.array (FieldType.object "java/lang/Object")))) (by decide) rfl ?_
  intro p e s m args below meth c s₁ B hml hv
  obtain ⟨rfl, hP, hK, hD0, hSh, hA, hG⟩ := hv
  have C : cC p s m _ c cJx4a65c_grow_92f84 4 RJx4a65c D ca A α := ⟨B.exec, B.bytes, hml, findClass_of_methodNamed B.named, fun w hw => atoms_spec (ws := mWs yJx4a65c_grow_92f84 cJx4a65c_grow_92f84 4 ((some (FieldType.array (FieldType.object "java/lang/Object"))))) B.pre w (List.mem_cons_of_mem _ hw), hK, hG⟩
  have hM : cM D ca true A s.heap σ α σ α s.heap [] := ⟨hP, hD0, hSh, va_S.rf, hA, cX.rf⟩
  have h17 : 0 < cn σ 17 := c_17 hM
  have hr := B.returns
  have hlk := B.notSynchronized
  have hx := C.1
  have hb := C.2.1
  have hl := lv_entry ([cr α 10 x0, .int x1]) (n := 4) (by simp [lg_r, lg_i, lg_l, lg_n])
  rw [lg_entry_eq]
  generalize (lg_sl ([cr α 10 x0, .int x1]) ++ List.replicate (4 - (lg_sl ([cr α 10 x0, .int x1])).length) Slot.unset).toArray = ls at hl ⊢
  have hl : lv_has ls 4 [(0, cr α 10 x0), (1, .int x1)] := (lv_to hl (by simp only [la_r, la_i, la_l, la_n]))
  unfold fc_Jx4a65c_grow_92f84 at h
  refine c_aload_n (t := 10) (x := x0) hx hb dJx4a65c_grow_92f84_0 rfl (lv_at hl 0 rfl) ?_
  obtain ⟨i_1, hd_1, h⟩ := bd_of h
  refine c_getrt C hM (k := 10) (f := 1) (t := 17) hd_1 (by decide) fl_Jx4a65c_9 dJx4a65c_grow_92f84_1 ?_
  obtain ⟨i_2, hd_2, h⟩ := bd_of h
  refine c_alen C hM hd_2 (by decide) dJx4a65c_grow_92f84_4 ?_
  refine lv_istore_n (lv' := [(2, .int (nI (cln σ 17 i_2))), (0, cr α 10 x0), (1, .int x1)]) hx hb dJx4a65c_grow_92f84_5 rfl hl (by decide) rfl (fun ls hl => ?_)
  refine lv_iload_n hx hb dJx4a65c_grow_92f84_6 rfl (lv_at hl 0 rfl) ?_
  refine lv_if_gt (tgt := 20) hx hb dJx4a65c_grow_92f84_7 (by decide) (fun c_1 => ?_) (fun c_1 => ?_)
  · have h := br_T c_1 h
    exact gc_Jx4a65c_grow_92f84_20 C hr hlk h17  α _ _ _ _ _ _ _ hM (lv_sub hl [1, 2, 0] rfl) h
  · have h := br_F c_1 h
    refine c_aload_n (t := 10) (x := x0) hx hb dJx4a65c_grow_92f84_10 rfl (lv_at hl 1 rfl) ?_
    refine c_getrt C hM (k := 10) (f := 1) (t := 17) hd_1 (by decide) fl_Jx4a65c_9 dJx4a65c_grow_92f84_11 ?_
    refine c_getDE C hM h17 fl_Jx4a65c_39 dJx4a65c_grow_92f84_14 ?_
    obtain ⟨c_2, h⟩ := ko_of h
    refine c_acmp_eq (tgt := 45) hx hb hM (by decide) (Classical.not_not.mp c_2) (c_lvc hM 17 0 rfl) dJx4a65c_grow_92f84_17 (by decide) (fun c_3 => ?_) (fun c_3 => ?_)
    · have h := br_T c_3 h
      refine c_aload_n (t := 10) (x := x0) hx hb dJx4a65c_grow_92f84_45 rfl (lv_at hl 1 rfl) ?_
      refine lv_bipush (v := (10 : Int32)) hx hb dJx4a65c_grow_92f84_46 (by decide) ?_
      refine lv_iload_n hx hb dJx4a65c_grow_92f84_48 rfl (lv_at hl 2 rfl) ?_
      refine va_mmax (rest := [cr α 10 x0]) hx hb (C.2.2.1.trans hl.1.symm) C.2.2.2.1 (C.2.2.2.2.1 _ (wl_in (i := 1071) (by decide +kernel))) (C.2.2.2.2.1 _ (wl_in (i := 783) (by decide +kernel))) (C.2.2.2.2.1 _ (wl_in (i := 28) (by decide +kernel))) (C.2.2.2.2.1 _ (wl_in (i := 784) (by decide +kernel))) (Nat.le_of_ble_eq_true rfl) (by have := cats_le [cr α 10 x0] (Nat.le_of_ble_eq_true rfl); exact Nat.le_trans (Nat.add_le_add_right this 13) (Nat.le_of_ble_eq_true rfl)) (Nat.le_of_ble_eq_true rfl) (Nat.le_of_ble_eq_true rfl) dJx4a65c_grow_92f84_49 ?_
      obtain ⟨c_4, h⟩ := ko_of h
      obtain ⟨c_5, h⟩ := ko_of h
      obtain ⟨c_6, h⟩ := ko_of h
      have hlv_4 := (Classical.not_not.mp c_6)
      refine c_newq C hM h17 t (N := (if (10 : Int32) < x1 then x1 else (10 : Int32)).toNatClampNeg) (wl_in (i := 1072) (by decide +kernel)) (Classical.not_not.mp c_4) rfl (Nat.le_trans (Classical.not_not.mp c_5) (by decide)) (Nat.le_of_ble_eq_true rfl) (Nat.le_trans (Nat.add_le_add_left (Classical.not_not.mp c_5) _) (Nat.le_of_ble_eq_true rfl)) dJx4a65c_grow_92f84_52 (fun H α_1 hX_3 hM => ?_)
      refine W.widen (k := 1) (n := 200) (Nat.le_of_ble_eq_true rfl) (Nat.le_trans (Nat.add_le_add_left (Classical.not_not.mp c_5) _) (Nat.le_of_ble_eq_true rfl)) ?_
      have e_4 : cr α 10 x0 = cr α_1 10 x0 := cr_to hX_3 hlv_4
      have hl := lv_to (lv_sub hl [] rfl) (show ([] : List (Nat × Value)) = [] by rfl)
      refine W_st (st' := [cr α_1 17 (some (cn σ 17)), cr α_1 10 x0]) (show ([cr α_1 17 (some (cn σ 17)), cr α 10 x0] : List Value) = _ by rw [e_4]) ?_
      refine lv_dup_x1 hx hb dJx4a65c_grow_92f84_55 cr_cat cr_cat ?_
      obtain ⟨i_5, hd_5, h⟩ := bd_of h
      obtain ⟨c_7, h⟩ := ko_of h
      refine c_putr C hM (k := 10) (f := 1) (t := 17) (v := (some (cn σ 17))) hd_5 (by decide) (fun _ => Or.inl (by decide)) (Classical.not_not.mp c_7) fl_Jx4a65c_9 (Or.inl rfl) dJx4a65c_grow_92f84_56 (fun H locs hM => ?_)
      exact c_ra (k := 17) (v := (some (cn σ 17))) C hM (fun h => by cases h) hr rfl hlk dJx4a65c_grow_92f84_59 h
    · have h := br_F c_3 h
      exact gc_Jx4a65c_grow_92f84_20 C hr hlk h17  α _ _ _ _ _ _ _ hM (lv_sub hl [1, 2, 0] rfl) h
/-! java/util/ArrayList.grow()[Ljava/lang/Object; -/
abbrev rc_Jx4a65c_grow_d5877 : Room := { frames := 5, cells := 1, slots := 200, locals := 164 }
def fc_Jx4a65c_grow_d5877 (σ : cS) (x0 : Option Nat) (t : Nat) : Option (Option Nat × cS) :=
  (dr σ 10 x0).bind fun i_1 =>
  (fc_Jx4a65c_grow_92f84 σ x0 ((cI σ 10 i_1 2) + (1 : Int32)) t).bind fun r_2 =>
  some (r_2.1, r_2.2)
set_option maxHeartbeats 4000000 in
set_option maxRecDepth 100000 in
theorem cc_Jx4a65c_grow_d5877 (l : Launch) (D : va_G) (ca : Nat → ClassId) (A : Nat → Prop) (α : cAl) (σ : cS) (x0 : Option Nat) (t : Nat) (o : Option Nat × cS) (h : fc_Jx4a65c_grow_d5877 σ x0 t = some o) : cMet true l yJx4a65c_grow_d5877 cJx4a65c_grow_d5877 1 ((some (FieldType.array (FieldType.object "java/lang/Object")))) rc_Jx4a65c_grow_d5877 1 200 D ca true A α σ [cr α 10 x0] (fun α1 => some (cr α1 17 o.1)) o.2 := by
  refine Met.ofW (cc := cJx4a65c_grow_d5877) (maxL := 1) (ret := (some (FieldType.array (FieldType.object "java/lang/Object")))) (by decide) rfl ?_
  intro p e s m args below meth c s₁ B hml hv
  obtain ⟨rfl, hP, hK, hD0, hSh, hA, hG⟩ := hv
  have C : cC p s m _ c cJx4a65c_grow_d5877 1 RJx4a65c D ca A α := ⟨B.exec, B.bytes, hml, findClass_of_methodNamed B.named, fun w hw => atoms_spec (ws := mWs yJx4a65c_grow_d5877 cJx4a65c_grow_d5877 1 ((some (FieldType.array (FieldType.object "java/lang/Object"))))) B.pre w (List.mem_cons_of_mem _ hw), hK, hG⟩
  have hM : cM D ca true A s.heap σ α σ α s.heap [] := ⟨hP, hD0, hSh, va_S.rf, hA, cX.rf⟩
  have h17 : 0 < cn σ 17 := c_17 hM
  have hr := B.returns
  have hlk := B.notSynchronized
  have hx := C.1
  have hb := C.2.1
  have hl := lv_entry ([cr α 10 x0]) (n := 1) (by simp [lg_r, lg_i, lg_l, lg_n])
  rw [lg_entry_eq]
  generalize (lg_sl ([cr α 10 x0]) ++ List.replicate (1 - (lg_sl ([cr α 10 x0])).length) Slot.unset).toArray = ls at hl ⊢
  have hl : lv_has ls 1 [(0, cr α 10 x0)] := (lv_to hl (by simp only [la_r, la_i, la_l, la_n]))
  unfold fc_Jx4a65c_grow_d5877 at h
  refine c_aload_n (t := 10) (x := x0) hx hb dJx4a65c_grow_d5877_0 rfl (lv_at hl 0 rfl) ?_
  refine c_aload_n (t := 10) (x := x0) hx hb dJx4a65c_grow_d5877_1 rfl (lv_at hl 0 rfl) ?_
  obtain ⟨i_1, hd_1, h⟩ := bd_of h
  refine c_geti C hM (k := 10) (f := 2) hd_1 rfl fl_Jx4a65c_48 dJx4a65c_grow_d5877_2 ?_
  refine lv_iconst (v := (1 : Int32)) hx hb dJx4a65c_grow_d5877_5 (by decide) ?_
  refine lv_iadd hx hb dJx4a65c_grow_d5877_6 ?_
  obtain ⟨r_2, hr_2, h⟩ := bd_of h
  refine c_go1 (c_rV (As := [.int ((cI σ 10 i_1 2) + (1 : Int32))]) (rest := []) C hM h17 hd_1 (by decide) (cc_Jx4a65c_grow_92f84 l D ca A α σ x0 ((cI σ 10 i_1 2) + (1 : Int32)) t _ hr_2) cw_Jx4a65c_69 ⟨rfl, rfl⟩ ⟨Nat.le_of_ble_eq_true rfl, Nat.le_of_ble_eq_true rfl⟩ rfl rfl (cats_le _ (Nat.le_of_ble_eq_true rfl)) hl.1 dJx4a65c_grow_d5877_7 ⟨Nat.le_of_ble_eq_true rfl, Nat.le_of_ble_eq_true rfl⟩) hM (fun H locs α_1 hX_2 hM => ?_)
  have hl := lv_to (lv_sub hl [] rfl) (show ([] : List (Nat × Value)) = [] by rfl)
  refine W_st (st' := [cr α_1 17 r_2.1]) rfl ?_
  exact c_ra (k := 17) (v := r_2.1) C hM (fun h => by cases h) hr rfl hlk dJx4a65c_grow_d5877_10 h
/-! java/util/ArrayList.add(Ljava/lang/Object;[Ljava/lang/Object;I)V -/
abbrev rc_Jx4a65c_add_72be8 : Room := { frames := 6, cells := 1, slots := 200, locals := 184 }
def fc_Jx4a65c_add_72be8_11 (t : Nat) (σ : cS) (x0 : Option Nat) (x1 : Option Nat) (x2 : Option Nat) (x3 : Int32) : Option (cS) :=
    (dr σ 17 x2).bind fun i_1 =>
    if ¬ (¬ i_1 = 0) then none else
    if ¬ (cel σ i_1 = t) then none else
    (dr σ t x1).bind fun i_2 =>
    if ¬ (t = 7 ∨ t = 9) then none else
    if x3 < 0 ∨ cln σ 17 i_1 ≤ x3.toNatClampNeg then none else
    (dr (uR σ 17 i_1 x3.toNatClampNeg x1) 10 x0).bind fun i_3 =>
    some (uI (uR σ 17 i_1 x3.toNatClampNeg x1) 10 i_3 2 (x3 + (1 : Int32)))
set_option maxHeartbeats 4000000 in
set_option maxRecDepth 100000 in
theorem gc_Jx4a65c_add_72be8_11 {t : Nat} {p : Program} {l : Launch} {e : Env} {s : State} {m : MethodId} {args : Array Value} {below : List Frame} {meth : Method} {c : Code} {D : va_G} {ca : Nat → ClassId} {A : Nat → Prop} {σ0 : cS} {α0 : cAl} {o : cS} (C : cC p s m args c cJx4a65c_add_72be8 4 RJx4a65c D ca A α0) (hr : meth.sig.returnType = (none : Option FieldType)) (hlk : meth.locks = false) (h17 : 0 < cn σ0 17) : ∀ (α : cAl) (σ : cS) (x0 : Option Nat) (x1 : Option Nat) (x2 : Option Nat) (x3 : Int32) (H : Heap) (locs : List Loc) (ls : Array Slot), cM D ca true A s.heap σ0 α0 σ α H locs → lv_has ls 4 [(0, cr α 10 x0), (1, cr α t x1), (2, cr α 17 x2), (3, .int x3)] → fc_Jx4a65c_add_72be8_11 t σ x0 x1 x2 x3 = some o → W p l e rc_Jx4a65c_add_72be8 s m args below meth c H locs 1 200 (MQ below (cQ true D ca true A α0 σ0 (fun _ => none) o) args s 1 200 A) (F0 m 11 ls []) := by
  have hx := C.1
  have hb := C.2.1
  intro α σ x0 x1 x2 x3 H locs ls hM hl h
  unfold fc_Jx4a65c_add_72be8_11 at h
  refine c_aload_n (t := 17) (x := x2) hx hb dJx4a65c_add_72be8_11 rfl (lv_at hl 2 rfl) ?_
  refine lv_iload_n hx hb dJx4a65c_add_72be8_12 rfl (lv_at hl 3 rfl) ?_
  refine c_aload_n (t := t) (x := x1) hx hb dJx4a65c_add_72be8_13 rfl (lv_at hl 1 rfl) ?_
  obtain ⟨i_1, hd_1, h⟩ := bd_of h
  obtain ⟨c_1, h⟩ := ko_of h
  obtain ⟨c_2, h⟩ := ko_of h
  obtain ⟨i_2, hd_2, h⟩ := bd_of h
  obtain ⟨c_3, h⟩ := ko_of h
  obtain ⟨c_4, h⟩ := ko_of h
  refine c_qast (t := t) C hM h17 hd_1 (Classical.not_not.mp c_1) (Classical.not_not.mp c_2) hd_2 (Classical.not_not.mp c_3) (c_cast79 (Classical.not_not.mp c_3)) c_4 dJx4a65c_add_72be8_14 (fun H locs hM => ?_)
  refine c_aload_n (t := 10) (x := x0) hx hb dJx4a65c_add_72be8_15 rfl (lv_at hl 0 rfl) ?_
  refine lv_iload_n hx hb dJx4a65c_add_72be8_16 rfl (lv_at hl 3 rfl) ?_
  refine lv_iconst (v := (1 : Int32)) hx hb dJx4a65c_add_72be8_17 (by decide) ?_
  refine lv_iadd hx hb dJx4a65c_add_72be8_18 ?_
  obtain ⟨i_3, hd_3, h⟩ := bd_of h
  refine c_puti C hM (k := 10) (f := 2) hd_3 rfl fl_Jx4a65c_48 (Or.inl rfl) dJx4a65c_add_72be8_19 (fun H locs hM => ?_)
  exact c_rv C hM (fun h => by cases h) hr hlk dJx4a65c_add_72be8_22 h
def fc_Jx4a65c_add_72be8 (σ : cS) (x0 : Option Nat) (x1 : Option Nat) (x2 : Option Nat) (x3 : Int32) (t : Nat) : Option (cS) :=
  (dr σ 17 x2).bind fun i_1 =>
  if x3 = (nI (cln σ 17 i_1)) then
    (dr σ 10 x0).bind fun i_2 =>
    if ¬ (lvq σ 10 x0 = true) then none else
    if ¬ (lvq σ t x1 = true) then none else
    (fc_Jx4a65c_grow_d5877 σ x0 t).bind fun r_3 =>
    fc_Jx4a65c_add_72be8_11 t r_3.2 x0 x1 r_3.1 x3
  else
    fc_Jx4a65c_add_72be8_11 t σ x0 x1 x2 x3
set_option maxHeartbeats 4000000 in
set_option maxRecDepth 100000 in
theorem cc_Jx4a65c_add_72be8 (l : Launch) (D : va_G) (ca : Nat → ClassId) (A : Nat → Prop) (α : cAl) (σ : cS) (x0 : Option Nat) (x1 : Option Nat) (x2 : Option Nat) (x3 : Int32) (t : Nat) (o : cS) (h : fc_Jx4a65c_add_72be8 σ x0 x1 x2 x3 t = some o) : cMet true l yJx4a65c_add_72be8 cJx4a65c_add_72be8 4 ((none : Option FieldType)) rc_Jx4a65c_add_72be8 1 200 D ca true A α σ [cr α 10 x0, cr α t x1, cr α 17 x2, .int x3] (fun _ => none) o := by
  refine Met.ofW (cc := cJx4a65c_add_72be8) (maxL := 4) (ret := (none : Option FieldType)) (by decide) rfl ?_
  intro p e s m args below meth c s₁ B hml hv
  obtain ⟨rfl, hP, hK, hD0, hSh, hA, hG⟩ := hv
  have C : cC p s m _ c cJx4a65c_add_72be8 4 RJx4a65c D ca A α := ⟨B.exec, B.bytes, hml, findClass_of_methodNamed B.named, fun w hw => atoms_spec (ws := mWs yJx4a65c_add_72be8 cJx4a65c_add_72be8 4 ((none : Option FieldType))) B.pre w (List.mem_cons_of_mem _ hw), hK, hG⟩
  have hM : cM D ca true A s.heap σ α σ α s.heap [] := ⟨hP, hD0, hSh, va_S.rf, hA, cX.rf⟩
  have h17 : 0 < cn σ 17 := c_17 hM
  have hr := B.returns
  have hlk := B.notSynchronized
  have hx := C.1
  have hb := C.2.1
  have hl := lv_entry ([cr α 10 x0, cr α t x1, cr α 17 x2, .int x3]) (n := 4) (by simp [lg_r, lg_i, lg_l, lg_n])
  rw [lg_entry_eq]
  generalize (lg_sl ([cr α 10 x0, cr α t x1, cr α 17 x2, .int x3]) ++ List.replicate (4 - (lg_sl ([cr α 10 x0, cr α t x1, cr α 17 x2, .int x3])).length) Slot.unset).toArray = ls at hl ⊢
  have hl : lv_has ls 4 [(0, cr α 10 x0), (1, cr α t x1), (2, cr α 17 x2), (3, .int x3)] := (lv_to hl (by simp only [la_r, la_i, la_l, la_n]))
  unfold fc_Jx4a65c_add_72be8 at h
  refine lv_iload_n hx hb dJx4a65c_add_72be8_0 rfl (lv_at hl 3 rfl) ?_
  refine c_aload_n (t := 17) (x := x2) hx hb dJx4a65c_add_72be8_1 rfl (lv_at hl 2 rfl) ?_
  obtain ⟨i_1, hd_1, h⟩ := bd_of h
  refine c_alen C hM hd_1 (by decide) dJx4a65c_add_72be8_2 ?_
  refine lv_icmp_ne (tgt := 11) hx hb dJx4a65c_add_72be8_3 (by decide) (fun c_1 => ?_) (fun c_1 => ?_)
  · have h := br_F c_1 h
    refine W.widen (k := 1) (n := 200) (Nat.le_of_ble_eq_true rfl) (Nat.le_of_ble_eq_true rfl) ?_
    exact gc_Jx4a65c_add_72be8_11 C hr hlk h17  α _ _ _ _ _ _ _ _ hM (lv_sub hl [0, 1, 2, 3] rfl) h
  · have h := br_T c_1 h
    refine c_aload_n (t := 10) (x := x0) hx hb dJx4a65c_add_72be8_6 rfl (lv_at hl 0 rfl) ?_
    obtain ⟨i_2, hd_2, h⟩ := bd_of h
    obtain ⟨c_2, h⟩ := ko_of h
    have hlv_4 := (Classical.not_not.mp c_2)
    obtain ⟨c_3, h⟩ := ko_of h
    have hlv_5 := (Classical.not_not.mp c_3)
    obtain ⟨r_3, hr_3, h⟩ := bd_of h
    refine c_go1 (c_rV (As := []) (rest := []) C hM h17 hd_2 (by decide) (cc_Jx4a65c_grow_d5877 l D ca A α σ x0 t _ hr_3) cw_Jx4a65c_129 ⟨rfl, rfl⟩ ⟨Nat.le_of_ble_eq_true rfl, Nat.le_of_ble_eq_true rfl⟩ rfl rfl (cats_le _ (Nat.le_of_ble_eq_true rfl)) hl.1 dJx4a65c_add_72be8_7 ⟨Nat.le_of_ble_eq_true rfl, Nat.le_of_ble_eq_true rfl⟩) hM (fun H locs α_1 hX_3 hM => ?_)
    have e_4 : cr α 10 x0 = cr α_1 10 x0 := cr_to hX_3 hlv_4
    have e_5 : cr α t x1 = cr α_1 t x1 := cr_to hX_3 hlv_5
    have hl := lv_to (lv_sub hl [0, 1, 3] rfl) (show ([(0, cr α 10 x0), (1, cr α t x1), (3, .int x3)] : List (Nat × Value)) = [(0, cr α_1 10 x0), (1, cr α_1 t x1), (3, .int x3)] by rw [e_4, e_5])
    refine W_st (st' := [cr α_1 17 r_3.1]) rfl ?_
    refine c_astore_n (t := 17) (x := r_3.1) (lv' := [(2, cr α_1 17 r_3.1), (0, cr α_1 10 x0), (1, cr α_1 t x1), (3, .int x3)]) hx hb dJx4a65c_add_72be8_10 rfl hl (by decide) (by first | rfl | (simp only [List.filter, cr_cat]; rfl)) (fun ls hl => ?_)
    exact gc_Jx4a65c_add_72be8_11 C hr hlk h17  α_1 _ _ _ _ _ _ _ _ hM (lv_sub hl [1, 2, 0, 3] rfl) h
/-! java/util/ArrayList.add(Ljava/lang/Object;)Z -/
abbrev rc_Jx4a65c_add_9ea2d : Room := { frames := 7, cells := 1, slots := 200, locals := 207 }
def fc_Jx4a65c_add_9ea2d (σ : cS) (x0 : Option Nat) (x1 : Option Nat) (t : Nat) : Option (Int32 × cS) :=
  (dr σ 10 x0).bind fun i_1 =>
  (fc_Jx4a65c_add_72be8 (uI σ 10 i_1 0 ((cI σ 10 i_1 0) + (1 : Int32))) x0 x1 (cR (uI σ 10 i_1 0 ((cI σ 10 i_1 0) + (1 : Int32))) 10 i_1 1) (cI (uI σ 10 i_1 0 ((cI σ 10 i_1 0) + (1 : Int32))) 10 i_1 2) t).bind fun r_2 =>
  if (1 : Int32) &&& 1 = (1 : Int32) then some ((1 : Int32), r_2) else none
set_option maxHeartbeats 4000000 in
set_option maxRecDepth 100000 in
theorem cc_Jx4a65c_add_9ea2d (l : Launch) (D : va_G) (ca : Nat → ClassId) (A : Nat → Prop) (α : cAl) (σ : cS) (x0 : Option Nat) (x1 : Option Nat) (t : Nat) (o : Int32 × cS) (h : fc_Jx4a65c_add_9ea2d σ x0 x1 t = some o) : cMet true l yJx4a65c_add_9ea2d cJx4a65c_add_9ea2d 2 ((some FieldType.boolean)) rc_Jx4a65c_add_9ea2d 1 200 D ca true A α σ [cr α 10 x0, cr α t x1] (fun _ => some (.int o.1)) o.2 := by
  refine Met.ofW (cc := cJx4a65c_add_9ea2d) (maxL := 2) (ret := (some FieldType.boolean)) (by decide) rfl ?_
  intro p e s m args below meth c s₁ B hml hv
  obtain ⟨rfl, hP, hK, hD0, hSh, hA, hG⟩ := hv
  have C : cC p s m _ c cJx4a65c_add_9ea2d 2 RJx4a65c D ca A α := ⟨B.exec, B.bytes, hml, findClass_of_methodNamed B.named, fun w hw => atoms_spec (ws := mWs yJx4a65c_add_9ea2d cJx4a65c_add_9ea2d 2 ((some FieldType.boolean))) B.pre w (List.mem_cons_of_mem _ hw), hK, hG⟩
  have hM : cM D ca true A s.heap σ α σ α s.heap [] := ⟨hP, hD0, hSh, va_S.rf, hA, cX.rf⟩
  have h17 : 0 < cn σ 17 := c_17 hM
  have hr := B.returns
  have hlk := B.notSynchronized
  have hx := C.1
  have hb := C.2.1
  have hl := lv_entry ([cr α 10 x0, cr α t x1]) (n := 2) (by simp [lg_r, lg_i, lg_l, lg_n])
  rw [lg_entry_eq]
  generalize (lg_sl ([cr α 10 x0, cr α t x1]) ++ List.replicate (2 - (lg_sl ([cr α 10 x0, cr α t x1])).length) Slot.unset).toArray = ls at hl ⊢
  have hl : lv_has ls 2 [(0, cr α 10 x0), (1, cr α t x1)] := (lv_to hl (by simp only [la_r, la_i, la_l, la_n]))
  unfold fc_Jx4a65c_add_9ea2d at h
  refine c_aload_n (t := 10) (x := x0) hx hb dJx4a65c_add_9ea2d_0 rfl (lv_at hl 0 rfl) ?_
  refine lv_dup hx hb dJx4a65c_add_9ea2d_1 cr_cat ?_
  obtain ⟨i_1, hd_1, h⟩ := bd_of h
  refine c_getmc C hM hd_1 fl_Jx4a65c_63 dJx4a65c_add_9ea2d_2 ?_
  refine lv_iconst (v := (1 : Int32)) hx hb dJx4a65c_add_9ea2d_5 (by decide) ?_
  refine lv_iadd hx hb dJx4a65c_add_9ea2d_6 ?_
  refine c_putmc C hM h17 hd_1 fl_Jx4a65c_63 dJx4a65c_add_9ea2d_7 (fun H locs hM => ?_)
  refine c_aload_n (t := 10) (x := x0) hx hb dJx4a65c_add_9ea2d_10 rfl (lv_at hl 0 rfl) ?_
  refine c_aload_n (t := t) (x := x1) hx hb dJx4a65c_add_9ea2d_11 rfl (lv_at hl 1 rfl) ?_
  refine c_aload_n (t := 10) (x := x0) hx hb dJx4a65c_add_9ea2d_12 rfl (lv_at hl 0 rfl) ?_
  refine c_getrt C hM (k := 10) (f := 1) (t := 17) hd_1 (by decide) fl_Jx4a65c_9 dJx4a65c_add_9ea2d_13 ?_
  refine c_aload_n (t := 10) (x := x0) hx hb dJx4a65c_add_9ea2d_16 rfl (lv_at hl 0 rfl) ?_
  refine c_geti C hM (k := 10) (f := 2) hd_1 rfl fl_Jx4a65c_48 dJx4a65c_add_9ea2d_17 ?_
  obtain ⟨r_2, hr_2, h⟩ := bd_of h
  refine c_go1 (c_rV (As := [cr α t x1, cr α 17 (cR (uI σ 10 i_1 0 ((cI σ 10 i_1 0) + (1 : Int32))) 10 i_1 1), .int (cI (uI σ 10 i_1 0 ((cI σ 10 i_1 0) + (1 : Int32))) 10 i_1 2)]) (rest := []) C hM h17 hd_1 (by decide) (cc_Jx4a65c_add_72be8 l D ca A α (uI σ 10 i_1 0 ((cI σ 10 i_1 0) + (1 : Int32))) x0 x1 (cR (uI σ 10 i_1 0 ((cI σ 10 i_1 0) + (1 : Int32))) 10 i_1 1) (cI (uI σ 10 i_1 0 ((cI σ 10 i_1 0) + (1 : Int32))) 10 i_1 2) t _ hr_2) cw_Jx4a65c_131 ⟨rfl, rfl⟩ ⟨Nat.le_of_ble_eq_true rfl, Nat.le_of_ble_eq_true rfl⟩ rfl rfl (cats_le _ (Nat.le_of_ble_eq_true rfl)) hl.1 dJx4a65c_add_9ea2d_20 ⟨Nat.le_of_ble_eq_true rfl, Nat.le_of_ble_eq_true rfl⟩) hM (fun H locs α_1 hX_2 hM => ?_)
  have hl := lv_to (lv_sub hl [] rfl) (show ([] : List (Nat × Value)) = [] by rfl)
  refine W_st (st' := []) rfl ?_
  refine lv_iconst (v := (1 : Int32)) hx hb dJx4a65c_add_9ea2d_23 (by decide) ?_
  exact c_rz C hM (fun h => by cases h) hr hlk dJx4a65c_add_9ea2d_24 h
