/-! Checks of an index. -/
abbrev rc_P_ck : Room := { frames := 0, cells := 0, slots := 0, locals := 0 }
theorem cc_P_ck (l : Launch) (D : va_G) (ca : Nat → ClassId) (A : Nat → Prop) (α : cAl) (σ : cS) (x0 x1 : Int32) (v : Option Nat) (h : 0 ≤ x0 ∧ x0 < x1) : cMet false l yJ3_checkIndex_8e157 cJ3_checkIndex_8e157 3 (some .int) rc_P_ck 0 0 D ca true A α σ [.int x0, .int x1, va_rf v] (fun _ => some (.int x0)) σ := by
  cases v with
  | none =>
    show cMet false l yJ3_checkIndex_8e157 cJ3_checkIndex_8e157 3 (some .int) rc_P_ck 0 0 D ca true A α σ [.int x0, .int x1, .null] (fun _ => some (.int x0)) σ
    refine Met.ofW (cc := cJ3_checkIndex_8e157) (maxL := 3) (ret := some .int) (by decide) rfl ?_
    intro p e s m args below meth c s₁ B hml hv
    obtain ⟨rfl, hP, hK, hD0, hSh, hA, hG⟩ := hv
    have C : cC p s m _ c cJ3_checkIndex_8e157 3 RJ3 D ca A α := ⟨B.exec, B.bytes, hml, findClass_of_methodNamed B.named, fun w hw => atoms_spec (ws := mWs yJ3_checkIndex_8e157 cJ3_checkIndex_8e157 3 (some .int)) B.pre w (List.mem_cons_of_mem _ hw), hK, hG⟩
    have hM : cM D ca true A s.heap σ α σ α s.heap [] := ⟨hP, hD0, hSh, va_S.rf, hA, cX.rf⟩
    have h17 : 0 < cn σ 17 := c_17 hM
    have hr := B.returns
    have hlk := B.notSynchronized
    have hx := C.1
    have hb := C.2.1
    have hl := lv_entry ([.int x0, .int x1, .null]) (n := 3) (Nat.le_of_ble_eq_true rfl)
    rw [lg_entry_eq]
    generalize (lg_sl ([.int x0, .int x1, .null]) ++ List.replicate (3 - (lg_sl ([.int x0, .int x1, .null])).length) Slot.unset).toArray = ls at hl ⊢
    have hl : lv_has ls 3 [(0, .int x0), (1, .int x1), (2, .null)] := hl
    refine lv_iload_n hx hb dJ3_checkIndex_8e157_0 rfl (lv_at hl 0 rfl) ?_
    refine lv_if_lt (tgt := 9) hx hb dJ3_checkIndex_8e157_1 (by decide) (fun q => absurd h.1 (Int32.not_le.mpr q)) (fun _ => ?_)
    refine lv_iload_n hx hb dJ3_checkIndex_8e157_4 rfl (lv_at hl 0 rfl) ?_
    refine lv_iload_n hx hb dJ3_checkIndex_8e157_5 rfl (lv_at hl 1 rfl) ?_
    refine lv_icmp_lt (tgt := 16) hx hb dJ3_checkIndex_8e157_6 (by decide) (fun _ => ?_) (fun q => absurd h.2 q)
    refine lv_iload_n hx hb dJ3_checkIndex_8e157_16 rfl (lv_at hl 0 rfl) ?_
    exact c_ri (o := (x0, σ)) C hM (fun _ => rfl) hr hlk dJ3_checkIndex_8e157_17 rfl
  | some a =>
    show cMet false l yJ3_checkIndex_8e157 cJ3_checkIndex_8e157 3 (some .int) rc_P_ck 0 0 D ca true A α σ [.int x0, .int x1, .ref a] (fun _ => some (.int x0)) σ
    refine Met.ofW (cc := cJ3_checkIndex_8e157) (maxL := 3) (ret := some .int) (by decide) rfl ?_
    intro p e s m args below meth c s₁ B hml hv
    obtain ⟨rfl, hP, hK, hD0, hSh, hA, hG⟩ := hv
    have C : cC p s m _ c cJ3_checkIndex_8e157 3 RJ3 D ca A α := ⟨B.exec, B.bytes, hml, findClass_of_methodNamed B.named, fun w hw => atoms_spec (ws := mWs yJ3_checkIndex_8e157 cJ3_checkIndex_8e157 3 (some .int)) B.pre w (List.mem_cons_of_mem _ hw), hK, hG⟩
    have hM : cM D ca true A s.heap σ α σ α s.heap [] := ⟨hP, hD0, hSh, va_S.rf, hA, cX.rf⟩
    have h17 : 0 < cn σ 17 := c_17 hM
    have hr := B.returns
    have hlk := B.notSynchronized
    have hx := C.1
    have hb := C.2.1
    have hl := lv_entry ([.int x0, .int x1, .ref a]) (n := 3) (Nat.le_of_ble_eq_true rfl)
    rw [lg_entry_eq]
    generalize (lg_sl ([.int x0, .int x1, .ref a]) ++ List.replicate (3 - (lg_sl ([.int x0, .int x1, .ref a])).length) Slot.unset).toArray = ls at hl ⊢
    have hl : lv_has ls 3 [(0, .int x0), (1, .int x1), (2, .ref a)] := hl
    refine lv_iload_n hx hb dJ3_checkIndex_8e157_0 rfl (lv_at hl 0 rfl) ?_
    refine lv_if_lt (tgt := 9) hx hb dJ3_checkIndex_8e157_1 (by decide) (fun q => absurd h.1 (Int32.not_le.mpr q)) (fun _ => ?_)
    refine lv_iload_n hx hb dJ3_checkIndex_8e157_4 rfl (lv_at hl 0 rfl) ?_
    refine lv_iload_n hx hb dJ3_checkIndex_8e157_5 rfl (lv_at hl 1 rfl) ?_
    refine lv_icmp_lt (tgt := 16) hx hb dJ3_checkIndex_8e157_6 (by decide) (fun _ => ?_) (fun q => absurd h.2 q)
    refine lv_iload_n hx hb dJ3_checkIndex_8e157_16 rfl (lv_at hl 0 rfl) ?_
    exact c_ri (o := (x0, σ)) C hM (fun _ => rfl) hr hlk dJ3_checkIndex_8e157_17 rfl
theorem cw_J15_105 : mCallS RJ15 105 yJ3_checkIndex_8e157 cJ3_checkIndex_8e157 3 (some .int) 3 := ⟨⟨wl_in (i := 367) (by decide +kernel), wl_in (i := 368) (by decide +kernel), wl_in (i := 29) (by decide +kernel), wl_in (i := 369) (by decide +kernel)⟩, by decide, by decide, by decide +kernel⟩
theorem cw_J0_1059 : mCallS RJ0 1059 yJ3_checkIndex_8e157 cJ3_checkIndex_8e157 3 (some .int) 3 := ⟨⟨wl_in (i := 1116) (by decide +kernel), wl_in (i := 368) (by decide +kernel), wl_in (i := 29) (by decide +kernel), wl_in (i := 369) (by decide +kernel)⟩, by decide, by decide, by decide +kernel⟩
def fc_O_ck (σ : cS) (x0 x1 : Int32) : Option (Int32 × cS) := if ¬ (0 ≤ x0 ∧ x0 < x1) then none else some (x0, σ)
def fc_S_ck (σ : cS) (x0 x1 : Int32) : Option cS := if ¬ (0 ≤ x0 ∧ x0 < x1) then none else some σ
abbrev rc_O_ck : Room := { frames := 2, cells := 0, slots := 0, locals := 60 }
abbrev rc_S_ck : Room := { frames := 2, cells := 0, slots := 0, locals := 60 }
theorem cc_O_ck (l : Launch) (D : va_G) (ca : Nat → ClassId) (A : Nat → Prop) (α : cAl) (σ : cS) (x0 x1 : Int32) (o : Int32 × cS) (h : fc_O_ck σ x0 x1 = some o) : cMet false l yJ15_checkIndex_7cf53 cJ15_checkIndex_7cf53 2 (some .int) rc_O_ck 0 0 D ca true A α σ [.int x0, .int x1] (fun _ => some (.int o.1)) o.2 := by
  unfold fc_O_ck at h
  obtain ⟨h0, h⟩ := ko_of h
  cases h
  have h := Classical.not_not.mp h0
  refine Met.ofW (cc := cJ15_checkIndex_7cf53) (maxL := 2) (ret := some .int) (by decide) rfl ?_
  intro p e s m args below meth c s₁ B hml hv
  obtain ⟨rfl, hP, hK, hD0, hSh, hA, hG⟩ := hv
  have C : cC p s m _ c cJ15_checkIndex_7cf53 2 RJ15 D ca A α := ⟨B.exec, B.bytes, hml, findClass_of_methodNamed B.named, fun w hw => atoms_spec (ws := mWs yJ15_checkIndex_7cf53 cJ15_checkIndex_7cf53 2 (some .int)) B.pre w (List.mem_cons_of_mem _ hw), hK, hG⟩
  have hM : cM D ca true A s.heap σ α σ α s.heap [] := ⟨hP, hD0, hSh, va_S.rf, hA, cX.rf⟩
  have h17 : 0 < cn σ 17 := c_17 hM
  have hr := B.returns
  have hlk := B.notSynchronized
  have hx := C.1
  have hb := C.2.1
  have hl := lv_entry ([.int x0, .int x1]) (n := 2) (Nat.le_of_ble_eq_true rfl)
  rw [lg_entry_eq]
  generalize (lg_sl ([.int x0, .int x1]) ++ List.replicate (2 - (lg_sl ([.int x0, .int x1])).length) Slot.unset).toArray = ls at hl ⊢
  have hl : lv_has ls 2 [(0, .int x0), (1, .int x1)] := hl
  refine lv_iload_n hx hb dJ15_checkIndex_7cf53_0 rfl (lv_at hl 0 rfl) ?_
  refine lv_iload_n hx hb dJ15_checkIndex_7cf53_1 rfl (lv_at hl 1 rfl) ?_
  refine lv_null hx hb dJ15_checkIndex_7cf53_2 ?_
  refine c_go0 (c_rS (As := [.int x0, .int x1, va_rf none]) (rest := []) C hM h17 (cc_P_ck l D ca A α σ x0 x1 none h) cw_J15_105 ⟨rfl, rfl⟩ ⟨Nat.le_of_ble_eq_true rfl, Nat.le_of_ble_eq_true rfl⟩ rfl rfl (cats_le _ (Nat.le_of_ble_eq_true rfl)) hl.1 dJ15_checkIndex_7cf53_3 ⟨Nat.le_of_ble_eq_true rfl, Nat.le_of_ble_eq_true rfl⟩) hM (fun H locs hM => ?_)
  exact c_ri (o := (x0, σ)) C hM (fun _ => rfl) hr hlk dJ15_checkIndex_7cf53_6 rfl
theorem cc_S_ck (l : Launch) (D : va_G) (ca : Nat → ClassId) (A : Nat → Prop) (α : cAl) (σ : cS) (x0 x1 : Int32) (o : cS) (h : fc_S_ck σ x0 x1 = some o) : cMet false l yJ0_checkIndex_df160 cJ0_checkIndex_df160 2 (none) rc_S_ck 0 0 D ca true A α σ [.int x0, .int x1] (fun _ => none) o := by
  unfold fc_S_ck at h
  obtain ⟨h0, h⟩ := ko_of h
  cases h
  have h := Classical.not_not.mp h0
  refine Met.ofW (cc := cJ0_checkIndex_df160) (maxL := 2) (ret := none) (by decide) rfl ?_
  intro p e s m args below meth c s₁ B hml hv
  obtain ⟨rfl, hP, hK, hD0, hSh, hA, hG⟩ := hv
  have C : cC p s m _ c cJ0_checkIndex_df160 2 RJ0 D ca A α := ⟨B.exec, B.bytes, hml, findClass_of_methodNamed B.named, fun w hw => atoms_spec (ws := mWs yJ0_checkIndex_df160 cJ0_checkIndex_df160 2 (none)) B.pre w (List.mem_cons_of_mem _ hw), hK, hG⟩
  have hM : cM D ca true A s.heap σ α σ α s.heap [] := ⟨hP, hD0, hSh, va_S.rf, hA, cX.rf⟩
  have h17 : 0 < cn σ 17 := c_17 hM
  have hr := B.returns
  have hlk := B.notSynchronized
  have hx := C.1
  have hb := C.2.1
  have hl := lv_entry ([.int x0, .int x1]) (n := 2) (Nat.le_of_ble_eq_true rfl)
  rw [lg_entry_eq]
  generalize (lg_sl ([.int x0, .int x1]) ++ List.replicate (2 - (lg_sl ([.int x0, .int x1])).length) Slot.unset).toArray = ls at hl ⊢
  have hl : lv_has ls 2 [(0, .int x0), (1, .int x1)] := hl
  refine lv_iload_n hx hb dJ0_checkIndex_df160_0 rfl (lv_at hl 0 rfl) ?_
  refine lv_iload_n hx hb dJ0_checkIndex_df160_1 rfl (lv_at hl 1 rfl) ?_
  rcases hG.2.2.2.2.2.2.2.1 with hZ | ⟨t, hZ⟩
  · refine va_gets hx hb hZ hM.2.2.2.1 C.2.2.2.1 (C.2.2.2.2.1 _ (wl_in (i := 809) (by decide +kernel))) (fun x h => h) dJ0_checkIndex_df160_2 ?_
    refine c_go0 (c_rS (As := [.int x0, .int x1, va_rf none]) (rest := []) C hM h17 (cc_P_ck l D ca A α σ x0 x1 none h) cw_J0_1059 ⟨rfl, rfl⟩ ⟨Nat.le_of_ble_eq_true rfl, Nat.le_of_ble_eq_true rfl⟩ rfl rfl (cats_le _ (Nat.le_of_ble_eq_true rfl)) hl.1 dJ0_checkIndex_df160_5 ⟨Nat.le_of_ble_eq_true rfl, Nat.le_of_ble_eq_true rfl⟩) hM (fun H locs hM => ?_)
    refine W_st (st' := [.int x0]) rfl ?_
    refine lv_pop hx hb dJ0_checkIndex_df160_8 rfl ?_
    exact c_rv C hM (fun _ => rfl) hr hlk dJ0_checkIndex_df160_9 rfl
  · refine va_gets hx hb hZ hM.2.2.2.1 C.2.2.2.1 (C.2.2.2.2.1 _ (wl_in (i := 809) (by decide +kernel))) (fun x h => h) dJ0_checkIndex_df160_2 ?_
    refine c_go0 (c_rS (As := [.int x0, .int x1, va_rf (some t)]) (rest := []) C hM h17 (cc_P_ck l D ca A α σ x0 x1 (some t) h) cw_J0_1059 ⟨rfl, rfl⟩ ⟨Nat.le_of_ble_eq_true rfl, Nat.le_of_ble_eq_true rfl⟩ rfl rfl (cats_le _ (Nat.le_of_ble_eq_true rfl)) hl.1 dJ0_checkIndex_df160_5 ⟨Nat.le_of_ble_eq_true rfl, Nat.le_of_ble_eq_true rfl⟩) hM (fun H locs hM => ?_)
    refine W_st (st' := [.int x0]) rfl ?_
    refine lv_pop hx hb dJ0_checkIndex_df160_8 rfl ?_
    exact c_rv C hM (fun _ => rfl) hr hlk dJ0_checkIndex_df160_9 rfl
