/-! The reference's methods: what each makes of the state (fm_..), as the bytecode has it; and that it does (cm_..). -/

/-! thrown()I -/
abbrev rmX12_thrown : Room := { frames := 0, cells := 0, slots := 0, locals := 0 }
def fm_thrown (σ : mS) : Option (Int32 × mS) :=
  some ((σ.1 0), σ)
set_option maxHeartbeats 4000000 in
set_option maxRecDepth 100000 in
theorem cm_thrown (l : Launch) (D : va_G) (ca : Nat → ClassId) (α : Nat → Nat) (A : Nat → Prop) (σ : mS) (o : Int32 × mS) (h : fm_thrown σ  = some o) : mMetI l yX12_thrown cX12_thrown 1 (some .int) rmX12_thrown D ca α A σ [] o := by
  refine Met.ofW (cc := cX12_thrown) (maxL := 1) (ret := some .int) (by decide) rfl ?_
  intro p e s m args below meth c s₁ B hml hv
  obtain ⟨rfl, hP, hK, hD0⟩ := hv
  have C : mC p s m _ c cX12_thrown 1 D ca := ⟨B.exec, B.bytes, hml, findClass_of_methodNamed B.named, fun w hw => atoms_spec (ws := mWs yX12_thrown cX12_thrown 1 (some .int)) B.pre w (List.mem_cons_of_mem _ hw), hK⟩
  have hM : mM D ca α A s.heap σ s.heap [] := ⟨hP, hD0, va_S.rf⟩
  have hr := B.returns
  have hlk := B.notSynchronized
  have hx := C.1
  have hb := C.2.1
  have hl := lv_entry ([.ref (α 0)]) (n := 1) (Nat.le_of_ble_eq_true rfl)
  rw [lg_entry_eq]
  generalize (lg_sl ([.ref (α 0)]) ++ List.replicate (1 - (lg_sl ([.ref (α 0)])).length) Slot.unset).toArray = ls at hl ⊢
  have hl : lv_has ls 1 [(0, .ref (α 0))] := hl
  unfold fm_thrown at h
  refine lv_aload_n hx hb dX12_thrown_0 rfl (lv_at hl 0 rfl) ?_
  refine m_geti C hM (k := 0) (Or.inl rfl) rfl dX12_thrown_1 ?_
  exact m_ri C hM hr hlk dX12_thrown_4 h
/-! isWrong(I)Z -/
abbrev rmX12_isWrong : Room := { frames := 0, cells := 0, slots := 0, locals := 0 }
def fm_isWrong_14 (σ : mS) (s0 : Int32) : Option (Int32 × mS) :=
  if s0 &&& 1 = s0 then some (s0, σ) else none
set_option maxHeartbeats 4000000 in
set_option maxRecDepth 100000 in
theorem gm_isWrong_14 {p : Program} {l : Launch} {e : Env} {s : State} {m : MethodId} {args : Array Value} {below : List Frame} {meth : Method} {c : Code} {D : va_G} {ca : Nat → ClassId} {α : Nat → Nat} {A : Nat → Prop} {o : Int32 × mS} (C : mC p s m args c cX12_isWrong 2 D ca) (hr : meth.sig.returnType = some .boolean) (hlk : meth.locks = false) : ∀ (σ : mS) (s0 : Int32) (H : Heap) (locs : List Loc) (ls : Array Slot), mM D ca α A s.heap σ H locs → lv_has ls 2 [(0, .ref (α 0))] → fm_isWrong_14 σ s0 = some o → mGI p l e rmX12_isWrong s m args below meth c D ca α A o H locs 14 ls [.int s0] := by
  have hx := C.1
  have hb := C.2.1
  intro σ s0 H locs ls hM hl h
  unfold fm_isWrong_14 at h
  exact m_rz C hM hr hlk dX12_isWrong_14 h
def fm_isWrong (σ : mS) (x1 : Int32) : Option (Int32 × mS) :=
  if x1 ≤ 0 then
    fm_isWrong_14 (mI σ 0 x1) (0 : Int32)
  else
    fm_isWrong_14 (mI σ 0 x1) (1 : Int32)
set_option maxHeartbeats 4000000 in
set_option maxRecDepth 100000 in
theorem cm_isWrong (l : Launch) (D : va_G) (ca : Nat → ClassId) (α : Nat → Nat) (A : Nat → Prop) (σ : mS) (x1 : Int32) (o : Int32 × mS) (h : fm_isWrong σ x1 = some o) : mMetI l yX12_isWrong cX12_isWrong 2 (some .boolean) rmX12_isWrong D ca α A σ [.int x1] o := by
  refine Met.ofW (cc := cX12_isWrong) (maxL := 2) (ret := some .boolean) (by decide) rfl ?_
  intro p e s m args below meth c s₁ B hml hv
  obtain ⟨rfl, hP, hK, hD0⟩ := hv
  have C : mC p s m _ c cX12_isWrong 2 D ca := ⟨B.exec, B.bytes, hml, findClass_of_methodNamed B.named, fun w hw => atoms_spec (ws := mWs yX12_isWrong cX12_isWrong 2 (some .boolean)) B.pre w (List.mem_cons_of_mem _ hw), hK⟩
  have hM : mM D ca α A s.heap σ s.heap [] := ⟨hP, hD0, va_S.rf⟩
  have hr := B.returns
  have hlk := B.notSynchronized
  have hx := C.1
  have hb := C.2.1
  have hl := lv_entry ([.ref (α 0), .int x1]) (n := 2) (Nat.le_of_ble_eq_true rfl)
  rw [lg_entry_eq]
  generalize (lg_sl ([.ref (α 0), .int x1]) ++ List.replicate (2 - (lg_sl ([.ref (α 0), .int x1])).length) Slot.unset).toArray = ls at hl ⊢
  have hl : lv_has ls 2 [(0, .ref (α 0)), (1, .int x1)] := hl
  unfold fm_isWrong at h
  refine lv_aload_n hx hb dX12_isWrong_0 rfl (lv_at hl 0 rfl) ?_
  refine lv_iload_n hx hb dX12_isWrong_1 rfl (lv_at hl 1 rfl) ?_
  refine m_puti C hM (k := 0) rfl rfl dX12_isWrong_2 (fun H locs hM => ?_)
  refine lv_iload_n hx hb dX12_isWrong_5 rfl (lv_at hl 1 rfl) ?_
  refine lv_if_le (tgt := 13) hx hb dX12_isWrong_6 (by decide) (fun c_1 => ?_) (fun c_1 => ?_)
  · have h := br_T c_1 h
    refine lv_iconst (v := (0 : Int32)) hx hb dX12_isWrong_13 (by decide) ?_
    exact gm_isWrong_14 C hr hlk  _ _ _ _ _ hM (lv_sub hl [0] rfl) h
  · have h := br_F c_1 h
    refine lv_iconst (v := (1 : Int32)) hx hb dX12_isWrong_9 (by decide) ?_
    refine lv_goto (tgt := 14) hx hb dX12_isWrong_10 (by decide) ?_
    exact gm_isWrong_14 C hr hlk  _ _ _ _ _ hM (lv_sub hl [0] rfl) h
theorem mwy_isWrong : mCallV RX12 142 yX12_isWrong cX12_isWrong 2 (some .boolean) 1 := ⟨⟨wl_in (i := 2017) (by decide +kernel), wl_in (i := 2019) (by decide +kernel), wl_inp (i := 27) (by decide +kernel), wl_in (i := 16) (by decide +kernel), wl_in (i := 2020) (by decide +kernel)⟩, rfl, by decide, by decide, by decide +kernel⟩
/-! isBetween(III)Z -/
abbrev rmX12_isBetween : Room := { frames := 0, cells := 0, slots := 0, locals := 0 }
def fm_isBetween_15 (s0 : Int32) : Option (Int32) :=
  if s0 &&& 1 = s0 then some s0 else none
set_option maxHeartbeats 4000000 in
set_option maxRecDepth 100000 in
theorem gm_isBetween_15 {p : Program} {l : Launch} {e : Env} {s : State} {m : MethodId} {args : Array Value} {below : List Frame} {meth : Method} {c : Code} {D : va_G} {ca : Nat → ClassId} {α : Nat → Nat} {A : Nat → Prop} {σ : mS} {o : Int32} (C : mC p s m args c cX12_isBetween 3 D ca) (hr : meth.sig.returnType = some .boolean) (hlk : meth.locks = false) : ∀ (s0 : Int32) (H : Heap) (locs : List Loc) (ls : Array Slot), mM D ca α A s.heap σ H locs → lv_has ls 3 [] → fm_isBetween_15 s0 = some o → mGI p l e rmX12_isBetween s m args below meth c D ca α A (o, σ) H locs 15 ls [.int s0] := by
  have hx := C.1
  have hb := C.2.1
  intro s0 H locs ls hM hl h
  unfold fm_isBetween_15 at h
  exact m_rz C hM hr hlk dX12_isBetween_15 (by rw [if_pos (ok_of h).1, Option.some.inj (ok_of h).2])
def fm_isBetween_14 : Option (Int32) :=
  fm_isBetween_15 (0 : Int32)
set_option maxHeartbeats 4000000 in
set_option maxRecDepth 100000 in
theorem gm_isBetween_14 {p : Program} {l : Launch} {e : Env} {s : State} {m : MethodId} {args : Array Value} {below : List Frame} {meth : Method} {c : Code} {D : va_G} {ca : Nat → ClassId} {α : Nat → Nat} {A : Nat → Prop} {σ : mS} {o : Int32} (C : mC p s m args c cX12_isBetween 3 D ca) (hr : meth.sig.returnType = some .boolean) (hlk : meth.locks = false) : ∀ (H : Heap) (locs : List Loc) (ls : Array Slot), mM D ca α A s.heap σ H locs → lv_has ls 3 [] → fm_isBetween_14 = some o → mGI p l e rmX12_isBetween s m args below meth c D ca α A (o, σ) H locs 14 ls [] := by
  have hx := C.1
  have hb := C.2.1
  intro H locs ls hM hl h
  unfold fm_isBetween_14 at h
  refine lv_iconst (v := (0 : Int32)) hx hb dX12_isBetween_14 (by decide) ?_
  exact gm_isBetween_15 C hr hlk  _ _ _ _ hM (lv_sub hl [] rfl) h
def fm_isBetween (x0 : Int32) (x1 : Int32) (x2 : Int32) : Option (Int32) :=
  if x0 < x1 then
    fm_isBetween_14
  else
    if x2 < x0 then
      fm_isBetween_14
    else
      fm_isBetween_15 (1 : Int32)
set_option maxHeartbeats 4000000 in
set_option maxRecDepth 100000 in
theorem cm_isBetween (l : Launch) (D : va_G) (ca : Nat → ClassId) (α : Nat → Nat) (A : Nat → Prop) (σ : mS) (x0 : Int32) (x1 : Int32) (x2 : Int32) (o : Int32) (h : fm_isBetween x0 x1 x2 = some o) : mMetSI l yX12_isBetween cX12_isBetween 3 (some .boolean) rmX12_isBetween D ca α A σ [.int x0, .int x1, .int x2] o := by
  refine Met.ofW (cc := cX12_isBetween) (maxL := 3) (ret := some .boolean) (by decide) rfl ?_
  intro p e s m args below meth c s₁ B hml hv
  obtain ⟨rfl, hP, hK, hD0⟩ := hv
  have C : mC p s m _ c cX12_isBetween 3 D ca := ⟨B.exec, B.bytes, hml, findClass_of_methodNamed B.named, fun w hw => atoms_spec (ws := mWs yX12_isBetween cX12_isBetween 3 (some .boolean)) B.pre w (List.mem_cons_of_mem _ hw), hK⟩
  have hM : mM D ca α A s.heap σ s.heap [] := ⟨hP, hD0, va_S.rf⟩
  have hr := B.returns
  have hlk := B.notSynchronized
  have hx := C.1
  have hb := C.2.1
  have hl := lv_entry ([.int x0, .int x1, .int x2]) (n := 3) (Nat.le_of_ble_eq_true rfl)
  rw [lg_entry_eq]
  generalize (lg_sl ([.int x0, .int x1, .int x2]) ++ List.replicate (3 - (lg_sl ([.int x0, .int x1, .int x2])).length) Slot.unset).toArray = ls at hl ⊢
  have hl : lv_has ls 3 [(0, .int x0), (1, .int x1), (2, .int x2)] := hl
  unfold fm_isBetween at h
  refine lv_iload_n hx hb dX12_isBetween_0 rfl (lv_at hl 1 rfl) ?_
  refine lv_iload_n hx hb dX12_isBetween_1 rfl (lv_at hl 0 rfl) ?_
  refine lv_icmp_gt (tgt := 14) hx hb dX12_isBetween_2 (by decide) (fun c_1 => ?_) (fun c_1 => ?_)
  · have h := br_T c_1 h
    exact gm_isBetween_14 C hr hlk  _ _ _ hM (lv_sub hl [] rfl) h
  · have h := br_F c_1 h
    refine lv_iload_n hx hb dX12_isBetween_5 rfl (lv_at hl 0 rfl) ?_
    refine lv_iload_n hx hb dX12_isBetween_6 rfl (lv_at hl 2 rfl) ?_
    refine lv_icmp_gt (tgt := 14) hx hb dX12_isBetween_7 (by decide) (fun c_2 => ?_) (fun c_2 => ?_)
    · have h := br_T c_2 h
      exact gm_isBetween_14 C hr hlk  _ _ _ hM (lv_sub hl [] rfl) h
    · have h := br_F c_2 h
      refine lv_iconst (v := (1 : Int32)) hx hb dX12_isBetween_10 (by decide) ?_
      refine lv_goto (tgt := 15) hx hb dX12_isBetween_11 (by decide) ?_
      exact gm_isBetween_15 C hr hlk  _ _ _ _ hM (lv_sub hl [] rfl) h
theorem mwy_isBetween : mCallS RX12 135 yX12_isBetween cX12_isBetween 3 (some .boolean) 3 := ⟨⟨wl_in (i := 2014) (by decide +kernel), wl_in (i := 2015) (by decide +kernel), wl_in (i := 16) (by decide +kernel), wl_in (i := 2016) (by decide +kernel)⟩, by decide, by decide, by decide +kernel⟩
/-! has(JI)Z -/
abbrev rmX12_has : Room := { frames := 0, cells := 0, slots := 0, locals := 0 }
def fm_has_15 (s0 : Int32) : Option (Int32) :=
  if s0 &&& 1 = s0 then some s0 else none
set_option maxHeartbeats 4000000 in
set_option maxRecDepth 100000 in
theorem gm_has_15 {p : Program} {l : Launch} {e : Env} {s : State} {m : MethodId} {args : Array Value} {below : List Frame} {meth : Method} {c : Code} {D : va_G} {ca : Nat → ClassId} {α : Nat → Nat} {A : Nat → Prop} {σ : mS} {o : Int32} (C : mC p s m args c cX12_has 3 D ca) (hr : meth.sig.returnType = some .boolean) (hlk : meth.locks = false) : ∀ (s0 : Int32) (H : Heap) (locs : List Loc) (ls : Array Slot), mM D ca α A s.heap σ H locs → lv_has ls 3 [] → fm_has_15 s0 = some o → mGI p l e rmX12_has s m args below meth c D ca α A (o, σ) H locs 15 ls [.int s0] := by
  have hx := C.1
  have hb := C.2.1
  intro s0 H locs ls hM hl h
  unfold fm_has_15 at h
  exact m_rz C hM hr hlk dX12_has_15 (by rw [if_pos (ok_of h).1, Option.some.inj (ok_of h).2])
def fm_has (x0 : Int64) (x2 : Int32) : Option (Int32) :=
  if (lg_cmp ((x0 >>> (x2.toInt64 &&& 63)) &&& (1 : Int64)) (1 : Int64)) = 0 then
    fm_has_15 (1 : Int32)
  else
    fm_has_15 (0 : Int32)
set_option maxHeartbeats 4000000 in
set_option maxRecDepth 100000 in
theorem cm_has (l : Launch) (D : va_G) (ca : Nat → ClassId) (α : Nat → Nat) (A : Nat → Prop) (σ : mS) (x0 : Int64) (x2 : Int32) (o : Int32) (h : fm_has x0 x2 = some o) : mMetSI l yX12_has cX12_has 3 (some .boolean) rmX12_has D ca α A σ [.long x0, .int x2] o := by
  refine Met.ofW (cc := cX12_has) (maxL := 3) (ret := some .boolean) (by decide) rfl ?_
  intro p e s m args below meth c s₁ B hml hv
  obtain ⟨rfl, hP, hK, hD0⟩ := hv
  have C : mC p s m _ c cX12_has 3 D ca := ⟨B.exec, B.bytes, hml, findClass_of_methodNamed B.named, fun w hw => atoms_spec (ws := mWs yX12_has cX12_has 3 (some .boolean)) B.pre w (List.mem_cons_of_mem _ hw), hK⟩
  have hM : mM D ca α A s.heap σ s.heap [] := ⟨hP, hD0, va_S.rf⟩
  have hr := B.returns
  have hlk := B.notSynchronized
  have hx := C.1
  have hb := C.2.1
  have hl := lv_entry ([.long x0, .int x2]) (n := 3) (Nat.le_of_ble_eq_true rfl)
  rw [lg_entry_eq]
  generalize (lg_sl ([.long x0, .int x2]) ++ List.replicate (3 - (lg_sl ([.long x0, .int x2])).length) Slot.unset).toArray = ls at hl ⊢
  have hl : lv_has ls 3 [(0, .long x0), (2, .int x2)] := hl
  unfold fm_has at h
  refine lv_lload_n hx hb dX12_has_0 rfl (lv_at hl 0 rfl) ?_
  refine lv_iload_n hx hb dX12_has_1 rfl (lv_at hl 1 rfl) ?_
  refine lv_lshr (v := (x0 >>> (x2.toInt64 &&& 63))) hx hb dX12_has_2 rfl ?_
  refine lv_lconst (v := (1 : Int64)) hx hb dX12_has_3 (by decide) ?_
  refine lv_land hx hb dX12_has_4 ?_
  refine lv_lconst (v := (1 : Int64)) hx hb dX12_has_5 (by decide) ?_
  refine W.lcmp hx hb dX12_has_6 ?_
  refine lv_if_ne (tgt := 14) hx hb dX12_has_7 (by decide) (fun c_1 => ?_) (fun c_1 => ?_)
  · have h := br_F c_1 h
    refine lv_iconst (v := (0 : Int32)) hx hb dX12_has_14 (by decide) ?_
    exact gm_has_15 C hr hlk  _ _ _ _ hM (lv_sub hl [] rfl) h
  · have h := br_T c_1 h
    refine lv_iconst (v := (1 : Int32)) hx hb dX12_has_10 (by decide) ?_
    refine lv_goto (tgt := 15) hx hb dX12_has_11 (by decide) ?_
    exact gm_has_15 C hr hlk  _ _ _ _ hM (lv_sub hl [] rfl) h
theorem mwy_has : mCallS RX12 131 yX12_has cX12_has 3 (some .boolean) 2 := ⟨⟨wl_in (i := 2056) (by decide +kernel), wl_in (i := 2057) (by decide +kernel), wl_in (i := 16) (by decide +kernel), wl_in (i := 2058) (by decide +kernel)⟩, by decide, by decide, by decide +kernel⟩
/-! bits(J)I -/
abbrev rmX12_bits : Room := { frames := 1, cells := 0, slots := 0, locals := 22 }
def fm_bits_24 (k_4 : Int64 → Int32 → Int32 → Option (Int32)) (x0 : Int64) (x3 : Int32) (s0 : Int32) (s1 : Int32) : Option (Int32) :=
  k_4 x0 (s1 + s0) (x3 + (1 : Int32))
set_option maxHeartbeats 4000000 in
set_option maxRecDepth 100000 in
theorem gm_bits_24 {p : Program} {l : Launch} {e : Env} {s : State} {m : MethodId} {args : Array Value} {below : List Frame} {meth : Method} {c : Code} {D : va_G} {ca : Nat → ClassId} {α : Nat → Nat} {A : Nat → Prop} {σ : mS} {o : Int32} {k_4 : Int64 → Int32 → Int32 → Option (Int32)} (C : mC p s m args c cX12_bits 4 D ca) (hr : meth.sig.returnType = some .int) (hlk : meth.locks = false) (hk_4 : ∀ (x0 : Int64) (x2 : Int32) (x3 : Int32) (H : Heap) (locs : List Loc) (ls : Array Slot), mM D ca α A s.heap σ H locs → lv_has ls 4 [(0, .long x0), (2, .int x2), (3, .int x3)] → k_4 x0 x2 x3 = some o → mGI p l e rmX12_bits s m args below meth c D ca α A (o, σ) H locs 4 ls []) : ∀ (x0 : Int64) (x3 : Int32) (s0 : Int32) (s1 : Int32) (H : Heap) (locs : List Loc) (ls : Array Slot), mM D ca α A s.heap σ H locs → lv_has ls 4 [(0, .long x0), (3, .int x3)] → fm_bits_24 k_4 x0 x3 s0 s1 = some o → mGI p l e rmX12_bits s m args below meth c D ca α A (o, σ) H locs 24 ls [.int s0, .int s1] := by
  have hx := C.1
  have hb := C.2.1
  intro x0 x3 s0 s1 H locs ls hM hl h
  unfold fm_bits_24 at h
  refine lv_iadd hx hb dX12_bits_24 ?_
  refine lv_istore_n (lv' := [(2, .int (s1 + s0)), (0, .long x0), (3, .int x3)]) hx hb dX12_bits_25 rfl hl (by decide) rfl (fun ls hl => ?_)
  refine lv_iinc (v := (x3 + (1 : Int32))) (lv' := [(3, .int (x3 + (1 : Int32))), (2, .int (s1 + s0)), (0, .long x0)]) hx hb dX12_bits_26 hl (k := 2) rfl rfl (by decide) rfl (fun ls hl => ?_)
  refine lv_goto (tgt := 4) hx hb dX12_bits_29 (by decide) ?_
  exact hk_4 _ _ _ _ _ _ hM (lv_sub hl [2, 1, 0] rfl) h
def fm_bits_4 : Nat → Int64 → Int32 → Int32 → Option (Int32)
  | 0, _, _, _ => none
  | n + 1, x0, x2, x3 =>
    if (40 : Int32) ≤ x3 then
      some x2
    else
      (fm_has x0 x3).bind fun r_1 =>
      if r_1 = 0 then
        fm_bits_24 (fm_bits_4 n) x0 x3 (0 : Int32) x2
      else
        fm_bits_24 (fm_bits_4 n) x0 x3 (1 : Int32) x2
set_option maxHeartbeats 4000000 in
set_option maxRecDepth 100000 in
theorem gm_bits_4 {p : Program} {l : Launch} {e : Env} {s : State} {m : MethodId} {args : Array Value} {below : List Frame} {meth : Method} {c : Code} {D : va_G} {ca : Nat → ClassId} {α : Nat → Nat} {A : Nat → Prop} {σ : mS} {o : Int32} (C : mC p s m args c cX12_bits 4 D ca) (hr : meth.sig.returnType = some .int) (hlk : meth.locks = false) : ∀ (n : Nat) (x0 : Int64) (x2 : Int32) (x3 : Int32) (H : Heap) (locs : List Loc) (ls : Array Slot), mM D ca α A s.heap σ H locs → lv_has ls 4 [(0, .long x0), (2, .int x2), (3, .int x3)] → fm_bits_4 n x0 x2 x3 = some o → mGI p l e rmX12_bits s m args below meth c D ca α A (o, σ) H locs 4 ls [] := by
  have hx := C.1
  have hb := C.2.1
  intro n
  induction n with
  | zero =>
    intro x0 x2 x3 H locs ls hM hl h
    cases h
  | succ n ih =>
    intro x0 x2 x3 H locs ls hM hl h
    rw [fm_bits_4] at h
    refine lv_iload_n hx hb dX12_bits_4 rfl (lv_at hl 2 rfl) ?_
    refine lv_bipush (v := (40 : Int32)) hx hb dX12_bits_5 (by decide) ?_
    refine lv_icmp_ge (tgt := 32) hx hb dX12_bits_7 (by decide) (fun c_1 => ?_) (fun c_1 => ?_)
    · have h := br_T c_1 h
      refine lv_iload_n hx hb dX12_bits_32 rfl (lv_at hl 1 rfl) ?_
      exact m_ri C hM hr hlk dX12_bits_33 (by rw [Option.some.inj h])
    · have h := br_F c_1 h
      refine lv_iload_n hx hb dX12_bits_10 rfl (lv_at hl 1 rfl) ?_
      refine lv_lload_n hx hb dX12_bits_11 rfl (lv_at hl 0 rfl) ?_
      refine lv_iload_n hx hb dX12_bits_12 rfl (lv_at hl 2 rfl) ?_
      obtain ⟨r_1, hr_1, h⟩ := bd_of h
      refine m_cSi (As := [.long x0, .int x3]) (rest := [.int x2]) C hM (cm_has l D ca α A σ x0 x3 r_1 hr_1) mwy_has ⟨rfl, rfl⟩ ⟨Nat.le_of_ble_eq_true rfl, Nat.le_of_ble_eq_true rfl⟩ rfl rfl (Nat.le_of_ble_eq_true rfl) hl.1 dX12_bits_13 ⟨rfl, rfl⟩ (fun H locs hM => ?_)
      refine lv_if_eq (tgt := 23) hx hb dX12_bits_16 (by decide) (fun c_2 => ?_) (fun c_2 => ?_)
      · have h := br_T c_2 h
        refine lv_iconst (v := (0 : Int32)) hx hb dX12_bits_23 (by decide) ?_
        exact gm_bits_24 C hr hlk ih _ _ _ _ _ _ _ hM (lv_sub hl [0, 2] rfl) h
      · have h := br_F c_2 h
        refine lv_iconst (v := (1 : Int32)) hx hb dX12_bits_19 (by decide) ?_
        refine lv_goto (tgt := 24) hx hb dX12_bits_20 (by decide) ?_
        exact gm_bits_24 C hr hlk ih _ _ _ _ _ _ _ hM (lv_sub hl [0, 2] rfl) h
def fm_bits (x0 : Int64) : Option (Int32) :=
  fm_bits_4 3000 x0 (0 : Int32) (0 : Int32)
set_option maxHeartbeats 4000000 in
set_option maxRecDepth 100000 in
theorem cm_bits (l : Launch) (D : va_G) (ca : Nat → ClassId) (α : Nat → Nat) (A : Nat → Prop) (σ : mS) (x0 : Int64) (o : Int32) (h : fm_bits x0 = some o) : mMetSI l yX12_bits cX12_bits 4 (some .int) rmX12_bits D ca α A σ [.long x0] o := by
  refine Met.ofW (cc := cX12_bits) (maxL := 4) (ret := some .int) (by decide) rfl ?_
  intro p e s m args below meth c s₁ B hml hv
  obtain ⟨rfl, hP, hK, hD0⟩ := hv
  have C : mC p s m _ c cX12_bits 4 D ca := ⟨B.exec, B.bytes, hml, findClass_of_methodNamed B.named, fun w hw => atoms_spec (ws := mWs yX12_bits cX12_bits 4 (some .int)) B.pre w (List.mem_cons_of_mem _ hw), hK⟩
  have hM : mM D ca α A s.heap σ s.heap [] := ⟨hP, hD0, va_S.rf⟩
  have hr := B.returns
  have hlk := B.notSynchronized
  have hx := C.1
  have hb := C.2.1
  have hl := lv_entry ([.long x0]) (n := 4) (Nat.le_of_ble_eq_true rfl)
  rw [lg_entry_eq]
  generalize (lg_sl ([.long x0]) ++ List.replicate (4 - (lg_sl ([.long x0])).length) Slot.unset).toArray = ls at hl ⊢
  have hl : lv_has ls 4 [(0, .long x0)] := hl
  unfold fm_bits at h
  refine lv_iconst (v := (0 : Int32)) hx hb dX12_bits_0 (by decide) ?_
  refine lv_istore_n (lv' := [(2, .int (0 : Int32)), (0, .long x0)]) hx hb dX12_bits_1 rfl hl (by decide) rfl (fun ls hl => ?_)
  refine lv_iconst (v := (0 : Int32)) hx hb dX12_bits_2 (by decide) ?_
  refine lv_istore_n (lv' := [(3, .int (0 : Int32)), (2, .int (0 : Int32)), (0, .long x0)]) hx hb dX12_bits_3 rfl hl (by decide) rfl (fun ls hl => ?_)
  exact gm_bits_4 C hr hlk  _ _ _ _ _ _ _ hM (lv_sub hl [2, 1, 0] rfl) h
theorem mwy_bits : mCallS RX12 173 yX12_bits cX12_bits 4 (some .int) 1 := ⟨⟨wl_in (i := 2053) (by decide +kernel), wl_in (i := 2054) (by decide +kernel), wl_in (i := 16) (by decide +kernel), wl_in (i := 2055) (by decide +kernel)⟩, by decide, by decide, by decide +kernel⟩
/-! type(C)I -/
abbrev rmX12_type : Room := { frames := 1, cells := 0, slots := 0, locals := 22 }
def fm_type_36 (σ : mS) (x1 : Int32) (s0 : Int32) : Option (Int32 × mS) :=
  (fm_isWrong σ s0).bind fun r_1 =>
  if r_1.1 = 0 then
    if (r_1.2.1 2) < 0 ∨ 30 ≤ (r_1.2.1 2).toNatClampNeg then none else
    some (((mI (mA r_1.2 1 (r_1.2.1 2).toNatClampNeg x1) 2 (((mA r_1.2 1 (r_1.2.1 2).toNatClampNeg x1).1 2) + (1 : Int32))).1 2), (mI (mA r_1.2 1 (r_1.2.1 2).toNatClampNeg x1) 2 (((mA r_1.2 1 (r_1.2.1 2).toNatClampNeg x1).1 2) + (1 : Int32))))
  else
    some ((0 : Int32), r_1.2)
set_option maxHeartbeats 4000000 in
set_option maxRecDepth 100000 in
theorem gm_type_36 {p : Program} {l : Launch} {e : Env} {s : State} {m : MethodId} {args : Array Value} {below : List Frame} {meth : Method} {c : Code} {D : va_G} {ca : Nat → ClassId} {α : Nat → Nat} {A : Nat → Prop} {o : Int32 × mS} (C : mC p s m args c cX12_type 2 D ca) (hr : meth.sig.returnType = some .int) (hlk : meth.locks = false) : ∀ (σ : mS) (x1 : Int32) (s0 : Int32) (H : Heap) (locs : List Loc) (ls : Array Slot), mM D ca α A s.heap σ H locs → lv_has ls 2 [(0, .ref (α 0)), (1, .int x1)] → fm_type_36 σ x1 s0 = some o → mGI p l e rmX12_type s m args below meth c D ca α A o H locs 36 ls [.int s0, .ref (α 0)] := by
  have hx := C.1
  have hb := C.2.1
  intro σ x1 s0 H locs ls hM hl h
  unfold fm_type_36 at h
  obtain ⟨r_1, hr_1, h⟩ := bd_of h
  refine m_cVi (As := [.int s0]) (rest := []) C hM (cm_isWrong l D ca α A σ s0 r_1 hr_1) mwy_isWrong ⟨rfl, rfl⟩ ⟨Nat.le_of_ble_eq_true rfl, Nat.le_of_ble_eq_true rfl⟩ rfl rfl (Nat.le_of_ble_eq_true rfl) hl.1 dX12_type_36 ⟨rfl, rfl⟩ (fun H locs hM => ?_)
  refine lv_if_eq (tgt := 44) hx hb dX12_type_39 (by decide) (fun c_1 => ?_) (fun c_1 => ?_)
  · have h := br_T c_1 h
    refine lv_aload_n hx hb dX12_type_44 rfl (lv_at hl 0 rfl) ?_
    refine m_geta C hM (k := 1) (by decide) rfl dX12_type_45 ?_
    refine lv_aload_n hx hb dX12_type_48 rfl (lv_at hl 0 rfl) ?_
    refine m_geti C hM (k := 2) (Or.inl rfl) rfl dX12_type_49 ?_
    refine lv_iload_n hx hb dX12_type_52 rfl (lv_at hl 1 rfl) ?_
    obtain ⟨c_2, h⟩ := ko_of h
    refine m_iast C hM (k := 1) rfl c_2 dX12_type_53 (fun H locs hM => ?_)
    refine lv_aload_n hx hb dX12_type_54 rfl (lv_at hl 0 rfl) ?_
    refine lv_dup hx hb dX12_type_55 rfl ?_
    refine m_geti C hM (k := 2) (Or.inl rfl) rfl dX12_type_56 ?_
    refine lv_iconst (v := (1 : Int32)) hx hb dX12_type_59 (by decide) ?_
    refine lv_iadd hx hb dX12_type_60 ?_
    refine m_puti C hM (k := 2) rfl rfl dX12_type_61 (fun H locs hM => ?_)
    refine lv_aload_n hx hb dX12_type_64 rfl (lv_at hl 0 rfl) ?_
    refine m_geti C hM (k := 2) (Or.inl rfl) rfl dX12_type_65 ?_
    exact m_ri C hM hr hlk dX12_type_68 h
  · have h := br_F c_1 h
    refine lv_iconst (v := (0 : Int32)) hx hb dX12_type_42 (by decide) ?_
    exact m_ri C hM hr hlk dX12_type_43 h
def fm_type_22 (σ : mS) (x1 : Int32) : Option (Int32 × mS) :=
  if (σ.1 2) = (30 : Int32) then
    fm_type_36 σ x1 (2 : Int32)
  else
    fm_type_36 σ x1 (0 : Int32)
set_option maxHeartbeats 4000000 in
set_option maxRecDepth 100000 in
theorem gm_type_22 {p : Program} {l : Launch} {e : Env} {s : State} {m : MethodId} {args : Array Value} {below : List Frame} {meth : Method} {c : Code} {D : va_G} {ca : Nat → ClassId} {α : Nat → Nat} {A : Nat → Prop} {o : Int32 × mS} (C : mC p s m args c cX12_type 2 D ca) (hr : meth.sig.returnType = some .int) (hlk : meth.locks = false) : ∀ (σ : mS) (x1 : Int32) (H : Heap) (locs : List Loc) (ls : Array Slot), mM D ca α A s.heap σ H locs → lv_has ls 2 [(0, .ref (α 0)), (1, .int x1)] → fm_type_22 σ x1 = some o → mGI p l e rmX12_type s m args below meth c D ca α A o H locs 22 ls [.ref (α 0)] := by
  have hx := C.1
  have hb := C.2.1
  intro σ x1 H locs ls hM hl h
  unfold fm_type_22 at h
  refine lv_aload_n hx hb dX12_type_22 rfl (lv_at hl 0 rfl) ?_
  refine m_geti C hM (k := 2) (Or.inl rfl) rfl dX12_type_23 ?_
  refine lv_bipush (v := (30 : Int32)) hx hb dX12_type_26 (by decide) ?_
  refine lv_icmp_ne (tgt := 35) hx hb dX12_type_28 (by decide) (fun c_1 => ?_) (fun c_1 => ?_)
  · have h := br_F c_1 h
    refine lv_iconst (v := (0 : Int32)) hx hb dX12_type_35 (by decide) ?_
    exact gm_type_36 C hr hlk  _ _ _ _ _ _ hM (lv_sub hl [0, 1] rfl) h
  · have h := br_T c_1 h
    refine lv_iconst (v := (2 : Int32)) hx hb dX12_type_31 (by decide) ?_
    refine lv_goto (tgt := 36) hx hb dX12_type_32 (by decide) ?_
    exact gm_type_36 C hr hlk  _ _ _ _ _ _ hM (lv_sub hl [0, 1] rfl) h
def fm_type (σ : mS) (x1 : Int32) : Option (Int32 × mS) :=
  (fm_isBetween x1 (97 : Int32) (122 : Int32)).bind fun r_1 =>
  if r_1 = 0 then
    if x1 = (32 : Int32) then
      fm_type_22 σ x1
    else
      fm_type_36 σ x1 (1 : Int32)
  else
    fm_type_22 σ x1
set_option maxHeartbeats 4000000 in
set_option maxRecDepth 100000 in
theorem cm_type (l : Launch) (D : va_G) (ca : Nat → ClassId) (α : Nat → Nat) (A : Nat → Prop) (σ : mS) (x1 : Int32) (o : Int32 × mS) (h : fm_type σ x1 = some o) : mMetI l yX12_type cX12_type 2 (some .int) rmX12_type D ca α A σ [.int x1] o := by
  refine Met.ofW (cc := cX12_type) (maxL := 2) (ret := some .int) (by decide) rfl ?_
  intro p e s m args below meth c s₁ B hml hv
  obtain ⟨rfl, hP, hK, hD0⟩ := hv
  have C : mC p s m _ c cX12_type 2 D ca := ⟨B.exec, B.bytes, hml, findClass_of_methodNamed B.named, fun w hw => atoms_spec (ws := mWs yX12_type cX12_type 2 (some .int)) B.pre w (List.mem_cons_of_mem _ hw), hK⟩
  have hM : mM D ca α A s.heap σ s.heap [] := ⟨hP, hD0, va_S.rf⟩
  have hr := B.returns
  have hlk := B.notSynchronized
  have hx := C.1
  have hb := C.2.1
  have hl := lv_entry ([.ref (α 0), .int x1]) (n := 2) (Nat.le_of_ble_eq_true rfl)
  rw [lg_entry_eq]
  generalize (lg_sl ([.ref (α 0), .int x1]) ++ List.replicate (2 - (lg_sl ([.ref (α 0), .int x1])).length) Slot.unset).toArray = ls at hl ⊢
  have hl : lv_has ls 2 [(0, .ref (α 0)), (1, .int x1)] := hl
  unfold fm_type at h
  refine lv_aload_n hx hb dX12_type_0 rfl (lv_at hl 0 rfl) ?_
  refine lv_iload_n hx hb dX12_type_1 rfl (lv_at hl 1 rfl) ?_
  refine lv_bipush (v := (97 : Int32)) hx hb dX12_type_2 (by decide) ?_
  refine lv_bipush (v := (122 : Int32)) hx hb dX12_type_4 (by decide) ?_
  obtain ⟨r_1, hr_1, h⟩ := bd_of h
  refine m_cSi (As := [.int x1, .int (97 : Int32), .int (122 : Int32)]) (rest := [.ref (α 0)]) C hM (cm_isBetween l D ca α A σ x1 (97 : Int32) (122 : Int32) r_1 hr_1) mwy_isBetween ⟨rfl, rfl⟩ ⟨Nat.le_of_ble_eq_true rfl, Nat.le_of_ble_eq_true rfl⟩ rfl rfl (Nat.le_of_ble_eq_true rfl) hl.1 dX12_type_6 ⟨rfl, rfl⟩ (fun H locs hM => ?_)
  refine lv_if_ne (tgt := 22) hx hb dX12_type_9 (by decide) (fun c_1 => ?_) (fun c_1 => ?_)
  · have h := br_F c_1 h
    exact gm_type_22 C hr hlk  _ _ _ _ _ hM (lv_sub hl [0, 1] rfl) h
  · have h := br_T c_1 h
    refine lv_iload_n hx hb dX12_type_12 rfl (lv_at hl 1 rfl) ?_
    refine lv_bipush (v := (32 : Int32)) hx hb dX12_type_13 (by decide) ?_
    refine lv_icmp_eq (tgt := 22) hx hb dX12_type_15 (by decide) (fun c_2 => ?_) (fun c_2 => ?_)
    · have h := br_T c_2 h
      exact gm_type_22 C hr hlk  _ _ _ _ _ hM (lv_sub hl [0, 1] rfl) h
    · have h := br_F c_2 h
      refine lv_iconst (v := (1 : Int32)) hx hb dX12_type_18 (by decide) ?_
      refine lv_goto (tgt := 36) hx hb dX12_type_19 (by decide) ?_
      exact gm_type_36 C hr hlk  _ _ _ _ _ _ hM (lv_sub hl [0, 1] rfl) h
/-! clear()I -/
abbrev rmX12_clear : Room := { frames := 0, cells := 0, slots := 0, locals := 0 }
def fm_clear (σ : mS) : Option (Int32 × mS) :=
  some (((mI σ 0 (0 : Int32)).1 2), (mI (mI σ 0 (0 : Int32)) 2 (0 : Int32)))
set_option maxHeartbeats 4000000 in
set_option maxRecDepth 100000 in
theorem cm_clear (l : Launch) (D : va_G) (ca : Nat → ClassId) (α : Nat → Nat) (A : Nat → Prop) (σ : mS) (o : Int32 × mS) (h : fm_clear σ  = some o) : mMetI l yX12_clear cX12_clear 2 (some .int) rmX12_clear D ca α A σ [] o := by
  refine Met.ofW (cc := cX12_clear) (maxL := 2) (ret := some .int) (by decide) rfl ?_
  intro p e s m args below meth c s₁ B hml hv
  obtain ⟨rfl, hP, hK, hD0⟩ := hv
  have C : mC p s m _ c cX12_clear 2 D ca := ⟨B.exec, B.bytes, hml, findClass_of_methodNamed B.named, fun w hw => atoms_spec (ws := mWs yX12_clear cX12_clear 2 (some .int)) B.pre w (List.mem_cons_of_mem _ hw), hK⟩
  have hM : mM D ca α A s.heap σ s.heap [] := ⟨hP, hD0, va_S.rf⟩
  have hr := B.returns
  have hlk := B.notSynchronized
  have hx := C.1
  have hb := C.2.1
  have hl := lv_entry ([.ref (α 0)]) (n := 2) (Nat.le_of_ble_eq_true rfl)
  rw [lg_entry_eq]
  generalize (lg_sl ([.ref (α 0)]) ++ List.replicate (2 - (lg_sl ([.ref (α 0)])).length) Slot.unset).toArray = ls at hl ⊢
  have hl : lv_has ls 2 [(0, .ref (α 0))] := hl
  unfold fm_clear at h
  refine lv_aload_n hx hb dX12_clear_0 rfl (lv_at hl 0 rfl) ?_
  refine lv_iconst (v := (0 : Int32)) hx hb dX12_clear_1 (by decide) ?_
  refine m_puti C hM (k := 0) rfl rfl dX12_clear_2 (fun H locs hM => ?_)
  refine lv_aload_n hx hb dX12_clear_5 rfl (lv_at hl 0 rfl) ?_
  refine m_geti C hM (k := 2) (Or.inl rfl) rfl dX12_clear_6 ?_
  refine lv_istore_n (lv' := [(1, .int ((mI σ 0 (0 : Int32)).1 2)), (0, .ref (α 0))]) hx hb dX12_clear_9 rfl hl (by decide) rfl (fun ls hl => ?_)
  refine lv_aload_n hx hb dX12_clear_10 rfl (lv_at hl 1 rfl) ?_
  refine lv_iconst (v := (0 : Int32)) hx hb dX12_clear_11 (by decide) ?_
  refine m_puti C hM (k := 2) rfl rfl dX12_clear_12 (fun H locs hM => ?_)
  refine lv_iload_n hx hb dX12_clear_15 rfl (lv_at hl 0 rfl) ?_
  exact m_ri C hM hr hlk dX12_clear_16 h
/-! isRowOfLetters(II)Z -/
abbrev rmX12_isRowOfLetters : Room := { frames := 0, cells := 0, slots := 0, locals := 0 }
def fm_isRowOfLetters_46 (k_22 : mS → Int32 → Int32 → Int32 → Option (Int32 × mS)) (σ : mS) (x2 : Int32) (x4 : Int32) (s0 : Int32) (s1 : Int32) : Option (Int32 × mS) :=
  k_22 σ x2 (s1 &&& s0) (x4 + (1 : Int32))
set_option maxHeartbeats 4000000 in
set_option maxRecDepth 100000 in
theorem gm_isRowOfLetters_46 {p : Program} {l : Launch} {e : Env} {s : State} {m : MethodId} {args : Array Value} {below : List Frame} {meth : Method} {c : Code} {D : va_G} {ca : Nat → ClassId} {α : Nat → Nat} {A : Nat → Prop} {o : Int32 × mS} {k_22 : mS → Int32 → Int32 → Int32 → Option (Int32 × mS)} (C : mC p s m args c cX12_isRowOfLetters 5 D ca) (hr : meth.sig.returnType = some .boolean) (hlk : meth.locks = false) (hk_22 : ∀ (σ : mS) (x2 : Int32) (x3 : Int32) (x4 : Int32) (H : Heap) (locs : List Loc) (ls : Array Slot), mM D ca α A s.heap σ H locs → lv_has ls 5 [(0, .ref (α 0)), (2, .int x2), (3, .int x3), (4, .int x4)] → k_22 σ x2 x3 x4 = some o → mGI p l e rmX12_isRowOfLetters s m args below meth c D ca α A o H locs 22 ls []) : ∀ (σ : mS) (x2 : Int32) (x4 : Int32) (s0 : Int32) (s1 : Int32) (H : Heap) (locs : List Loc) (ls : Array Slot), mM D ca α A s.heap σ H locs → lv_has ls 5 [(0, .ref (α 0)), (2, .int x2), (4, .int x4)] → fm_isRowOfLetters_46 k_22 σ x2 x4 s0 s1 = some o → mGI p l e rmX12_isRowOfLetters s m args below meth c D ca α A o H locs 46 ls [.int s0, .int s1] := by
  have hx := C.1
  have hb := C.2.1
  intro σ x2 x4 s0 s1 H locs ls hM hl h
  unfold fm_isRowOfLetters_46 at h
  refine lv_iand hx hb dX12_isRowOfLetters_46 ?_
  refine lv_istore_n (lv' := [(3, .int (s1 &&& s0)), (0, .ref (α 0)), (2, .int x2), (4, .int x4)]) hx hb dX12_isRowOfLetters_47 rfl hl (by decide) rfl (fun ls hl => ?_)
  refine lv_iinc (v := (x4 + (1 : Int32))) (lv' := [(4, .int (x4 + (1 : Int32))), (3, .int (s1 &&& s0)), (0, .ref (α 0)), (2, .int x2)]) hx hb dX12_isRowOfLetters_48 hl (k := 3) rfl rfl (by decide) rfl (fun ls hl => ?_)
  refine lv_goto (tgt := 22) hx hb dX12_isRowOfLetters_51 (by decide) ?_
  exact hk_22 _ _ _ _ _ _ _ hM (lv_sub hl [2, 3, 1, 0] rfl) h
def fm_isRowOfLetters_22 : Nat → mS → Int32 → Int32 → Int32 → Option (Int32 × mS)
  | 0, _, _, _, _ => none
  | n + 1, σ, x2, x3, x4 =>
    if x2 ≤ x4 then
      if x3 &&& 1 = x3 then some (x3, σ) else none
    else
      if x4 < 0 ∨ 30 ≤ x4.toNatClampNeg then none else
      if (σ.2.2.1 1 x4.toNatClampNeg) = (32 : Int32) then
        fm_isRowOfLetters_46 (fm_isRowOfLetters_22 n) σ x2 x4 (0 : Int32) x3
      else
        fm_isRowOfLetters_46 (fm_isRowOfLetters_22 n) σ x2 x4 (1 : Int32) x3
set_option maxHeartbeats 4000000 in
set_option maxRecDepth 100000 in
theorem gm_isRowOfLetters_22 {p : Program} {l : Launch} {e : Env} {s : State} {m : MethodId} {args : Array Value} {below : List Frame} {meth : Method} {c : Code} {D : va_G} {ca : Nat → ClassId} {α : Nat → Nat} {A : Nat → Prop} {o : Int32 × mS} (C : mC p s m args c cX12_isRowOfLetters 5 D ca) (hr : meth.sig.returnType = some .boolean) (hlk : meth.locks = false) : ∀ (n : Nat) (σ : mS) (x2 : Int32) (x3 : Int32) (x4 : Int32) (H : Heap) (locs : List Loc) (ls : Array Slot), mM D ca α A s.heap σ H locs → lv_has ls 5 [(0, .ref (α 0)), (2, .int x2), (3, .int x3), (4, .int x4)] → fm_isRowOfLetters_22 n σ x2 x3 x4 = some o → mGI p l e rmX12_isRowOfLetters s m args below meth c D ca α A o H locs 22 ls [] := by
  have hx := C.1
  have hb := C.2.1
  intro n
  induction n with
  | zero =>
    intro σ x2 x3 x4 H locs ls hM hl h
    cases h
  | succ n ih =>
    intro σ x2 x3 x4 H locs ls hM hl h
    rw [fm_isRowOfLetters_22] at h
    refine lv_iload hx hb dX12_isRowOfLetters_22 (lv_at hl 3 rfl) ?_
    refine lv_iload_n hx hb dX12_isRowOfLetters_24 rfl (lv_at hl 1 rfl) ?_
    refine lv_icmp_ge (tgt := 54) hx hb dX12_isRowOfLetters_25 (by decide) (fun c_1 => ?_) (fun c_1 => ?_)
    · have h := br_T c_1 h
      refine lv_iload_n hx hb dX12_isRowOfLetters_54 rfl (lv_at hl 2 rfl) ?_
      exact m_rz C hM hr hlk dX12_isRowOfLetters_55 h
    · have h := br_F c_1 h
      refine lv_iload_n hx hb dX12_isRowOfLetters_28 rfl (lv_at hl 2 rfl) ?_
      refine lv_aload_n hx hb dX12_isRowOfLetters_29 rfl (lv_at hl 0 rfl) ?_
      refine m_geta C hM (k := 1) (by decide) rfl dX12_isRowOfLetters_30 ?_
      refine lv_iload hx hb dX12_isRowOfLetters_33 (lv_at hl 3 rfl) ?_
      obtain ⟨c_2, h⟩ := ko_of h
      refine m_iald C hM (k := 1) rfl c_2 dX12_isRowOfLetters_35 ?_
      refine lv_bipush (v := (32 : Int32)) hx hb dX12_isRowOfLetters_36 (by decide) ?_
      refine lv_icmp_eq (tgt := 45) hx hb dX12_isRowOfLetters_38 (by decide) (fun c_3 => ?_) (fun c_3 => ?_)
      · have h := br_T c_3 h
        refine lv_iconst (v := (0 : Int32)) hx hb dX12_isRowOfLetters_45 (by decide) ?_
        exact gm_isRowOfLetters_46 C hr hlk ih _ _ _ _ _ _ _ _ hM (lv_sub hl [0, 1, 3] rfl) h
      · have h := br_F c_3 h
        refine lv_iconst (v := (1 : Int32)) hx hb dX12_isRowOfLetters_41 (by decide) ?_
        refine lv_goto (tgt := 46) hx hb dX12_isRowOfLetters_42 (by decide) ?_
        exact gm_isRowOfLetters_46 C hr hlk ih _ _ _ _ _ _ _ _ hM (lv_sub hl [0, 1, 3] rfl) h
def fm_isRowOfLetters_18 (σ : mS) (x1 : Int32) (x2 : Int32) (s0 : Int32) : Option (Int32 × mS) :=
  fm_isRowOfLetters_22 3000 σ x2 s0 x1
set_option maxHeartbeats 4000000 in
set_option maxRecDepth 100000 in
theorem gm_isRowOfLetters_18 {p : Program} {l : Launch} {e : Env} {s : State} {m : MethodId} {args : Array Value} {below : List Frame} {meth : Method} {c : Code} {D : va_G} {ca : Nat → ClassId} {α : Nat → Nat} {A : Nat → Prop} {o : Int32 × mS} (C : mC p s m args c cX12_isRowOfLetters 5 D ca) (hr : meth.sig.returnType = some .boolean) (hlk : meth.locks = false) : ∀ (σ : mS) (x1 : Int32) (x2 : Int32) (s0 : Int32) (H : Heap) (locs : List Loc) (ls : Array Slot), mM D ca α A s.heap σ H locs → lv_has ls 5 [(0, .ref (α 0)), (1, .int x1), (2, .int x2)] → fm_isRowOfLetters_18 σ x1 x2 s0 = some o → mGI p l e rmX12_isRowOfLetters s m args below meth c D ca α A o H locs 18 ls [.int s0] := by
  have hx := C.1
  have hb := C.2.1
  intro σ x1 x2 s0 H locs ls hM hl h
  unfold fm_isRowOfLetters_18 at h
  refine lv_istore_n (lv' := [(3, .int s0), (0, .ref (α 0)), (1, .int x1), (2, .int x2)]) hx hb dX12_isRowOfLetters_18 rfl hl (by decide) rfl (fun ls hl => ?_)
  refine lv_iload_n hx hb dX12_isRowOfLetters_19 rfl (lv_at hl 2 rfl) ?_
  refine lv_istore (lv' := [(4, .int x1), (3, .int s0), (0, .ref (α 0)), (1, .int x1), (2, .int x2)]) hx hb dX12_isRowOfLetters_20 hl (by decide) rfl (fun ls hl => ?_)
  exact gm_isRowOfLetters_22 C hr hlk  _ _ _ _ _ _ _ _ hM (lv_sub hl [2, 4, 1, 0] rfl) h
def fm_isRowOfLetters_17 (σ : mS) (x1 : Int32) (x2 : Int32) : Option (Int32 × mS) :=
  fm_isRowOfLetters_18 σ x1 x2 (0 : Int32)
set_option maxHeartbeats 4000000 in
set_option maxRecDepth 100000 in
theorem gm_isRowOfLetters_17 {p : Program} {l : Launch} {e : Env} {s : State} {m : MethodId} {args : Array Value} {below : List Frame} {meth : Method} {c : Code} {D : va_G} {ca : Nat → ClassId} {α : Nat → Nat} {A : Nat → Prop} {o : Int32 × mS} (C : mC p s m args c cX12_isRowOfLetters 5 D ca) (hr : meth.sig.returnType = some .boolean) (hlk : meth.locks = false) : ∀ (σ : mS) (x1 : Int32) (x2 : Int32) (H : Heap) (locs : List Loc) (ls : Array Slot), mM D ca α A s.heap σ H locs → lv_has ls 5 [(0, .ref (α 0)), (1, .int x1), (2, .int x2)] → fm_isRowOfLetters_17 σ x1 x2 = some o → mGI p l e rmX12_isRowOfLetters s m args below meth c D ca α A o H locs 17 ls [] := by
  have hx := C.1
  have hb := C.2.1
  intro σ x1 x2 H locs ls hM hl h
  unfold fm_isRowOfLetters_17 at h
  refine lv_iconst (v := (0 : Int32)) hx hb dX12_isRowOfLetters_17 (by decide) ?_
  exact gm_isRowOfLetters_18 C hr hlk  _ _ _ _ _ _ _ hM (lv_sub hl [0, 1, 2] rfl) h
def fm_isRowOfLetters (σ : mS) (x1 : Int32) (x2 : Int32) : Option (Int32 × mS) :=
  if x2 ≤ x1 then
    fm_isRowOfLetters_17 σ x1 x2
  else
    if (8 : Int32) < (x2 - x1) then
      fm_isRowOfLetters_17 σ x1 x2
    else
      fm_isRowOfLetters_18 σ x1 x2 (1 : Int32)
set_option maxHeartbeats 4000000 in
set_option maxRecDepth 100000 in
theorem cm_isRowOfLetters (l : Launch) (D : va_G) (ca : Nat → ClassId) (α : Nat → Nat) (A : Nat → Prop) (σ : mS) (x1 : Int32) (x2 : Int32) (o : Int32 × mS) (h : fm_isRowOfLetters σ x1 x2 = some o) : mMetI l yX12_isRowOfLetters cX12_isRowOfLetters 5 (some .boolean) rmX12_isRowOfLetters D ca α A σ [.int x1, .int x2] o := by
  refine Met.ofW (cc := cX12_isRowOfLetters) (maxL := 5) (ret := some .boolean) (by decide) rfl ?_
  intro p e s m args below meth c s₁ B hml hv
  obtain ⟨rfl, hP, hK, hD0⟩ := hv
  have C : mC p s m _ c cX12_isRowOfLetters 5 D ca := ⟨B.exec, B.bytes, hml, findClass_of_methodNamed B.named, fun w hw => atoms_spec (ws := mWs yX12_isRowOfLetters cX12_isRowOfLetters 5 (some .boolean)) B.pre w (List.mem_cons_of_mem _ hw), hK⟩
  have hM : mM D ca α A s.heap σ s.heap [] := ⟨hP, hD0, va_S.rf⟩
  have hr := B.returns
  have hlk := B.notSynchronized
  have hx := C.1
  have hb := C.2.1
  have hl := lv_entry ([.ref (α 0), .int x1, .int x2]) (n := 5) (Nat.le_of_ble_eq_true rfl)
  rw [lg_entry_eq]
  generalize (lg_sl ([.ref (α 0), .int x1, .int x2]) ++ List.replicate (5 - (lg_sl ([.ref (α 0), .int x1, .int x2])).length) Slot.unset).toArray = ls at hl ⊢
  have hl : lv_has ls 5 [(0, .ref (α 0)), (1, .int x1), (2, .int x2)] := hl
  unfold fm_isRowOfLetters at h
  refine lv_iload_n hx hb dX12_isRowOfLetters_0 rfl (lv_at hl 2 rfl) ?_
  refine lv_iload_n hx hb dX12_isRowOfLetters_1 rfl (lv_at hl 1 rfl) ?_
  refine lv_icmp_le (tgt := 17) hx hb dX12_isRowOfLetters_2 (by decide) (fun c_1 => ?_) (fun c_1 => ?_)
  · have h := br_T c_1 h
    exact gm_isRowOfLetters_17 C hr hlk  _ _ _ _ _ _ hM (lv_sub hl [0, 1, 2] rfl) h
  · have h := br_F c_1 h
    refine lv_iload_n hx hb dX12_isRowOfLetters_5 rfl (lv_at hl 2 rfl) ?_
    refine lv_iload_n hx hb dX12_isRowOfLetters_6 rfl (lv_at hl 1 rfl) ?_
    refine lv_isub hx hb dX12_isRowOfLetters_7 ?_
    refine lv_bipush (v := (8 : Int32)) hx hb dX12_isRowOfLetters_8 (by decide) ?_
    refine lv_icmp_gt (tgt := 17) hx hb dX12_isRowOfLetters_10 (by decide) (fun c_2 => ?_) (fun c_2 => ?_)
    · have h := br_T c_2 h
      exact gm_isRowOfLetters_17 C hr hlk  _ _ _ _ _ _ hM (lv_sub hl [0, 1, 2] rfl) h
    · have h := br_F c_2 h
      refine lv_iconst (v := (1 : Int32)) hx hb dX12_isRowOfLetters_13 (by decide) ?_
      refine lv_goto (tgt := 18) hx hb dX12_isRowOfLetters_14 (by decide) ?_
      exact gm_isRowOfLetters_18 C hr hlk  _ _ _ _ _ _ _ hM (lv_sub hl [0, 1, 2] rfl) h
theorem mwy_isRowOfLetters : mCallV RX12 149 yX12_isRowOfLetters cX12_isRowOfLetters 5 (some .boolean) 2 := ⟨⟨wl_in (i := 2029) (by decide +kernel), wl_in (i := 2031) (by decide +kernel), wl_inp (i := 28) (by decide +kernel), wl_in (i := 16) (by decide +kernel), wl_in (i := 2032) (by decide +kernel)⟩, rfl, by decide, by decide, by decide +kernel⟩
/-! isWord(I)Z -/
abbrev rmX12_isWord : Room := { frames := 1, cells := 0, slots := 0, locals := 22 }
def fm_isWord (σ : mS) (x1 : Int32) : Option (Int32 × mS) :=
  (fm_isBetween x1 (0 : Int32) ((σ.1 4) - (1 : Int32))).bind fun r_1 =>
  if r_1 &&& 1 = r_1 then some (r_1, σ) else none
set_option maxHeartbeats 4000000 in
set_option maxRecDepth 100000 in
theorem cm_isWord (l : Launch) (D : va_G) (ca : Nat → ClassId) (α : Nat → Nat) (A : Nat → Prop) (σ : mS) (x1 : Int32) (o : Int32 × mS) (h : fm_isWord σ x1 = some o) : mMetI l yX12_isWord cX12_isWord 2 (some .boolean) rmX12_isWord D ca α A σ [.int x1] o := by
  refine Met.ofW (cc := cX12_isWord) (maxL := 2) (ret := some .boolean) (by decide) rfl ?_
  intro p e s m args below meth c s₁ B hml hv
  obtain ⟨rfl, hP, hK, hD0⟩ := hv
  have C : mC p s m _ c cX12_isWord 2 D ca := ⟨B.exec, B.bytes, hml, findClass_of_methodNamed B.named, fun w hw => atoms_spec (ws := mWs yX12_isWord cX12_isWord 2 (some .boolean)) B.pre w (List.mem_cons_of_mem _ hw), hK⟩
  have hM : mM D ca α A s.heap σ s.heap [] := ⟨hP, hD0, va_S.rf⟩
  have hr := B.returns
  have hlk := B.notSynchronized
  have hx := C.1
  have hb := C.2.1
  have hl := lv_entry ([.ref (α 0), .int x1]) (n := 2) (Nat.le_of_ble_eq_true rfl)
  rw [lg_entry_eq]
  generalize (lg_sl ([.ref (α 0), .int x1]) ++ List.replicate (2 - (lg_sl ([.ref (α 0), .int x1])).length) Slot.unset).toArray = ls at hl ⊢
  have hl : lv_has ls 2 [(0, .ref (α 0)), (1, .int x1)] := hl
  unfold fm_isWord at h
  refine lv_iload_n hx hb dX12_isWord_0 rfl (lv_at hl 1 rfl) ?_
  refine lv_iconst (v := (0 : Int32)) hx hb dX12_isWord_1 (by decide) ?_
  refine lv_aload_n hx hb dX12_isWord_2 rfl (lv_at hl 0 rfl) ?_
  refine m_geti C hM (k := 4) (Or.inl rfl) rfl dX12_isWord_3 ?_
  refine lv_iconst (v := (1 : Int32)) hx hb dX12_isWord_6 (by decide) ?_
  refine lv_isub hx hb dX12_isWord_7 ?_
  obtain ⟨r_1, hr_1, h⟩ := bd_of h
  refine m_cSi (As := [.int x1, .int (0 : Int32), .int ((σ.1 4) - (1 : Int32))]) (rest := []) C hM (cm_isBetween l D ca α A σ x1 (0 : Int32) ((σ.1 4) - (1 : Int32)) r_1 hr_1) mwy_isBetween ⟨rfl, rfl⟩ ⟨Nat.le_of_ble_eq_true rfl, Nat.le_of_ble_eq_true rfl⟩ rfl rfl (Nat.le_of_ble_eq_true rfl) hl.1 dX12_isWord_8 ⟨rfl, rfl⟩ (fun H locs hM => ?_)
  exact m_rz C hM hr hlk dX12_isWord_11 h
theorem mwy_isWord : mCallV RX12 170 yX12_isWord cX12_isWord 2 (some .boolean) 1 := ⟨⟨wl_in (i := 2049) (by decide +kernel), wl_in (i := 2051) (by decide +kernel), wl_inp (i := 31) (by decide +kernel), wl_in (i := 16) (by decide +kernel), wl_in (i := 2052) (by decide +kernel)⟩, rfl, by decide, by decide, by decide +kernel⟩
/-! wordAt(II)I -/
abbrev rmX12_wordAt : Room := { frames := 0, cells := 0, slots := 0, locals := 0 }
def fm_wordAt_91 (k_5 : mS → Int32 → Int32 → Int32 → Int32 → Option (Int32 × mS)) (k_37 : mS → Int32 → Int32 → Int32 → Int32 → Int32 → Int32 → Option (Int32 × mS)) (σ : mS) (x1 : Int32) (x2 : Int32) (x3 : Int32) (x4 : Int32) (x6 : Int32) (s0 : Int32) : Option (Int32 × mS) :=
  k_37 σ x1 x2 x3 x4 s0 (x6 + (1 : Int32))
set_option maxHeartbeats 4000000 in
set_option maxRecDepth 100000 in
theorem gm_wordAt_91 {p : Program} {l : Launch} {e : Env} {s : State} {m : MethodId} {args : Array Value} {below : List Frame} {meth : Method} {c : Code} {D : va_G} {ca : Nat → ClassId} {α : Nat → Nat} {A : Nat → Prop} {o : Int32 × mS} {k_5 : mS → Int32 → Int32 → Int32 → Int32 → Option (Int32 × mS)} {k_37 : mS → Int32 → Int32 → Int32 → Int32 → Int32 → Int32 → Option (Int32 × mS)} (C : mC p s m args c cX12_wordAt 7 D ca) (hr : meth.sig.returnType = some .int) (hlk : meth.locks = false) (hk_5 : ∀ (σ : mS) (x1 : Int32) (x2 : Int32) (x3 : Int32) (x4 : Int32) (H : Heap) (locs : List Loc) (ls : Array Slot), mM D ca α A s.heap σ H locs → lv_has ls 7 [(0, .ref (α 0)), (1, .int x1), (2, .int x2), (3, .int x3), (4, .int x4)] → k_5 σ x1 x2 x3 x4 = some o → mGI p l e rmX12_wordAt s m args below meth c D ca α A o H locs 5 ls []) (hk_37 : ∀ (σ : mS) (x1 : Int32) (x2 : Int32) (x3 : Int32) (x4 : Int32) (x5 : Int32) (x6 : Int32) (H : Heap) (locs : List Loc) (ls : Array Slot), mM D ca α A s.heap σ H locs → lv_has ls 7 [(0, .ref (α 0)), (1, .int x1), (2, .int x2), (3, .int x3), (4, .int x4), (5, .int x5), (6, .int x6)] → k_37 σ x1 x2 x3 x4 x5 x6 = some o → mGI p l e rmX12_wordAt s m args below meth c D ca α A o H locs 37 ls []) : ∀ (σ : mS) (x1 : Int32) (x2 : Int32) (x3 : Int32) (x4 : Int32) (x6 : Int32) (s0 : Int32) (H : Heap) (locs : List Loc) (ls : Array Slot), mM D ca α A s.heap σ H locs → lv_has ls 7 [(0, .ref (α 0)), (1, .int x1), (2, .int x2), (3, .int x3), (4, .int x4), (6, .int x6)] → fm_wordAt_91 k_5 k_37 σ x1 x2 x3 x4 x6 s0 = some o → mGI p l e rmX12_wordAt s m args below meth c D ca α A o H locs 91 ls [.int s0] := by
  have hx := C.1
  have hb := C.2.1
  intro σ x1 x2 x3 x4 x6 s0 H locs ls hM hl h
  unfold fm_wordAt_91 at h
  refine lv_istore (lv' := [(5, .int s0), (0, .ref (α 0)), (1, .int x1), (2, .int x2), (3, .int x3), (4, .int x4), (6, .int x6)]) hx hb dX12_wordAt_91 hl (by decide) rfl (fun ls hl => ?_)
  refine lv_iinc (v := (x6 + (1 : Int32))) (lv' := [(6, .int (x6 + (1 : Int32))), (5, .int s0), (0, .ref (α 0)), (1, .int x1), (2, .int x2), (3, .int x3), (4, .int x4)]) hx hb dX12_wordAt_93 hl (k := 6) rfl rfl (by decide) rfl (fun ls hl => ?_)
  refine lv_goto (tgt := 37) hx hb dX12_wordAt_96 (by decide) ?_
  exact hk_37 _ _ _ _ _ _ _ _ _ _ hM (lv_sub hl [2, 3, 4, 5, 6, 1, 0] rfl) h
def fm_wordAt_83 (k_5 : mS → Int32 → Int32 → Int32 → Int32 → Option (Int32 × mS)) (k_37 : mS → Int32 → Int32 → Int32 → Int32 → Int32 → Int32 → Option (Int32 × mS)) (σ : mS) (x1 : Int32) (x2 : Int32) (x3 : Int32) (x4 : Int32) (x6 : Int32) (s0 : Int32) (s1 : Int32) : Option (Int32 × mS) :=
  if s1 = s0 then
    fm_wordAt_91 k_5 k_37 σ x1 x2 x3 x4 x6 (1 : Int32)
  else
    fm_wordAt_91 k_5 k_37 σ x1 x2 x3 x4 x6 (0 : Int32)
set_option maxHeartbeats 4000000 in
set_option maxRecDepth 100000 in
theorem gm_wordAt_83 {p : Program} {l : Launch} {e : Env} {s : State} {m : MethodId} {args : Array Value} {below : List Frame} {meth : Method} {c : Code} {D : va_G} {ca : Nat → ClassId} {α : Nat → Nat} {A : Nat → Prop} {o : Int32 × mS} {k_5 : mS → Int32 → Int32 → Int32 → Int32 → Option (Int32 × mS)} {k_37 : mS → Int32 → Int32 → Int32 → Int32 → Int32 → Int32 → Option (Int32 × mS)} (C : mC p s m args c cX12_wordAt 7 D ca) (hr : meth.sig.returnType = some .int) (hlk : meth.locks = false) (hk_5 : ∀ (σ : mS) (x1 : Int32) (x2 : Int32) (x3 : Int32) (x4 : Int32) (H : Heap) (locs : List Loc) (ls : Array Slot), mM D ca α A s.heap σ H locs → lv_has ls 7 [(0, .ref (α 0)), (1, .int x1), (2, .int x2), (3, .int x3), (4, .int x4)] → k_5 σ x1 x2 x3 x4 = some o → mGI p l e rmX12_wordAt s m args below meth c D ca α A o H locs 5 ls []) (hk_37 : ∀ (σ : mS) (x1 : Int32) (x2 : Int32) (x3 : Int32) (x4 : Int32) (x5 : Int32) (x6 : Int32) (H : Heap) (locs : List Loc) (ls : Array Slot), mM D ca α A s.heap σ H locs → lv_has ls 7 [(0, .ref (α 0)), (1, .int x1), (2, .int x2), (3, .int x3), (4, .int x4), (5, .int x5), (6, .int x6)] → k_37 σ x1 x2 x3 x4 x5 x6 = some o → mGI p l e rmX12_wordAt s m args below meth c D ca α A o H locs 37 ls []) : ∀ (σ : mS) (x1 : Int32) (x2 : Int32) (x3 : Int32) (x4 : Int32) (x6 : Int32) (s0 : Int32) (s1 : Int32) (H : Heap) (locs : List Loc) (ls : Array Slot), mM D ca α A s.heap σ H locs → lv_has ls 7 [(0, .ref (α 0)), (1, .int x1), (2, .int x2), (3, .int x3), (4, .int x4), (6, .int x6)] → fm_wordAt_83 k_5 k_37 σ x1 x2 x3 x4 x6 s0 s1 = some o → mGI p l e rmX12_wordAt s m args below meth c D ca α A o H locs 83 ls [.int s0, .int s1] := by
  have hx := C.1
  have hb := C.2.1
  intro σ x1 x2 x3 x4 x6 s0 s1 H locs ls hM hl h
  unfold fm_wordAt_83 at h
  refine lv_icmp_ne (tgt := 90) hx hb dX12_wordAt_83 (by decide) (fun c_1 => ?_) (fun c_1 => ?_)
  · have h := br_F c_1 h
    refine lv_iconst (v := (0 : Int32)) hx hb dX12_wordAt_90 (by decide) ?_
    exact gm_wordAt_91 C hr hlk hk_5 hk_37 _ _ _ _ _ _ _ _ _ _ hM (lv_sub hl [0, 1, 2, 3, 4, 5] rfl) h
  · have h := br_T c_1 h
    refine lv_iconst (v := (1 : Int32)) hx hb dX12_wordAt_86 (by decide) ?_
    refine lv_goto (tgt := 91) hx hb dX12_wordAt_87 (by decide) ?_
    exact gm_wordAt_91 C hr hlk hk_5 hk_37 _ _ _ _ _ _ _ _ _ _ hM (lv_sub hl [0, 1, 2, 3, 4, 5] rfl) h
def fm_wordAt_110 (k_5 : mS → Int32 → Int32 → Int32 → Int32 → Option (Int32 × mS)) (σ : mS) (x1 : Int32) (x2 : Int32) (x4 : Int32) (s0 : Int32) : Option (Int32 × mS) :=
  k_5 σ x1 x2 s0 (x4 + (1 : Int32))
set_option maxHeartbeats 4000000 in
set_option maxRecDepth 100000 in
theorem gm_wordAt_110 {p : Program} {l : Launch} {e : Env} {s : State} {m : MethodId} {args : Array Value} {below : List Frame} {meth : Method} {c : Code} {D : va_G} {ca : Nat → ClassId} {α : Nat → Nat} {A : Nat → Prop} {o : Int32 × mS} {k_5 : mS → Int32 → Int32 → Int32 → Int32 → Option (Int32 × mS)} (C : mC p s m args c cX12_wordAt 7 D ca) (hr : meth.sig.returnType = some .int) (hlk : meth.locks = false) (hk_5 : ∀ (σ : mS) (x1 : Int32) (x2 : Int32) (x3 : Int32) (x4 : Int32) (H : Heap) (locs : List Loc) (ls : Array Slot), mM D ca α A s.heap σ H locs → lv_has ls 7 [(0, .ref (α 0)), (1, .int x1), (2, .int x2), (3, .int x3), (4, .int x4)] → k_5 σ x1 x2 x3 x4 = some o → mGI p l e rmX12_wordAt s m args below meth c D ca α A o H locs 5 ls []) : ∀ (σ : mS) (x1 : Int32) (x2 : Int32) (x4 : Int32) (s0 : Int32) (H : Heap) (locs : List Loc) (ls : Array Slot), mM D ca α A s.heap σ H locs → lv_has ls 7 [(0, .ref (α 0)), (1, .int x1), (2, .int x2), (4, .int x4)] → fm_wordAt_110 k_5 σ x1 x2 x4 s0 = some o → mGI p l e rmX12_wordAt s m args below meth c D ca α A o H locs 110 ls [.int s0] := by
  have hx := C.1
  have hb := C.2.1
  intro σ x1 x2 x4 s0 H locs ls hM hl h
  unfold fm_wordAt_110 at h
  refine lv_istore_n (lv' := [(3, .int s0), (0, .ref (α 0)), (1, .int x1), (2, .int x2), (4, .int x4)]) hx hb dX12_wordAt_110 rfl hl (by decide) rfl (fun ls hl => ?_)
  refine lv_iinc (v := (x4 + (1 : Int32))) (lv' := [(4, .int (x4 + (1 : Int32))), (3, .int s0), (0, .ref (α 0)), (1, .int x1), (2, .int x2)]) hx hb dX12_wordAt_111 hl (k := 4) rfl rfl (by decide) rfl (fun ls hl => ?_)
  refine lv_goto (tgt := 5) hx hb dX12_wordAt_114 (by decide) ?_
  exact hk_5 _ _ _ _ _ _ _ _ hM (lv_sub hl [2, 3, 4, 1, 0] rfl) h
def fm_wordAt_99 (k_5 : mS → Int32 → Int32 → Int32 → Int32 → Option (Int32 × mS)) (σ : mS) (x1 : Int32) (x2 : Int32) (x3 : Int32) (x4 : Int32) (x5 : Int32) : Option (Int32 × mS) :=
  if x5 = 0 then
    fm_wordAt_110 k_5 σ x1 x2 x4 x3
  else
    fm_wordAt_110 k_5 σ x1 x2 x4 x4
set_option maxHeartbeats 4000000 in
set_option maxRecDepth 100000 in
theorem gm_wordAt_99 {p : Program} {l : Launch} {e : Env} {s : State} {m : MethodId} {args : Array Value} {below : List Frame} {meth : Method} {c : Code} {D : va_G} {ca : Nat → ClassId} {α : Nat → Nat} {A : Nat → Prop} {o : Int32 × mS} {k_5 : mS → Int32 → Int32 → Int32 → Int32 → Option (Int32 × mS)} (C : mC p s m args c cX12_wordAt 7 D ca) (hr : meth.sig.returnType = some .int) (hlk : meth.locks = false) (hk_5 : ∀ (σ : mS) (x1 : Int32) (x2 : Int32) (x3 : Int32) (x4 : Int32) (H : Heap) (locs : List Loc) (ls : Array Slot), mM D ca α A s.heap σ H locs → lv_has ls 7 [(0, .ref (α 0)), (1, .int x1), (2, .int x2), (3, .int x3), (4, .int x4)] → k_5 σ x1 x2 x3 x4 = some o → mGI p l e rmX12_wordAt s m args below meth c D ca α A o H locs 5 ls []) : ∀ (σ : mS) (x1 : Int32) (x2 : Int32) (x3 : Int32) (x4 : Int32) (x5 : Int32) (H : Heap) (locs : List Loc) (ls : Array Slot), mM D ca α A s.heap σ H locs → lv_has ls 7 [(0, .ref (α 0)), (1, .int x1), (2, .int x2), (3, .int x3), (4, .int x4), (5, .int x5)] → fm_wordAt_99 k_5 σ x1 x2 x3 x4 x5 = some o → mGI p l e rmX12_wordAt s m args below meth c D ca α A o H locs 99 ls [] := by
  have hx := C.1
  have hb := C.2.1
  intro σ x1 x2 x3 x4 x5 H locs ls hM hl h
  unfold fm_wordAt_99 at h
  refine lv_iload hx hb dX12_wordAt_99 (lv_at hl 5 rfl) ?_
  refine lv_if_eq (tgt := 109) hx hb dX12_wordAt_101 (by decide) (fun c_1 => ?_) (fun c_1 => ?_)
  · have h := br_T c_1 h
    refine lv_iload_n hx hb dX12_wordAt_109 rfl (lv_at hl 3 rfl) ?_
    exact gm_wordAt_110 C hr hlk hk_5 _ _ _ _ _ _ _ _ hM (lv_sub hl [0, 1, 2, 4] rfl) h
  · have h := br_F c_1 h
    refine lv_iload hx hb dX12_wordAt_104 (lv_at hl 4 rfl) ?_
    refine lv_goto (tgt := 110) hx hb dX12_wordAt_106 (by decide) ?_
    exact gm_wordAt_110 C hr hlk hk_5 _ _ _ _ _ _ _ _ hM (lv_sub hl [0, 1, 2, 4] rfl) h
def fm_wordAt_37 (k_5 : mS → Int32 → Int32 → Int32 → Int32 → Option (Int32 × mS)) : Nat → mS → Int32 → Int32 → Int32 → Int32 → Int32 → Int32 → Option (Int32 × mS)
  | 0, _, _, _, _, _, _, _ => none
  | n + 1, σ, x1, x2, x3, x4, x5, x6 =>
    if (8 : Int32) ≤ x6 then
      fm_wordAt_99 k_5 σ x1 x2 x3 x4 x5
    else
      if x5 = 0 then
        fm_wordAt_99 k_5 σ x1 x2 x3 x4 x5
      else
        if (((8 : Int32) * x4) + x6) < 0 ∨ 320 ≤ (((8 : Int32) * x4) + x6).toNatClampNeg then none else
        if x2 ≤ (x1 + x6) then
          fm_wordAt_83 k_5 (fm_wordAt_37 k_5 n) σ x1 x2 x3 x4 x6 (0 : Int32) (σ.2.2.1 3 (((8 : Int32) * x4) + x6).toNatClampNeg)
        else
          if (x1 + x6) < 0 ∨ 30 ≤ (x1 + x6).toNatClampNeg then none else
          fm_wordAt_83 k_5 (fm_wordAt_37 k_5 n) σ x1 x2 x3 x4 x6 (σ.2.2.1 1 (x1 + x6).toNatClampNeg) (σ.2.2.1 3 (((8 : Int32) * x4) + x6).toNatClampNeg)
set_option maxHeartbeats 4000000 in
set_option maxRecDepth 100000 in
theorem gm_wordAt_37 {p : Program} {l : Launch} {e : Env} {s : State} {m : MethodId} {args : Array Value} {below : List Frame} {meth : Method} {c : Code} {D : va_G} {ca : Nat → ClassId} {α : Nat → Nat} {A : Nat → Prop} {o : Int32 × mS} {k_5 : mS → Int32 → Int32 → Int32 → Int32 → Option (Int32 × mS)} (C : mC p s m args c cX12_wordAt 7 D ca) (hr : meth.sig.returnType = some .int) (hlk : meth.locks = false) (hk_5 : ∀ (σ : mS) (x1 : Int32) (x2 : Int32) (x3 : Int32) (x4 : Int32) (H : Heap) (locs : List Loc) (ls : Array Slot), mM D ca α A s.heap σ H locs → lv_has ls 7 [(0, .ref (α 0)), (1, .int x1), (2, .int x2), (3, .int x3), (4, .int x4)] → k_5 σ x1 x2 x3 x4 = some o → mGI p l e rmX12_wordAt s m args below meth c D ca α A o H locs 5 ls []) : ∀ (n : Nat) (σ : mS) (x1 : Int32) (x2 : Int32) (x3 : Int32) (x4 : Int32) (x5 : Int32) (x6 : Int32) (H : Heap) (locs : List Loc) (ls : Array Slot), mM D ca α A s.heap σ H locs → lv_has ls 7 [(0, .ref (α 0)), (1, .int x1), (2, .int x2), (3, .int x3), (4, .int x4), (5, .int x5), (6, .int x6)] → fm_wordAt_37 k_5 n σ x1 x2 x3 x4 x5 x6 = some o → mGI p l e rmX12_wordAt s m args below meth c D ca α A o H locs 37 ls [] := by
  have hx := C.1
  have hb := C.2.1
  intro n
  induction n with
  | zero =>
    intro σ x1 x2 x3 x4 x5 x6 H locs ls hM hl h
    cases h
  | succ n ih =>
    intro σ x1 x2 x3 x4 x5 x6 H locs ls hM hl h
    rw [fm_wordAt_37] at h
    refine lv_iload hx hb dX12_wordAt_37 (lv_at hl 6 rfl) ?_
    refine lv_bipush (v := (8 : Int32)) hx hb dX12_wordAt_39 (by decide) ?_
    refine lv_icmp_ge (tgt := 99) hx hb dX12_wordAt_41 (by decide) (fun c_1 => ?_) (fun c_1 => ?_)
    · have h := br_T c_1 h
      exact gm_wordAt_99 C hr hlk hk_5 _ _ _ _ _ _ _ _ _ hM (lv_sub hl [0, 1, 2, 3, 4, 5] rfl) h
    · have h := br_F c_1 h
      refine lv_iload hx hb dX12_wordAt_44 (lv_at hl 5 rfl) ?_
      refine lv_if_eq (tgt := 99) hx hb dX12_wordAt_46 (by decide) (fun c_2 => ?_) (fun c_2 => ?_)
      · have h := br_T c_2 h
        exact gm_wordAt_99 C hr hlk hk_5 _ _ _ _ _ _ _ _ _ hM (lv_sub hl [0, 1, 2, 3, 4, 5] rfl) h
      · have h := br_F c_2 h
        refine lv_aload_n hx hb dX12_wordAt_49 rfl (lv_at hl 0 rfl) ?_
        refine m_geta C hM (k := 3) (by decide) rfl dX12_wordAt_50 ?_
        refine lv_bipush (v := (8 : Int32)) hx hb dX12_wordAt_53 (by decide) ?_
        refine lv_iload hx hb dX12_wordAt_55 (lv_at hl 4 rfl) ?_
        refine lv_imul hx hb dX12_wordAt_57 ?_
        refine lv_iload hx hb dX12_wordAt_58 (lv_at hl 6 rfl) ?_
        refine lv_iadd hx hb dX12_wordAt_60 ?_
        obtain ⟨c_3, h⟩ := ko_of h
        refine m_iald C hM (k := 3) rfl c_3 dX12_wordAt_61 ?_
        refine lv_iload_n hx hb dX12_wordAt_62 rfl (lv_at hl 1 rfl) ?_
        refine lv_iload hx hb dX12_wordAt_63 (lv_at hl 6 rfl) ?_
        refine lv_iadd hx hb dX12_wordAt_65 ?_
        refine lv_iload_n hx hb dX12_wordAt_66 rfl (lv_at hl 2 rfl) ?_
        refine lv_icmp_ge (tgt := 82) hx hb dX12_wordAt_67 (by decide) (fun c_4 => ?_) (fun c_4 => ?_)
        · have h := br_T c_4 h
          refine lv_iconst (v := (0 : Int32)) hx hb dX12_wordAt_82 (by decide) ?_
          exact gm_wordAt_83 C hr hlk hk_5 ih _ _ _ _ _ _ _ _ _ _ _ hM (lv_sub hl [0, 1, 2, 3, 4, 6] rfl) h
        · have h := br_F c_4 h
          refine lv_aload_n hx hb dX12_wordAt_70 rfl (lv_at hl 0 rfl) ?_
          refine m_geta C hM (k := 1) (by decide) rfl dX12_wordAt_71 ?_
          refine lv_iload_n hx hb dX12_wordAt_74 rfl (lv_at hl 1 rfl) ?_
          refine lv_iload hx hb dX12_wordAt_75 (lv_at hl 6 rfl) ?_
          refine lv_iadd hx hb dX12_wordAt_77 ?_
          obtain ⟨c_5, h⟩ := ko_of h
          refine m_iald C hM (k := 1) rfl c_5 dX12_wordAt_78 ?_
          refine lv_goto (tgt := 83) hx hb dX12_wordAt_79 (by decide) ?_
          exact gm_wordAt_83 C hr hlk hk_5 ih _ _ _ _ _ _ _ _ _ _ _ hM (lv_sub hl [0, 1, 2, 3, 4, 6] rfl) h
def fm_wordAt_32 (k_5 : mS → Int32 → Int32 → Int32 → Int32 → Option (Int32 × mS)) (σ : mS) (x1 : Int32) (x2 : Int32) (x3 : Int32) (x4 : Int32) (s0 : Int32) : Option (Int32 × mS) :=
  fm_wordAt_37 k_5 3000 σ x1 x2 x3 x4 s0 (0 : Int32)
set_option maxHeartbeats 4000000 in
set_option maxRecDepth 100000 in
theorem gm_wordAt_32 {p : Program} {l : Launch} {e : Env} {s : State} {m : MethodId} {args : Array Value} {below : List Frame} {meth : Method} {c : Code} {D : va_G} {ca : Nat → ClassId} {α : Nat → Nat} {A : Nat → Prop} {o : Int32 × mS} {k_5 : mS → Int32 → Int32 → Int32 → Int32 → Option (Int32 × mS)} (C : mC p s m args c cX12_wordAt 7 D ca) (hr : meth.sig.returnType = some .int) (hlk : meth.locks = false) (hk_5 : ∀ (σ : mS) (x1 : Int32) (x2 : Int32) (x3 : Int32) (x4 : Int32) (H : Heap) (locs : List Loc) (ls : Array Slot), mM D ca α A s.heap σ H locs → lv_has ls 7 [(0, .ref (α 0)), (1, .int x1), (2, .int x2), (3, .int x3), (4, .int x4)] → k_5 σ x1 x2 x3 x4 = some o → mGI p l e rmX12_wordAt s m args below meth c D ca α A o H locs 5 ls []) : ∀ (σ : mS) (x1 : Int32) (x2 : Int32) (x3 : Int32) (x4 : Int32) (s0 : Int32) (H : Heap) (locs : List Loc) (ls : Array Slot), mM D ca α A s.heap σ H locs → lv_has ls 7 [(0, .ref (α 0)), (1, .int x1), (2, .int x2), (3, .int x3), (4, .int x4)] → fm_wordAt_32 k_5 σ x1 x2 x3 x4 s0 = some o → mGI p l e rmX12_wordAt s m args below meth c D ca α A o H locs 32 ls [.int s0] := by
  have hx := C.1
  have hb := C.2.1
  intro σ x1 x2 x3 x4 s0 H locs ls hM hl h
  unfold fm_wordAt_32 at h
  refine lv_istore (lv' := [(5, .int s0), (0, .ref (α 0)), (1, .int x1), (2, .int x2), (3, .int x3), (4, .int x4)]) hx hb dX12_wordAt_32 hl (by decide) rfl (fun ls hl => ?_)
  refine lv_iconst (v := (0 : Int32)) hx hb dX12_wordAt_34 (by decide) ?_
  refine lv_istore (lv' := [(6, .int (0 : Int32)), (5, .int s0), (0, .ref (α 0)), (1, .int x1), (2, .int x2), (3, .int x3), (4, .int x4)]) hx hb dX12_wordAt_35 hl (by decide) rfl (fun ls hl => ?_)
  exact gm_wordAt_37 C hr hlk hk_5 _ _ _ _ _ _ _ _ _ _ _ hM (lv_sub hl [2, 3, 4, 5, 6, 1, 0] rfl) h
def fm_wordAt_31 (k_5 : mS → Int32 → Int32 → Int32 → Int32 → Option (Int32 × mS)) (σ : mS) (x1 : Int32) (x2 : Int32) (x3 : Int32) (x4 : Int32) : Option (Int32 × mS) :=
  fm_wordAt_32 k_5 σ x1 x2 x3 x4 (0 : Int32)
set_option maxHeartbeats 4000000 in
set_option maxRecDepth 100000 in
theorem gm_wordAt_31 {p : Program} {l : Launch} {e : Env} {s : State} {m : MethodId} {args : Array Value} {below : List Frame} {meth : Method} {c : Code} {D : va_G} {ca : Nat → ClassId} {α : Nat → Nat} {A : Nat → Prop} {o : Int32 × mS} {k_5 : mS → Int32 → Int32 → Int32 → Int32 → Option (Int32 × mS)} (C : mC p s m args c cX12_wordAt 7 D ca) (hr : meth.sig.returnType = some .int) (hlk : meth.locks = false) (hk_5 : ∀ (σ : mS) (x1 : Int32) (x2 : Int32) (x3 : Int32) (x4 : Int32) (H : Heap) (locs : List Loc) (ls : Array Slot), mM D ca α A s.heap σ H locs → lv_has ls 7 [(0, .ref (α 0)), (1, .int x1), (2, .int x2), (3, .int x3), (4, .int x4)] → k_5 σ x1 x2 x3 x4 = some o → mGI p l e rmX12_wordAt s m args below meth c D ca α A o H locs 5 ls []) : ∀ (σ : mS) (x1 : Int32) (x2 : Int32) (x3 : Int32) (x4 : Int32) (H : Heap) (locs : List Loc) (ls : Array Slot), mM D ca α A s.heap σ H locs → lv_has ls 7 [(0, .ref (α 0)), (1, .int x1), (2, .int x2), (3, .int x3), (4, .int x4)] → fm_wordAt_31 k_5 σ x1 x2 x3 x4 = some o → mGI p l e rmX12_wordAt s m args below meth c D ca α A o H locs 31 ls [] := by
  have hx := C.1
  have hb := C.2.1
  intro σ x1 x2 x3 x4 H locs ls hM hl h
  unfold fm_wordAt_31 at h
  refine lv_iconst (v := (0 : Int32)) hx hb dX12_wordAt_31 (by decide) ?_
  exact gm_wordAt_32 C hr hlk hk_5 _ _ _ _ _ _ _ _ _ hM (lv_sub hl [0, 1, 2, 3, 4] rfl) h
def fm_wordAt_5 : Nat → mS → Int32 → Int32 → Int32 → Int32 → Option (Int32 × mS)
  | 0, _, _, _, _, _ => none
  | n + 1, σ, x1, x2, x3, x4 =>
    if (σ.1 4) ≤ x4 then
      some (x3, σ)
    else
      if (8 : Int32) < (x2 - x1) then
        fm_wordAt_31 (fm_wordAt_5 n) σ x1 x2 x3 x4
      else
        if x2 ≤ x1 then
          fm_wordAt_31 (fm_wordAt_5 n) σ x1 x2 x3 x4
        else
          fm_wordAt_32 (fm_wordAt_5 n) σ x1 x2 x3 x4 (1 : Int32)
set_option maxHeartbeats 4000000 in
set_option maxRecDepth 100000 in
theorem gm_wordAt_5 {p : Program} {l : Launch} {e : Env} {s : State} {m : MethodId} {args : Array Value} {below : List Frame} {meth : Method} {c : Code} {D : va_G} {ca : Nat → ClassId} {α : Nat → Nat} {A : Nat → Prop} {o : Int32 × mS} (C : mC p s m args c cX12_wordAt 7 D ca) (hr : meth.sig.returnType = some .int) (hlk : meth.locks = false) : ∀ (n : Nat) (σ : mS) (x1 : Int32) (x2 : Int32) (x3 : Int32) (x4 : Int32) (H : Heap) (locs : List Loc) (ls : Array Slot), mM D ca α A s.heap σ H locs → lv_has ls 7 [(0, .ref (α 0)), (1, .int x1), (2, .int x2), (3, .int x3), (4, .int x4)] → fm_wordAt_5 n σ x1 x2 x3 x4 = some o → mGI p l e rmX12_wordAt s m args below meth c D ca α A o H locs 5 ls [] := by
  have hx := C.1
  have hb := C.2.1
  intro n
  induction n with
  | zero =>
    intro σ x1 x2 x3 x4 H locs ls hM hl h
    cases h
  | succ n ih =>
    intro σ x1 x2 x3 x4 H locs ls hM hl h
    rw [fm_wordAt_5] at h
    refine lv_iload hx hb dX12_wordAt_5 (lv_at hl 4 rfl) ?_
    refine lv_aload_n hx hb dX12_wordAt_7 rfl (lv_at hl 0 rfl) ?_
    refine m_geti C hM (k := 4) (Or.inl rfl) rfl dX12_wordAt_8 ?_
    refine lv_icmp_ge (tgt := 117) hx hb dX12_wordAt_11 (by decide) (fun c_1 => ?_) (fun c_1 => ?_)
    · have h := br_T c_1 h
      refine lv_iload_n hx hb dX12_wordAt_117 rfl (lv_at hl 3 rfl) ?_
      exact m_ri C hM hr hlk dX12_wordAt_118 h
    · have h := br_F c_1 h
      refine lv_iload_n hx hb dX12_wordAt_14 rfl (lv_at hl 2 rfl) ?_
      refine lv_iload_n hx hb dX12_wordAt_15 rfl (lv_at hl 1 rfl) ?_
      refine lv_isub hx hb dX12_wordAt_16 ?_
      refine lv_bipush (v := (8 : Int32)) hx hb dX12_wordAt_17 (by decide) ?_
      refine lv_icmp_gt (tgt := 31) hx hb dX12_wordAt_19 (by decide) (fun c_2 => ?_) (fun c_2 => ?_)
      · have h := br_T c_2 h
        exact gm_wordAt_31 C hr hlk ih _ _ _ _ _ _ _ _ hM (lv_sub hl [0, 1, 2, 3, 4] rfl) h
      · have h := br_F c_2 h
        refine lv_iload_n hx hb dX12_wordAt_22 rfl (lv_at hl 2 rfl) ?_
        refine lv_iload_n hx hb dX12_wordAt_23 rfl (lv_at hl 1 rfl) ?_
        refine lv_icmp_le (tgt := 31) hx hb dX12_wordAt_24 (by decide) (fun c_3 => ?_) (fun c_3 => ?_)
        · have h := br_T c_3 h
          exact gm_wordAt_31 C hr hlk ih _ _ _ _ _ _ _ _ hM (lv_sub hl [0, 1, 2, 3, 4] rfl) h
        · have h := br_F c_3 h
          refine lv_iconst (v := (1 : Int32)) hx hb dX12_wordAt_27 (by decide) ?_
          refine lv_goto (tgt := 32) hx hb dX12_wordAt_28 (by decide) ?_
          exact gm_wordAt_32 C hr hlk ih _ _ _ _ _ _ _ _ _ hM (lv_sub hl [0, 1, 2, 3, 4] rfl) h
def fm_wordAt (σ : mS) (x1 : Int32) (x2 : Int32) : Option (Int32 × mS) :=
  fm_wordAt_5 3000 σ x1 x2 (-1 : Int32) (0 : Int32)
set_option maxHeartbeats 4000000 in
set_option maxRecDepth 100000 in
theorem cm_wordAt (l : Launch) (D : va_G) (ca : Nat → ClassId) (α : Nat → Nat) (A : Nat → Prop) (σ : mS) (x1 : Int32) (x2 : Int32) (o : Int32 × mS) (h : fm_wordAt σ x1 x2 = some o) : mMetI l yX12_wordAt cX12_wordAt 7 (some .int) rmX12_wordAt D ca α A σ [.int x1, .int x2] o := by
  refine Met.ofW (cc := cX12_wordAt) (maxL := 7) (ret := some .int) (by decide) rfl ?_
  intro p e s m args below meth c s₁ B hml hv
  obtain ⟨rfl, hP, hK, hD0⟩ := hv
  have C : mC p s m _ c cX12_wordAt 7 D ca := ⟨B.exec, B.bytes, hml, findClass_of_methodNamed B.named, fun w hw => atoms_spec (ws := mWs yX12_wordAt cX12_wordAt 7 (some .int)) B.pre w (List.mem_cons_of_mem _ hw), hK⟩
  have hM : mM D ca α A s.heap σ s.heap [] := ⟨hP, hD0, va_S.rf⟩
  have hr := B.returns
  have hlk := B.notSynchronized
  have hx := C.1
  have hb := C.2.1
  have hl := lv_entry ([.ref (α 0), .int x1, .int x2]) (n := 7) (Nat.le_of_ble_eq_true rfl)
  rw [lg_entry_eq]
  generalize (lg_sl ([.ref (α 0), .int x1, .int x2]) ++ List.replicate (7 - (lg_sl ([.ref (α 0), .int x1, .int x2])).length) Slot.unset).toArray = ls at hl ⊢
  have hl : lv_has ls 7 [(0, .ref (α 0)), (1, .int x1), (2, .int x2)] := hl
  unfold fm_wordAt at h
  refine lv_iconst (v := (-1 : Int32)) hx hb dX12_wordAt_0 (by decide) ?_
  refine lv_istore_n (lv' := [(3, .int (-1 : Int32)), (0, .ref (α 0)), (1, .int x1), (2, .int x2)]) hx hb dX12_wordAt_1 rfl hl (by decide) rfl (fun ls hl => ?_)
  refine lv_iconst (v := (0 : Int32)) hx hb dX12_wordAt_2 (by decide) ?_
  refine lv_istore (lv' := [(4, .int (0 : Int32)), (3, .int (-1 : Int32)), (0, .ref (α 0)), (1, .int x1), (2, .int x2)]) hx hb dX12_wordAt_3 hl (by decide) rfl (fun ls hl => ?_)
  exact gm_wordAt_5 C hr hlk  _ _ _ _ _ _ _ _ _ hM (lv_sub hl [2, 3, 4, 1, 0] rfl) h
theorem mwy_wordAt : mCallV RX12 153 yX12_wordAt cX12_wordAt 7 (some .int) 2 := ⟨⟨wl_in (i := 2033) (by decide +kernel), wl_in (i := 2035) (by decide +kernel), wl_inp (i := 29) (by decide +kernel), wl_in (i := 16) (by decide +kernel), wl_in (i := 2036) (by decide +kernel)⟩, rfl, by decide, by decide, by decide +kernel⟩
/-! word()I -/
abbrev rmX12_word : Room := { frames := 1, cells := 0, slots := 0, locals := 26 }
def fm_word_95 (k_58 : mS → Int32 → Option (Int32 × mS)) (σ : mS) (x1 : Int32) (s0 : Int32) (s1 : Int32) : Option (Int32 × mS) :=
  if s1 < 0 ∨ 320 ≤ s1.toNatClampNeg then none else
  k_58 (mA σ 3 s1.toNatClampNeg s0) (x1 + (1 : Int32))
set_option maxHeartbeats 4000000 in
set_option maxRecDepth 100000 in
theorem gm_word_95 {p : Program} {l : Launch} {e : Env} {s : State} {m : MethodId} {args : Array Value} {below : List Frame} {meth : Method} {c : Code} {D : va_G} {ca : Nat → ClassId} {α : Nat → Nat} {A : Nat → Prop} {o : Int32 × mS} {k_58 : mS → Int32 → Option (Int32 × mS)} (C : mC p s m args c cX12_word 2 D ca) (hr : meth.sig.returnType = some .int) (hlk : meth.locks = false) (hk_58 : ∀ (σ : mS) (x1 : Int32) (H : Heap) (locs : List Loc) (ls : Array Slot), mM D ca α A s.heap σ H locs → lv_has ls 2 [(0, .ref (α 0)), (1, .int x1)] → k_58 σ x1 = some o → mGI p l e rmX12_word s m args below meth c D ca α A o H locs 58 ls []) : ∀ (σ : mS) (x1 : Int32) (s0 : Int32) (s1 : Int32) (H : Heap) (locs : List Loc) (ls : Array Slot), mM D ca α A s.heap σ H locs → lv_has ls 2 [(0, .ref (α 0)), (1, .int x1)] → fm_word_95 k_58 σ x1 s0 s1 = some o → mGI p l e rmX12_word s m args below meth c D ca α A o H locs 95 ls [.int s0, .int s1, .ref (α 4)] := by
  have hx := C.1
  have hb := C.2.1
  intro σ x1 s0 s1 H locs ls hM hl h
  unfold fm_word_95 at h
  obtain ⟨c_1, h⟩ := ko_of h
  refine m_iast C hM (k := 3) rfl c_1 dX12_word_95 (fun H locs hM => ?_)
  refine lv_iinc (v := (x1 + (1 : Int32))) (lv' := [(1, .int (x1 + (1 : Int32))), (0, .ref (α 0))]) hx hb dX12_word_96 hl (k := 1) rfl rfl (by decide) rfl (fun ls hl => ?_)
  refine lv_goto (tgt := 58) hx hb dX12_word_99 (by decide) ?_
  exact hk_58 _ _ _ _ _ hM (lv_sub hl [1, 0] rfl) h
def fm_word_58 : Nat → mS → Int32 → Option (Int32 × mS)
  | 0, _, _ => none
  | n + 1, σ, x1 =>
    if (8 : Int32) ≤ x1 then
      some ((((mI (mI σ 2 (0 : Int32)) 4 (((mI σ 2 (0 : Int32)).1 4) + (1 : Int32))).1 4) - (1 : Int32)), (mI (mI σ 2 (0 : Int32)) 4 (((mI σ 2 (0 : Int32)).1 4) + (1 : Int32))))
    else
      if (σ.1 2) ≤ x1 then
        fm_word_95 (fm_word_58 n) σ x1 (0 : Int32) (((8 : Int32) * (σ.1 4)) + x1)
      else
        if x1 < 0 ∨ 30 ≤ x1.toNatClampNeg then none else
        fm_word_95 (fm_word_58 n) σ x1 (σ.2.2.1 1 x1.toNatClampNeg) (((8 : Int32) * (σ.1 4)) + x1)
set_option maxHeartbeats 4000000 in
set_option maxRecDepth 100000 in
theorem gm_word_58 {p : Program} {l : Launch} {e : Env} {s : State} {m : MethodId} {args : Array Value} {below : List Frame} {meth : Method} {c : Code} {D : va_G} {ca : Nat → ClassId} {α : Nat → Nat} {A : Nat → Prop} {o : Int32 × mS} (C : mC p s m args c cX12_word 2 D ca) (hr : meth.sig.returnType = some .int) (hlk : meth.locks = false) : ∀ (n : Nat) (σ : mS) (x1 : Int32) (H : Heap) (locs : List Loc) (ls : Array Slot), mM D ca α A s.heap σ H locs → lv_has ls 2 [(0, .ref (α 0)), (1, .int x1)] → fm_word_58 n σ x1 = some o → mGI p l e rmX12_word s m args below meth c D ca α A o H locs 58 ls [] := by
  have hx := C.1
  have hb := C.2.1
  intro n
  induction n with
  | zero =>
    intro σ x1 H locs ls hM hl h
    cases h
  | succ n ih =>
    intro σ x1 H locs ls hM hl h
    rw [fm_word_58] at h
    refine lv_iload_n hx hb dX12_word_58 rfl (lv_at hl 1 rfl) ?_
    refine lv_bipush (v := (8 : Int32)) hx hb dX12_word_59 (by decide) ?_
    refine lv_icmp_ge (tgt := 102) hx hb dX12_word_61 (by decide) (fun c_1 => ?_) (fun c_1 => ?_)
    · have h := br_T c_1 h
      refine lv_aload_n hx hb dX12_word_102 rfl (lv_at hl 0 rfl) ?_
      refine lv_iconst (v := (0 : Int32)) hx hb dX12_word_103 (by decide) ?_
      refine m_puti C hM (k := 2) rfl rfl dX12_word_104 (fun H locs hM => ?_)
      refine lv_aload_n hx hb dX12_word_107 rfl (lv_at hl 0 rfl) ?_
      refine lv_dup hx hb dX12_word_108 rfl ?_
      refine m_geti C hM (k := 4) (Or.inl rfl) rfl dX12_word_109 ?_
      refine lv_iconst (v := (1 : Int32)) hx hb dX12_word_112 (by decide) ?_
      refine lv_iadd hx hb dX12_word_113 ?_
      refine m_puti C hM (k := 4) rfl rfl dX12_word_114 (fun H locs hM => ?_)
      refine lv_aload_n hx hb dX12_word_117 rfl (lv_at hl 0 rfl) ?_
      refine m_geti C hM (k := 4) (Or.inl rfl) rfl dX12_word_118 ?_
      refine lv_iconst (v := (1 : Int32)) hx hb dX12_word_121 (by decide) ?_
      refine lv_isub hx hb dX12_word_122 ?_
      exact m_ri C hM hr hlk dX12_word_123 h
    · have h := br_F c_1 h
      refine lv_aload_n hx hb dX12_word_64 rfl (lv_at hl 0 rfl) ?_
      refine m_geta C hM (k := 3) (by decide) rfl dX12_word_65 ?_
      refine lv_bipush (v := (8 : Int32)) hx hb dX12_word_68 (by decide) ?_
      refine lv_aload_n hx hb dX12_word_70 rfl (lv_at hl 0 rfl) ?_
      refine m_geti C hM (k := 4) (Or.inl rfl) rfl dX12_word_71 ?_
      refine lv_imul hx hb dX12_word_74 ?_
      refine lv_iload_n hx hb dX12_word_75 rfl (lv_at hl 1 rfl) ?_
      refine lv_iadd hx hb dX12_word_76 ?_
      refine lv_iload_n hx hb dX12_word_77 rfl (lv_at hl 1 rfl) ?_
      refine lv_aload_n hx hb dX12_word_78 rfl (lv_at hl 0 rfl) ?_
      refine m_geti C hM (k := 2) (Or.inl rfl) rfl dX12_word_79 ?_
      refine lv_icmp_ge (tgt := 94) hx hb dX12_word_82 (by decide) (fun c_2 => ?_) (fun c_2 => ?_)
      · have h := br_T c_2 h
        refine lv_iconst (v := (0 : Int32)) hx hb dX12_word_94 (by decide) ?_
        exact gm_word_95 C hr hlk ih _ _ _ _ _ _ _ hM (lv_sub hl [0, 1] rfl) h
      · have h := br_F c_2 h
        refine lv_aload_n hx hb dX12_word_85 rfl (lv_at hl 0 rfl) ?_
        refine m_geta C hM (k := 1) (by decide) rfl dX12_word_86 ?_
        refine lv_iload_n hx hb dX12_word_89 rfl (lv_at hl 1 rfl) ?_
        obtain ⟨c_3, h⟩ := ko_of h
        refine m_iald C hM (k := 1) rfl c_3 dX12_word_90 ?_
        refine lv_goto (tgt := 95) hx hb dX12_word_91 (by decide) ?_
        exact gm_word_95 C hr hlk ih _ _ _ _ _ _ _ hM (lv_sub hl [0, 1] rfl) h
def fm_word_48 (σ : mS) (s0 : Int32) : Option (Int32 × mS) :=
  (fm_isWrong σ s0).bind fun r_1 =>
  if r_1.1 = 0 then
    fm_word_58 3000 r_1.2 (0 : Int32)
  else
    some ((0 : Int32), r_1.2)
set_option maxHeartbeats 4000000 in
set_option maxRecDepth 100000 in
theorem gm_word_48 {p : Program} {l : Launch} {e : Env} {s : State} {m : MethodId} {args : Array Value} {below : List Frame} {meth : Method} {c : Code} {D : va_G} {ca : Nat → ClassId} {α : Nat → Nat} {A : Nat → Prop} {o : Int32 × mS} (C : mC p s m args c cX12_word 2 D ca) (hr : meth.sig.returnType = some .int) (hlk : meth.locks = false) : ∀ (σ : mS) (s0 : Int32) (H : Heap) (locs : List Loc) (ls : Array Slot), mM D ca α A s.heap σ H locs → lv_has ls 2 [(0, .ref (α 0))] → fm_word_48 σ s0 = some o → mGI p l e rmX12_word s m args below meth c D ca α A o H locs 48 ls [.int s0, .ref (α 0)] := by
  have hx := C.1
  have hb := C.2.1
  intro σ s0 H locs ls hM hl h
  unfold fm_word_48 at h
  obtain ⟨r_1, hr_1, h⟩ := bd_of h
  refine m_cVi (As := [.int s0]) (rest := []) C hM (cm_isWrong l D ca α A σ s0 r_1 hr_1) mwy_isWrong ⟨rfl, rfl⟩ ⟨Nat.le_of_ble_eq_true rfl, Nat.le_of_ble_eq_true rfl⟩ rfl rfl (Nat.le_of_ble_eq_true rfl) hl.1 dX12_word_48 ⟨rfl, rfl⟩ (fun H locs hM => ?_)
  refine lv_if_eq (tgt := 56) hx hb dX12_word_51 (by decide) (fun c_1 => ?_) (fun c_1 => ?_)
  · have h := br_T c_1 h
    refine lv_iconst (v := (0 : Int32)) hx hb dX12_word_56 (by decide) ?_
    refine lv_istore_n (lv' := [(1, .int (0 : Int32)), (0, .ref (α 0))]) hx hb dX12_word_57 rfl hl (by decide) rfl (fun ls hl => ?_)
    exact gm_word_58 C hr hlk  _ _ _ _ _ _ hM (lv_sub hl [1, 0] rfl) h
  · have h := br_F c_1 h
    refine lv_iconst (v := (0 : Int32)) hx hb dX12_word_54 (by decide) ?_
    exact m_ri C hM hr hlk dX12_word_55 h
def fm_word (σ : mS) : Option (Int32 × mS) :=
  (fm_isRowOfLetters σ (0 : Int32) (σ.1 2)).bind fun r_1 =>
  if r_1.1 = 0 then
    fm_word_48 r_1.2 (1 : Int32)
  else
    (fm_wordAt r_1.2 (0 : Int32) (r_1.2.1 2)).bind fun r_2 =>
    if r_2.1 = (-1 : Int32) then
      if (r_2.2.1 4) = (40 : Int32) then
        fm_word_48 r_2.2 (3 : Int32)
      else
        fm_word_48 r_2.2 (0 : Int32)
    else
      fm_word_48 r_2.2 (2 : Int32)
set_option maxHeartbeats 4000000 in
set_option maxRecDepth 100000 in
theorem cm_word (l : Launch) (D : va_G) (ca : Nat → ClassId) (α : Nat → Nat) (A : Nat → Prop) (σ : mS) (o : Int32 × mS) (h : fm_word σ  = some o) : mMetI l yX12_word cX12_word 2 (some .int) rmX12_word D ca α A σ [] o := by
  refine Met.ofW (cc := cX12_word) (maxL := 2) (ret := some .int) (by decide) rfl ?_
  intro p e s m args below meth c s₁ B hml hv
  obtain ⟨rfl, hP, hK, hD0⟩ := hv
  have C : mC p s m _ c cX12_word 2 D ca := ⟨B.exec, B.bytes, hml, findClass_of_methodNamed B.named, fun w hw => atoms_spec (ws := mWs yX12_word cX12_word 2 (some .int)) B.pre w (List.mem_cons_of_mem _ hw), hK⟩
  have hM : mM D ca α A s.heap σ s.heap [] := ⟨hP, hD0, va_S.rf⟩
  have hr := B.returns
  have hlk := B.notSynchronized
  have hx := C.1
  have hb := C.2.1
  have hl := lv_entry ([.ref (α 0)]) (n := 2) (Nat.le_of_ble_eq_true rfl)
  rw [lg_entry_eq]
  generalize (lg_sl ([.ref (α 0)]) ++ List.replicate (2 - (lg_sl ([.ref (α 0)])).length) Slot.unset).toArray = ls at hl ⊢
  have hl : lv_has ls 2 [(0, .ref (α 0))] := hl
  unfold fm_word at h
  refine lv_aload_n hx hb dX12_word_0 rfl (lv_at hl 0 rfl) ?_
  refine lv_aload_n hx hb dX12_word_1 rfl (lv_at hl 0 rfl) ?_
  refine lv_iconst (v := (0 : Int32)) hx hb dX12_word_2 (by decide) ?_
  refine lv_aload_n hx hb dX12_word_3 rfl (lv_at hl 0 rfl) ?_
  refine m_geti C hM (k := 2) (Or.inl rfl) rfl dX12_word_4 ?_
  obtain ⟨r_1, hr_1, h⟩ := bd_of h
  refine m_cVi (As := [.int (0 : Int32), .int (σ.1 2)]) (rest := [.ref (α 0)]) C hM (cm_isRowOfLetters l D ca α A σ (0 : Int32) (σ.1 2) r_1 hr_1) mwy_isRowOfLetters ⟨rfl, rfl⟩ ⟨Nat.le_of_ble_eq_true rfl, Nat.le_of_ble_eq_true rfl⟩ rfl rfl (Nat.le_of_ble_eq_true rfl) hl.1 dX12_word_7 ⟨rfl, rfl⟩ (fun H locs hM => ?_)
  refine lv_if_ne (tgt := 17) hx hb dX12_word_10 (by decide) (fun c_1 => ?_) (fun c_1 => ?_)
  · have h := br_F c_1 h
    refine lv_aload_n hx hb dX12_word_17 rfl (lv_at hl 0 rfl) ?_
    refine lv_iconst (v := (0 : Int32)) hx hb dX12_word_18 (by decide) ?_
    refine lv_aload_n hx hb dX12_word_19 rfl (lv_at hl 0 rfl) ?_
    refine m_geti C hM (k := 2) (Or.inl rfl) rfl dX12_word_20 ?_
    obtain ⟨r_2, hr_2, h⟩ := bd_of h
    refine m_cVi (As := [.int (0 : Int32), .int (r_1.2.1 2)]) (rest := [.ref (α 0)]) C hM (cm_wordAt l D ca α A r_1.2 (0 : Int32) (r_1.2.1 2) r_2 hr_2) mwy_wordAt ⟨rfl, rfl⟩ ⟨Nat.le_of_ble_eq_true rfl, Nat.le_of_ble_eq_true rfl⟩ rfl rfl (Nat.le_of_ble_eq_true rfl) hl.1 dX12_word_23 ⟨rfl, rfl⟩ (fun H locs hM => ?_)
    refine lv_iconst (v := (-1 : Int32)) hx hb dX12_word_26 (by decide) ?_
    refine lv_icmp_eq (tgt := 34) hx hb dX12_word_27 (by decide) (fun c_2 => ?_) (fun c_2 => ?_)
    · have h := br_T c_2 h
      refine lv_aload_n hx hb dX12_word_34 rfl (lv_at hl 0 rfl) ?_
      refine m_geti C hM (k := 4) (Or.inl rfl) rfl dX12_word_35 ?_
      refine lv_bipush (v := (40 : Int32)) hx hb dX12_word_38 (by decide) ?_
      refine lv_icmp_ne (tgt := 47) hx hb dX12_word_40 (by decide) (fun c_3 => ?_) (fun c_3 => ?_)
      · have h := br_F c_3 h
        refine lv_iconst (v := (0 : Int32)) hx hb dX12_word_47 (by decide) ?_
        exact gm_word_48 C hr hlk  _ _ _ _ _ hM (lv_sub hl [0] rfl) h
      · have h := br_T c_3 h
        refine lv_iconst (v := (3 : Int32)) hx hb dX12_word_43 (by decide) ?_
        refine lv_goto (tgt := 48) hx hb dX12_word_44 (by decide) ?_
        exact gm_word_48 C hr hlk  _ _ _ _ _ hM (lv_sub hl [0] rfl) h
    · have h := br_F c_2 h
      refine lv_iconst (v := (2 : Int32)) hx hb dX12_word_30 (by decide) ?_
      refine lv_goto (tgt := 48) hx hb dX12_word_31 (by decide) ?_
      exact gm_word_48 C hr hlk  _ _ _ _ _ hM (lv_sub hl [0] rfl) h
  · have h := br_T c_1 h
    refine lv_iconst (v := (1 : Int32)) hx hb dX12_word_13 (by decide) ?_
    refine lv_goto (tgt := 48) hx hb dX12_word_14 (by decide) ?_
    exact gm_word_48 C hr hlk  _ _ _ _ _ hM (lv_sub hl [0] rfl) h
/-! lengthOf(I)I -/
abbrev rmX12_lengthOf : Room := { frames := 0, cells := 0, slots := 0, locals := 0 }
def fm_lengthOf_28 (σ : mS) (x2 : Int32) : Option (Int32 × mS) :=
  some (x2, σ)
set_option maxHeartbeats 4000000 in
set_option maxRecDepth 100000 in
theorem gm_lengthOf_28 {p : Program} {l : Launch} {e : Env} {s : State} {m : MethodId} {args : Array Value} {below : List Frame} {meth : Method} {c : Code} {D : va_G} {ca : Nat → ClassId} {α : Nat → Nat} {A : Nat → Prop} {o : Int32 × mS} (C : mC p s m args c cX12_lengthOf 3 D ca) (hr : meth.sig.returnType = some .int) (hlk : meth.locks = false) : ∀ (σ : mS) (x2 : Int32) (H : Heap) (locs : List Loc) (ls : Array Slot), mM D ca α A s.heap σ H locs → lv_has ls 3 [(0, .ref (α 0)), (2, .int x2)] → fm_lengthOf_28 σ x2 = some o → mGI p l e rmX12_lengthOf s m args below meth c D ca α A o H locs 28 ls [] := by
  have hx := C.1
  have hb := C.2.1
  intro σ x2 H locs ls hM hl h
  unfold fm_lengthOf_28 at h
  refine lv_iload_n hx hb dX12_lengthOf_28 rfl (lv_at hl 1 rfl) ?_
  exact m_ri C hM hr hlk dX12_lengthOf_29 h
def fm_lengthOf_2 : Nat → mS → Int32 → Int32 → Option (Int32 × mS)
  | 0, _, _, _ => none
  | n + 1, σ, x1, x2 =>
    if (8 : Int32) ≤ x2 then
      fm_lengthOf_28 σ x2
    else
      if (((8 : Int32) * x1) + x2) < 0 ∨ 320 ≤ (((8 : Int32) * x1) + x2).toNatClampNeg then none else
      if (σ.2.2.1 3 (((8 : Int32) * x1) + x2).toNatClampNeg) = 0 then
        fm_lengthOf_28 σ x2
      else
        (fm_lengthOf_2 n) σ x1 (x2 + (1 : Int32))
set_option maxHeartbeats 4000000 in
set_option maxRecDepth 100000 in
theorem gm_lengthOf_2 {p : Program} {l : Launch} {e : Env} {s : State} {m : MethodId} {args : Array Value} {below : List Frame} {meth : Method} {c : Code} {D : va_G} {ca : Nat → ClassId} {α : Nat → Nat} {A : Nat → Prop} {o : Int32 × mS} (C : mC p s m args c cX12_lengthOf 3 D ca) (hr : meth.sig.returnType = some .int) (hlk : meth.locks = false) : ∀ (n : Nat) (σ : mS) (x1 : Int32) (x2 : Int32) (H : Heap) (locs : List Loc) (ls : Array Slot), mM D ca α A s.heap σ H locs → lv_has ls 3 [(0, .ref (α 0)), (1, .int x1), (2, .int x2)] → fm_lengthOf_2 n σ x1 x2 = some o → mGI p l e rmX12_lengthOf s m args below meth c D ca α A o H locs 2 ls [] := by
  have hx := C.1
  have hb := C.2.1
  intro n
  induction n with
  | zero =>
    intro σ x1 x2 H locs ls hM hl h
    cases h
  | succ n ih =>
    intro σ x1 x2 H locs ls hM hl h
    rw [fm_lengthOf_2] at h
    refine lv_iload_n hx hb dX12_lengthOf_2 rfl (lv_at hl 2 rfl) ?_
    refine lv_bipush (v := (8 : Int32)) hx hb dX12_lengthOf_3 (by decide) ?_
    refine lv_icmp_ge (tgt := 28) hx hb dX12_lengthOf_5 (by decide) (fun c_1 => ?_) (fun c_1 => ?_)
    · have h := br_T c_1 h
      exact gm_lengthOf_28 C hr hlk  _ _ _ _ _ hM (lv_sub hl [0, 2] rfl) h
    · have h := br_F c_1 h
      refine lv_aload_n hx hb dX12_lengthOf_8 rfl (lv_at hl 0 rfl) ?_
      refine m_geta C hM (k := 3) (by decide) rfl dX12_lengthOf_9 ?_
      refine lv_bipush (v := (8 : Int32)) hx hb dX12_lengthOf_12 (by decide) ?_
      refine lv_iload_n hx hb dX12_lengthOf_14 rfl (lv_at hl 1 rfl) ?_
      refine lv_imul hx hb dX12_lengthOf_15 ?_
      refine lv_iload_n hx hb dX12_lengthOf_16 rfl (lv_at hl 2 rfl) ?_
      refine lv_iadd hx hb dX12_lengthOf_17 ?_
      obtain ⟨c_2, h⟩ := ko_of h
      refine m_iald C hM (k := 3) rfl c_2 dX12_lengthOf_18 ?_
      refine lv_if_eq (tgt := 28) hx hb dX12_lengthOf_19 (by decide) (fun c_3 => ?_) (fun c_3 => ?_)
      · have h := br_T c_3 h
        exact gm_lengthOf_28 C hr hlk  _ _ _ _ _ hM (lv_sub hl [0, 2] rfl) h
      · have h := br_F c_3 h
        refine lv_iinc (v := (x2 + (1 : Int32))) (lv' := [(2, .int (x2 + (1 : Int32))), (0, .ref (α 0)), (1, .int x1)]) hx hb dX12_lengthOf_22 hl (k := 2) rfl rfl (by decide) rfl (fun ls hl => ?_)
        refine lv_goto (tgt := 2) hx hb dX12_lengthOf_25 (by decide) ?_
        exact ih _ _ _ _ _ _ hM (lv_sub hl [1, 2, 0] rfl) h
def fm_lengthOf (σ : mS) (x1 : Int32) : Option (Int32 × mS) :=
  fm_lengthOf_2 3000 σ x1 (0 : Int32)
set_option maxHeartbeats 4000000 in
set_option maxRecDepth 100000 in
theorem cm_lengthOf (l : Launch) (D : va_G) (ca : Nat → ClassId) (α : Nat → Nat) (A : Nat → Prop) (σ : mS) (x1 : Int32) (o : Int32 × mS) (h : fm_lengthOf σ x1 = some o) : mMetI l yX12_lengthOf cX12_lengthOf 3 (some .int) rmX12_lengthOf D ca α A σ [.int x1] o := by
  refine Met.ofW (cc := cX12_lengthOf) (maxL := 3) (ret := some .int) (by decide) rfl ?_
  intro p e s m args below meth c s₁ B hml hv
  obtain ⟨rfl, hP, hK, hD0⟩ := hv
  have C : mC p s m _ c cX12_lengthOf 3 D ca := ⟨B.exec, B.bytes, hml, findClass_of_methodNamed B.named, fun w hw => atoms_spec (ws := mWs yX12_lengthOf cX12_lengthOf 3 (some .int)) B.pre w (List.mem_cons_of_mem _ hw), hK⟩
  have hM : mM D ca α A s.heap σ s.heap [] := ⟨hP, hD0, va_S.rf⟩
  have hr := B.returns
  have hlk := B.notSynchronized
  have hx := C.1
  have hb := C.2.1
  have hl := lv_entry ([.ref (α 0), .int x1]) (n := 3) (Nat.le_of_ble_eq_true rfl)
  rw [lg_entry_eq]
  generalize (lg_sl ([.ref (α 0), .int x1]) ++ List.replicate (3 - (lg_sl ([.ref (α 0), .int x1])).length) Slot.unset).toArray = ls at hl ⊢
  have hl : lv_has ls 3 [(0, .ref (α 0)), (1, .int x1)] := hl
  unfold fm_lengthOf at h
  refine lv_iconst (v := (0 : Int32)) hx hb dX12_lengthOf_0 (by decide) ?_
  refine lv_istore_n (lv' := [(2, .int (0 : Int32)), (0, .ref (α 0)), (1, .int x1)]) hx hb dX12_lengthOf_1 rfl hl (by decide) rfl (fun ls hl => ?_)
  exact gm_lengthOf_2 C hr hlk  _ _ _ _ _ _ _ hM (lv_sub hl [1, 2, 0] rfl) h
theorem mwy_lengthOf : mCallV RX12 340 yX12_lengthOf cX12_lengthOf 3 (some .int) 1 := ⟨⟨wl_in (i := 2397) (by decide +kernel), wl_in (i := 2399) (by decide +kernel), wl_inp (i := 70) (by decide +kernel), wl_in (i := 16) (by decide +kernel), wl_in (i := 2400) (by decide +kernel)⟩, rfl, by decide, by decide, by decide +kernel⟩
/-! isRoom(I)Z -/
abbrev rmX12_isRoom : Room := { frames := 1, cells := 0, slots := 0, locals := 22 }
def fm_isRoom (σ : mS) (x1 : Int32) : Option (Int32 × mS) :=
  (fm_isBetween x1 (0 : Int32) ((σ.1 9) - (1 : Int32))).bind fun r_1 =>
  if r_1 &&& 1 = r_1 then some (r_1, σ) else none
set_option maxHeartbeats 4000000 in
set_option maxRecDepth 100000 in
theorem cm_isRoom (l : Launch) (D : va_G) (ca : Nat → ClassId) (α : Nat → Nat) (A : Nat → Prop) (σ : mS) (x1 : Int32) (o : Int32 × mS) (h : fm_isRoom σ x1 = some o) : mMetI l yX12_isRoom cX12_isRoom 2 (some .boolean) rmX12_isRoom D ca α A σ [.int x1] o := by
  refine Met.ofW (cc := cX12_isRoom) (maxL := 2) (ret := some .boolean) (by decide) rfl ?_
  intro p e s m args below meth c s₁ B hml hv
  obtain ⟨rfl, hP, hK, hD0⟩ := hv
  have C : mC p s m _ c cX12_isRoom 2 D ca := ⟨B.exec, B.bytes, hml, findClass_of_methodNamed B.named, fun w hw => atoms_spec (ws := mWs yX12_isRoom cX12_isRoom 2 (some .boolean)) B.pre w (List.mem_cons_of_mem _ hw), hK⟩
  have hM : mM D ca α A s.heap σ s.heap [] := ⟨hP, hD0, va_S.rf⟩
  have hr := B.returns
  have hlk := B.notSynchronized
  have hx := C.1
  have hb := C.2.1
  have hl := lv_entry ([.ref (α 0), .int x1]) (n := 2) (Nat.le_of_ble_eq_true rfl)
  rw [lg_entry_eq]
  generalize (lg_sl ([.ref (α 0), .int x1]) ++ List.replicate (2 - (lg_sl ([.ref (α 0), .int x1])).length) Slot.unset).toArray = ls at hl ⊢
  have hl : lv_has ls 2 [(0, .ref (α 0)), (1, .int x1)] := hl
  unfold fm_isRoom at h
  refine lv_iload_n hx hb dX12_isRoom_0 rfl (lv_at hl 1 rfl) ?_
  refine lv_iconst (v := (0 : Int32)) hx hb dX12_isRoom_1 (by decide) ?_
  refine lv_aload_n hx hb dX12_isRoom_2 rfl (lv_at hl 0 rfl) ?_
  refine m_geti C hM (k := 9) (Or.inl rfl) rfl dX12_isRoom_3 ?_
  refine lv_iconst (v := (1 : Int32)) hx hb dX12_isRoom_6 (by decide) ?_
  refine lv_isub hx hb dX12_isRoom_7 ?_
  obtain ⟨r_1, hr_1, h⟩ := bd_of h
  refine m_cSi (As := [.int x1, .int (0 : Int32), .int ((σ.1 9) - (1 : Int32))]) (rest := []) C hM (cm_isBetween l D ca α A σ x1 (0 : Int32) ((σ.1 9) - (1 : Int32)) r_1 hr_1) mwy_isBetween ⟨rfl, rfl⟩ ⟨Nat.le_of_ble_eq_true rfl, Nat.le_of_ble_eq_true rfl⟩ rfl rfl (Nat.le_of_ble_eq_true rfl) hl.1 dX12_isRoom_8 ⟨rfl, rfl⟩ (fun H locs hM => ?_)
  exact m_rz C hM hr hlk dX12_isRoom_11 h
theorem mwy_isRoom : mCallV RX12 167 yX12_isRoom cX12_isRoom 2 (some .boolean) 1 := ⟨⟨wl_in (i := 2045) (by decide +kernel), wl_in (i := 2047) (by decide +kernel), wl_inp (i := 30) (by decide +kernel), wl_in (i := 16) (by decide +kernel), wl_in (i := 2048) (by decide +kernel)⟩, rfl, by decide, by decide, by decide +kernel⟩
/-! isThing(I)Z -/
abbrev rmX12_isThing : Room := { frames := 1, cells := 0, slots := 0, locals := 22 }
def fm_isThing (σ : mS) (x1 : Int32) : Option (Int32 × mS) :=
  (fm_isBetween x1 (0 : Int32) ((σ.1 16) - (1 : Int32))).bind fun r_1 =>
  if r_1 &&& 1 = r_1 then some (r_1, σ) else none
set_option maxHeartbeats 4000000 in
set_option maxRecDepth 100000 in
theorem cm_isThing (l : Launch) (D : va_G) (ca : Nat → ClassId) (α : Nat → Nat) (A : Nat → Prop) (σ : mS) (x1 : Int32) (o : Int32 × mS) (h : fm_isThing σ x1 = some o) : mMetI l yX12_isThing cX12_isThing 2 (some .boolean) rmX12_isThing D ca α A σ [.int x1] o := by
  refine Met.ofW (cc := cX12_isThing) (maxL := 2) (ret := some .boolean) (by decide) rfl ?_
  intro p e s m args below meth c s₁ B hml hv
  obtain ⟨rfl, hP, hK, hD0⟩ := hv
  have C : mC p s m _ c cX12_isThing 2 D ca := ⟨B.exec, B.bytes, hml, findClass_of_methodNamed B.named, fun w hw => atoms_spec (ws := mWs yX12_isThing cX12_isThing 2 (some .boolean)) B.pre w (List.mem_cons_of_mem _ hw), hK⟩
  have hM : mM D ca α A s.heap σ s.heap [] := ⟨hP, hD0, va_S.rf⟩
  have hr := B.returns
  have hlk := B.notSynchronized
  have hx := C.1
  have hb := C.2.1
  have hl := lv_entry ([.ref (α 0), .int x1]) (n := 2) (Nat.le_of_ble_eq_true rfl)
  rw [lg_entry_eq]
  generalize (lg_sl ([.ref (α 0), .int x1]) ++ List.replicate (2 - (lg_sl ([.ref (α 0), .int x1])).length) Slot.unset).toArray = ls at hl ⊢
  have hl : lv_has ls 2 [(0, .ref (α 0)), (1, .int x1)] := hl
  unfold fm_isThing at h
  refine lv_iload_n hx hb dX12_isThing_0 rfl (lv_at hl 1 rfl) ?_
  refine lv_iconst (v := (0 : Int32)) hx hb dX12_isThing_1 (by decide) ?_
  refine lv_aload_n hx hb dX12_isThing_2 rfl (lv_at hl 0 rfl) ?_
  refine m_geti C hM (k := 16) (Or.inl rfl) rfl dX12_isThing_3 ?_
  refine lv_iconst (v := (1 : Int32)) hx hb dX12_isThing_6 (by decide) ?_
  refine lv_isub hx hb dX12_isThing_7 ?_
  obtain ⟨r_1, hr_1, h⟩ := bd_of h
  refine m_cSi (As := [.int x1, .int (0 : Int32), .int ((σ.1 16) - (1 : Int32))]) (rest := []) C hM (cm_isBetween l D ca α A σ x1 (0 : Int32) ((σ.1 16) - (1 : Int32)) r_1 hr_1) mwy_isBetween ⟨rfl, rfl⟩ ⟨Nat.le_of_ble_eq_true rfl, Nat.le_of_ble_eq_true rfl⟩ rfl rfl (Nat.le_of_ble_eq_true rfl) hl.1 dX12_isThing_8 ⟨rfl, rfl⟩ (fun H locs hM => ?_)
  exact m_rz C hM hr hlk dX12_isThing_11 h
theorem mwy_isThing : mCallV RX12 181 yX12_isThing cX12_isThing 2 (some .boolean) 1 := ⟨⟨wl_in (i := 2070) (by decide +kernel), wl_in (i := 2072) (by decide +kernel), wl_inp (i := 32) (by decide +kernel), wl_in (i := 16) (by decide +kernel), wl_in (i := 2073) (by decide +kernel)⟩, rfl, by decide, by decide, by decide +kernel⟩
/-! directionOf(I)I -/
abbrev rmX12_directionOf : Room := { frames := 0, cells := 0, slots := 0, locals := 0 }
def fm_directionOf_61 (s0 : Int32) : Option (Int32) :=
  some s0
set_option maxHeartbeats 4000000 in
set_option maxRecDepth 100000 in
theorem gm_directionOf_61 {p : Program} {l : Launch} {e : Env} {s : State} {m : MethodId} {args : Array Value} {below : List Frame} {meth : Method} {c : Code} {D : va_G} {ca : Nat → ClassId} {α : Nat → Nat} {A : Nat → Prop} {σ : mS} {o : Int32} (C : mC p s m args c cX12_directionOf 1 D ca) (hr : meth.sig.returnType = some .int) (hlk : meth.locks = false) : ∀ (s0 : Int32) (H : Heap) (locs : List Loc) (ls : Array Slot), mM D ca α A s.heap σ H locs → lv_has ls 1 [] → fm_directionOf_61 s0 = some o → mGI p l e rmX12_directionOf s m args below meth c D ca α A (o, σ) H locs 61 ls [.int s0] := by
  have hx := C.1
  have hb := C.2.1
  intro s0 H locs ls hM hl h
  unfold fm_directionOf_61 at h
  exact m_ri C hM hr hlk dX12_directionOf_61 (by rw [Option.some.inj h])
def fm_directionOf (x0 : Int32) : Option (Int32) :=
  if x0 = (110 : Int32) then
    fm_directionOf_61 (0 : Int32)
  else
    if x0 = (101 : Int32) then
      fm_directionOf_61 (1 : Int32)
    else
      if x0 = (115 : Int32) then
        fm_directionOf_61 (2 : Int32)
      else
        if x0 = (119 : Int32) then
          fm_directionOf_61 (3 : Int32)
        else
          if x0 = (117 : Int32) then
            fm_directionOf_61 (4 : Int32)
          else
            if x0 = (100 : Int32) then
              fm_directionOf_61 (5 : Int32)
            else
              fm_directionOf_61 (-1 : Int32)
set_option maxHeartbeats 4000000 in
set_option maxRecDepth 100000 in
theorem cm_directionOf (l : Launch) (D : va_G) (ca : Nat → ClassId) (α : Nat → Nat) (A : Nat → Prop) (σ : mS) (x0 : Int32) (o : Int32) (h : fm_directionOf x0 = some o) : mMetSI l yX12_directionOf cX12_directionOf 1 (some .int) rmX12_directionOf D ca α A σ [.int x0] o := by
  refine Met.ofW (cc := cX12_directionOf) (maxL := 1) (ret := some .int) (by decide) rfl ?_
  intro p e s m args below meth c s₁ B hml hv
  obtain ⟨rfl, hP, hK, hD0⟩ := hv
  have C : mC p s m _ c cX12_directionOf 1 D ca := ⟨B.exec, B.bytes, hml, findClass_of_methodNamed B.named, fun w hw => atoms_spec (ws := mWs yX12_directionOf cX12_directionOf 1 (some .int)) B.pre w (List.mem_cons_of_mem _ hw), hK⟩
  have hM : mM D ca α A s.heap σ s.heap [] := ⟨hP, hD0, va_S.rf⟩
  have hr := B.returns
  have hlk := B.notSynchronized
  have hx := C.1
  have hb := C.2.1
  have hl := lv_entry ([.int x0]) (n := 1) (Nat.le_of_ble_eq_true rfl)
  rw [lg_entry_eq]
  generalize (lg_sl ([.int x0]) ++ List.replicate (1 - (lg_sl ([.int x0])).length) Slot.unset).toArray = ls at hl ⊢
  have hl : lv_has ls 1 [(0, .int x0)] := hl
  unfold fm_directionOf at h
  refine lv_iload_n hx hb dX12_directionOf_0 rfl (lv_at hl 0 rfl) ?_
  refine lv_bipush (v := (110 : Int32)) hx hb dX12_directionOf_1 (by decide) ?_
  refine lv_icmp_ne (tgt := 10) hx hb dX12_directionOf_3 (by decide) (fun c_1 => ?_) (fun c_1 => ?_)
  · have h := br_F c_1 h
    refine lv_iload_n hx hb dX12_directionOf_10 rfl (lv_at hl 0 rfl) ?_
    refine lv_bipush (v := (101 : Int32)) hx hb dX12_directionOf_11 (by decide) ?_
    refine lv_icmp_ne (tgt := 20) hx hb dX12_directionOf_13 (by decide) (fun c_2 => ?_) (fun c_2 => ?_)
    · have h := br_F c_2 h
      refine lv_iload_n hx hb dX12_directionOf_20 rfl (lv_at hl 0 rfl) ?_
      refine lv_bipush (v := (115 : Int32)) hx hb dX12_directionOf_21 (by decide) ?_
      refine lv_icmp_ne (tgt := 30) hx hb dX12_directionOf_23 (by decide) (fun c_3 => ?_) (fun c_3 => ?_)
      · have h := br_F c_3 h
        refine lv_iload_n hx hb dX12_directionOf_30 rfl (lv_at hl 0 rfl) ?_
        refine lv_bipush (v := (119 : Int32)) hx hb dX12_directionOf_31 (by decide) ?_
        refine lv_icmp_ne (tgt := 40) hx hb dX12_directionOf_33 (by decide) (fun c_4 => ?_) (fun c_4 => ?_)
        · have h := br_F c_4 h
          refine lv_iload_n hx hb dX12_directionOf_40 rfl (lv_at hl 0 rfl) ?_
          refine lv_bipush (v := (117 : Int32)) hx hb dX12_directionOf_41 (by decide) ?_
          refine lv_icmp_ne (tgt := 50) hx hb dX12_directionOf_43 (by decide) (fun c_5 => ?_) (fun c_5 => ?_)
          · have h := br_F c_5 h
            refine lv_iload_n hx hb dX12_directionOf_50 rfl (lv_at hl 0 rfl) ?_
            refine lv_bipush (v := (100 : Int32)) hx hb dX12_directionOf_51 (by decide) ?_
            refine lv_icmp_ne (tgt := 60) hx hb dX12_directionOf_53 (by decide) (fun c_6 => ?_) (fun c_6 => ?_)
            · have h := br_F c_6 h
              refine lv_iconst (v := (-1 : Int32)) hx hb dX12_directionOf_60 (by decide) ?_
              exact gm_directionOf_61 C hr hlk  _ _ _ _ hM (lv_sub hl [] rfl) h
            · have h := br_T c_6 h
              refine lv_iconst (v := (5 : Int32)) hx hb dX12_directionOf_56 (by decide) ?_
              refine lv_goto (tgt := 61) hx hb dX12_directionOf_57 (by decide) ?_
              exact gm_directionOf_61 C hr hlk  _ _ _ _ hM (lv_sub hl [] rfl) h
          · have h := br_T c_5 h
            refine lv_iconst (v := (4 : Int32)) hx hb dX12_directionOf_46 (by decide) ?_
            refine lv_goto (tgt := 61) hx hb dX12_directionOf_47 (by decide) ?_
            exact gm_directionOf_61 C hr hlk  _ _ _ _ hM (lv_sub hl [] rfl) h
        · have h := br_T c_4 h
          refine lv_iconst (v := (3 : Int32)) hx hb dX12_directionOf_36 (by decide) ?_
          refine lv_goto (tgt := 61) hx hb dX12_directionOf_37 (by decide) ?_
          exact gm_directionOf_61 C hr hlk  _ _ _ _ hM (lv_sub hl [] rfl) h
      · have h := br_T c_3 h
        refine lv_iconst (v := (2 : Int32)) hx hb dX12_directionOf_26 (by decide) ?_
        refine lv_goto (tgt := 61) hx hb dX12_directionOf_27 (by decide) ?_
        exact gm_directionOf_61 C hr hlk  _ _ _ _ hM (lv_sub hl [] rfl) h
    · have h := br_T c_2 h
      refine lv_iconst (v := (1 : Int32)) hx hb dX12_directionOf_16 (by decide) ?_
      refine lv_goto (tgt := 61) hx hb dX12_directionOf_17 (by decide) ?_
      exact gm_directionOf_61 C hr hlk  _ _ _ _ hM (lv_sub hl [] rfl) h
  · have h := br_T c_1 h
    refine lv_iconst (v := (0 : Int32)) hx hb dX12_directionOf_6 (by decide) ?_
    refine lv_goto (tgt := 61) hx hb dX12_directionOf_7 (by decide) ?_
    exact gm_directionOf_61 C hr hlk  _ _ _ _ hM (lv_sub hl [] rfl) h
theorem mwy_directionOf : mCallS RX12 177 yX12_directionOf cX12_directionOf 1 (some .int) 1 := ⟨⟨wl_in (i := 2063) (by decide +kernel), wl_in (i := 2064) (by decide +kernel), wl_in (i := 16) (by decide +kernel), wl_in (i := 2065) (by decide +kernel)⟩, by decide, by decide, by decide +kernel⟩
/-! room(Z)I -/
abbrev rmX12_room : Room := { frames := 1, cells := 0, slots := 0, locals := 21 }
def fm_room_42 : Nat → mS → Int32 → Option (Int32 × mS)
  | 0, _, _ => none
  | n + 1, σ, x2 =>
    if (6 : Int32) ≤ x2 then
      some ((((mI σ 9 ((σ.1 9) + (1 : Int32))).1 9) - (1 : Int32)), (mI σ 9 ((σ.1 9) + (1 : Int32))))
    else
      if (((6 : Int32) * (σ.1 9)) + x2) < 0 ∨ 72 ≤ (((6 : Int32) * (σ.1 9)) + x2).toNatClampNeg then none else
      if (((6 : Int32) * ((mA σ 7 (((6 : Int32) * (σ.1 9)) + x2).toNatClampNeg (-1 : Int32)).1 9)) + x2) < 0 ∨ 72 ≤ (((6 : Int32) * ((mA σ 7 (((6 : Int32) * (σ.1 9)) + x2).toNatClampNeg (-1 : Int32)).1 9)) + x2).toNatClampNeg then none else
      (fm_room_42 n) (mA (mA σ 7 (((6 : Int32) * (σ.1 9)) + x2).toNatClampNeg (-1 : Int32)) 8 (((6 : Int32) * ((mA σ 7 (((6 : Int32) * (σ.1 9)) + x2).toNatClampNeg (-1 : Int32)).1 9)) + x2).toNatClampNeg (-1 : Int32)) (x2 + (1 : Int32))
set_option maxHeartbeats 4000000 in
set_option maxRecDepth 100000 in
theorem gm_room_42 {p : Program} {l : Launch} {e : Env} {s : State} {m : MethodId} {args : Array Value} {below : List Frame} {meth : Method} {c : Code} {D : va_G} {ca : Nat → ClassId} {α : Nat → Nat} {A : Nat → Prop} {o : Int32 × mS} (C : mC p s m args c cX12_room 3 D ca) (hr : meth.sig.returnType = some .int) (hlk : meth.locks = false) : ∀ (n : Nat) (σ : mS) (x2 : Int32) (H : Heap) (locs : List Loc) (ls : Array Slot), mM D ca α A s.heap σ H locs → lv_has ls 3 [(0, .ref (α 0)), (2, .int x2)] → fm_room_42 n σ x2 = some o → mGI p l e rmX12_room s m args below meth c D ca α A o H locs 42 ls [] := by
  have hx := C.1
  have hb := C.2.1
  intro n
  induction n with
  | zero =>
    intro σ x2 H locs ls hM hl h
    cases h
  | succ n ih =>
    intro σ x2 H locs ls hM hl h
    rw [fm_room_42] at h
    refine lv_iload_n hx hb dX12_room_42 rfl (lv_at hl 1 rfl) ?_
    refine lv_bipush (v := (6 : Int32)) hx hb dX12_room_43 (by decide) ?_
    refine lv_icmp_ge (tgt := 84) hx hb dX12_room_45 (by decide) (fun c_1 => ?_) (fun c_1 => ?_)
    · have h := br_T c_1 h
      refine lv_aload_n hx hb dX12_room_84 rfl (lv_at hl 0 rfl) ?_
      refine lv_dup hx hb dX12_room_85 rfl ?_
      refine m_geti C hM (k := 9) (Or.inl rfl) rfl dX12_room_86 ?_
      refine lv_iconst (v := (1 : Int32)) hx hb dX12_room_89 (by decide) ?_
      refine lv_iadd hx hb dX12_room_90 ?_
      refine m_puti C hM (k := 9) rfl rfl dX12_room_91 (fun H locs hM => ?_)
      refine lv_aload_n hx hb dX12_room_94 rfl (lv_at hl 0 rfl) ?_
      refine m_geti C hM (k := 9) (Or.inl rfl) rfl dX12_room_95 ?_
      refine lv_iconst (v := (1 : Int32)) hx hb dX12_room_98 (by decide) ?_
      refine lv_isub hx hb dX12_room_99 ?_
      exact m_ri C hM hr hlk dX12_room_100 h
    · have h := br_F c_1 h
      refine lv_aload_n hx hb dX12_room_48 rfl (lv_at hl 0 rfl) ?_
      refine m_geta C hM (k := 7) (by decide) rfl dX12_room_49 ?_
      refine lv_bipush (v := (6 : Int32)) hx hb dX12_room_52 (by decide) ?_
      refine lv_aload_n hx hb dX12_room_54 rfl (lv_at hl 0 rfl) ?_
      refine m_geti C hM (k := 9) (Or.inl rfl) rfl dX12_room_55 ?_
      refine lv_imul hx hb dX12_room_58 ?_
      refine lv_iload_n hx hb dX12_room_59 rfl (lv_at hl 1 rfl) ?_
      refine lv_iadd hx hb dX12_room_60 ?_
      refine lv_iconst (v := (-1 : Int32)) hx hb dX12_room_61 (by decide) ?_
      obtain ⟨c_2, h⟩ := ko_of h
      refine m_iast C hM (k := 7) rfl c_2 dX12_room_62 (fun H locs hM => ?_)
      refine lv_aload_n hx hb dX12_room_63 rfl (lv_at hl 0 rfl) ?_
      refine m_geta C hM (k := 8) (by decide) rfl dX12_room_64 ?_
      refine lv_bipush (v := (6 : Int32)) hx hb dX12_room_67 (by decide) ?_
      refine lv_aload_n hx hb dX12_room_69 rfl (lv_at hl 0 rfl) ?_
      refine m_geti C hM (k := 9) (Or.inl rfl) rfl dX12_room_70 ?_
      refine lv_imul hx hb dX12_room_73 ?_
      refine lv_iload_n hx hb dX12_room_74 rfl (lv_at hl 1 rfl) ?_
      refine lv_iadd hx hb dX12_room_75 ?_
      refine lv_iconst (v := (-1 : Int32)) hx hb dX12_room_76 (by decide) ?_
      obtain ⟨c_3, h⟩ := ko_of h
      refine m_iast C hM (k := 8) rfl c_3 dX12_room_77 (fun H locs hM => ?_)
      refine lv_iinc (v := (x2 + (1 : Int32))) (lv' := [(2, .int (x2 + (1 : Int32))), (0, .ref (α 0))]) hx hb dX12_room_78 hl (k := 1) rfl rfl (by decide) rfl (fun ls hl => ?_)
      refine lv_goto (tgt := 42) hx hb dX12_room_81 (by decide) ?_
      exact ih _ _ _ _ _ hM (lv_sub hl [1, 0] rfl) h
def fm_room_22 (σ : mS) (x1 : Int32) (s0 : Int32) : Option (Int32 × mS) :=
  (fm_isWrong σ s0).bind fun r_1 =>
  if r_1.1 = 0 then
    if (r_1.2.1 9) < 0 ∨ 12 ≤ (r_1.2.1 9).toNatClampNeg then none else
    fm_room_42 3000 (mA r_1.2 5 (r_1.2.1 9).toNatClampNeg (x1 &&& 1)) (0 : Int32)
  else
    some ((0 : Int32), r_1.2)
set_option maxHeartbeats 4000000 in
set_option maxRecDepth 100000 in
theorem gm_room_22 {p : Program} {l : Launch} {e : Env} {s : State} {m : MethodId} {args : Array Value} {below : List Frame} {meth : Method} {c : Code} {D : va_G} {ca : Nat → ClassId} {α : Nat → Nat} {A : Nat → Prop} {o : Int32 × mS} (C : mC p s m args c cX12_room 3 D ca) (hr : meth.sig.returnType = some .int) (hlk : meth.locks = false) : ∀ (σ : mS) (x1 : Int32) (s0 : Int32) (H : Heap) (locs : List Loc) (ls : Array Slot), mM D ca α A s.heap σ H locs → lv_has ls 3 [(0, .ref (α 0)), (1, .int x1)] → fm_room_22 σ x1 s0 = some o → mGI p l e rmX12_room s m args below meth c D ca α A o H locs 22 ls [.int s0, .ref (α 0)] := by
  have hx := C.1
  have hb := C.2.1
  intro σ x1 s0 H locs ls hM hl h
  unfold fm_room_22 at h
  obtain ⟨r_1, hr_1, h⟩ := bd_of h
  refine m_cVi (As := [.int s0]) (rest := []) C hM (cm_isWrong l D ca α A σ s0 r_1 hr_1) mwy_isWrong ⟨rfl, rfl⟩ ⟨Nat.le_of_ble_eq_true rfl, Nat.le_of_ble_eq_true rfl⟩ rfl rfl (Nat.le_of_ble_eq_true rfl) hl.1 dX12_room_22 ⟨rfl, rfl⟩ (fun H locs hM => ?_)
  refine lv_if_eq (tgt := 30) hx hb dX12_room_25 (by decide) (fun c_1 => ?_) (fun c_1 => ?_)
  · have h := br_T c_1 h
    refine lv_aload_n hx hb dX12_room_30 rfl (lv_at hl 0 rfl) ?_
    refine m_geta C hM (k := 5) (by decide) rfl dX12_room_31 ?_
    refine lv_aload_n hx hb dX12_room_34 rfl (lv_at hl 0 rfl) ?_
    refine m_geti C hM (k := 9) (Or.inl rfl) rfl dX12_room_35 ?_
    refine lv_iload_n hx hb dX12_room_38 rfl (lv_at hl 1 rfl) ?_
    obtain ⟨c_2, h⟩ := ko_of h
    refine m_zast C hM (k := 5) rfl c_2 dX12_room_39 (fun H locs hM => ?_)
    refine lv_iconst (v := (0 : Int32)) hx hb dX12_room_40 (by decide) ?_
    refine lv_istore_n (lv' := [(2, .int (0 : Int32)), (0, .ref (α 0)), (1, .int x1)]) hx hb dX12_room_41 rfl hl (by decide) rfl (fun ls hl => ?_)
    exact gm_room_42 C hr hlk  _ _ _ _ _ _ hM (lv_sub hl [1, 0] rfl) h
  · have h := br_F c_1 h
    refine lv_iconst (v := (0 : Int32)) hx hb dX12_room_28 (by decide) ?_
    exact m_ri C hM hr hlk dX12_room_29 h
def fm_room_17 (σ : mS) (x1 : Int32) : Option (Int32 × mS) :=
  fm_room_22 σ x1 (1 : Int32)
set_option maxHeartbeats 4000000 in
set_option maxRecDepth 100000 in
theorem gm_room_17 {p : Program} {l : Launch} {e : Env} {s : State} {m : MethodId} {args : Array Value} {below : List Frame} {meth : Method} {c : Code} {D : va_G} {ca : Nat → ClassId} {α : Nat → Nat} {A : Nat → Prop} {o : Int32 × mS} (C : mC p s m args c cX12_room 3 D ca) (hr : meth.sig.returnType = some .int) (hlk : meth.locks = false) : ∀ (σ : mS) (x1 : Int32) (H : Heap) (locs : List Loc) (ls : Array Slot), mM D ca α A s.heap σ H locs → lv_has ls 3 [(0, .ref (α 0)), (1, .int x1)] → fm_room_17 σ x1 = some o → mGI p l e rmX12_room s m args below meth c D ca α A o H locs 17 ls [.ref (α 0)] := by
  have hx := C.1
  have hb := C.2.1
  intro σ x1 H locs ls hM hl h
  unfold fm_room_17 at h
  refine lv_iconst (v := (1 : Int32)) hx hb dX12_room_17 (by decide) ?_
  refine lv_goto (tgt := 22) hx hb dX12_room_18 (by decide) ?_
  exact gm_room_22 C hr hlk  _ _ _ _ _ _ hM (lv_sub hl [0, 1] rfl) h
def fm_room (σ : mS) (x1 : Int32) : Option (Int32 × mS) :=
  if (σ.1 9) = (12 : Int32) then
    fm_room_17 σ x1
  else
    if (σ.1 20) = 0 then
      fm_room_22 σ x1 (0 : Int32)
    else
      fm_room_17 σ x1
set_option maxHeartbeats 4000000 in
set_option maxRecDepth 100000 in
theorem cm_room (l : Launch) (D : va_G) (ca : Nat → ClassId) (α : Nat → Nat) (A : Nat → Prop) (σ : mS) (x1 : Int32) (o : Int32 × mS) (h : fm_room σ x1 = some o) : mMetI l yX12_room cX12_room 3 (some .int) rmX12_room D ca α A σ [.int x1] o := by
  refine Met.ofW (cc := cX12_room) (maxL := 3) (ret := some .int) (by decide) rfl ?_
  intro p e s m args below meth c s₁ B hml hv
  obtain ⟨rfl, hP, hK, hD0⟩ := hv
  have C : mC p s m _ c cX12_room 3 D ca := ⟨B.exec, B.bytes, hml, findClass_of_methodNamed B.named, fun w hw => atoms_spec (ws := mWs yX12_room cX12_room 3 (some .int)) B.pre w (List.mem_cons_of_mem _ hw), hK⟩
  have hM : mM D ca α A s.heap σ s.heap [] := ⟨hP, hD0, va_S.rf⟩
  have hr := B.returns
  have hlk := B.notSynchronized
  have hx := C.1
  have hb := C.2.1
  have hl := lv_entry ([.ref (α 0), .int x1]) (n := 3) (Nat.le_of_ble_eq_true rfl)
  rw [lg_entry_eq]
  generalize (lg_sl ([.ref (α 0), .int x1]) ++ List.replicate (3 - (lg_sl ([.ref (α 0), .int x1])).length) Slot.unset).toArray = ls at hl ⊢
  have hl : lv_has ls 3 [(0, .ref (α 0)), (1, .int x1)] := hl
  unfold fm_room at h
  refine lv_aload_n hx hb dX12_room_0 rfl (lv_at hl 0 rfl) ?_
  refine lv_aload_n hx hb dX12_room_1 rfl (lv_at hl 0 rfl) ?_
  refine m_geti C hM (k := 9) (Or.inl rfl) rfl dX12_room_2 ?_
  refine lv_bipush (v := (12 : Int32)) hx hb dX12_room_5 (by decide) ?_
  refine lv_icmp_eq (tgt := 17) hx hb dX12_room_7 (by decide) (fun c_1 => ?_) (fun c_1 => ?_)
  · have h := br_T c_1 h
    exact gm_room_17 C hr hlk  _ _ _ _ _ hM (lv_sub hl [0, 1] rfl) h
  · have h := br_F c_1 h
    refine lv_aload_n hx hb dX12_room_10 rfl (lv_at hl 0 rfl) ?_
    refine m_geti C hM (k := 20) (Or.inr rfl) rfl dX12_room_11 ?_
    refine lv_if_eq (tgt := 21) hx hb dX12_room_14 (by decide) (fun c_2 => ?_) (fun c_2 => ?_)
    · have h := br_T c_2 h
      refine lv_iconst (v := (0 : Int32)) hx hb dX12_room_21 (by decide) ?_
      exact gm_room_22 C hr hlk  _ _ _ _ _ _ hM (lv_sub hl [0, 1] rfl) h
    · have h := br_F c_2 h
      exact gm_room_17 C hr hlk  _ _ _ _ _ hM (lv_sub hl [0, 1] rfl) h
/-! show(II)I -/
abbrev rmX12_show : Room := { frames := 2, cells := 0, slots := 0, locals := 45 }
def fm_show_33 (σ : mS) (x1 : Int32) (x2 : Int32) (s0 : Int32) : Option (Int32 × mS) :=
  (fm_isWrong σ s0).bind fun r_1 =>
  if r_1.1 = 0 then
    if x1 < 0 ∨ 12 ≤ x1.toNatClampNeg then none else
    if x1 < 0 ∨ 12 ≤ x1.toNatClampNeg then none else
    if x1 < 0 ∨ 12 ≤ x1.toNatClampNeg then none else
    (fm_bits ((mL r_1.2 6 x1.toNatClampNeg ((r_1.2.2.2.2 6 x1.toNatClampNeg) ||| ((1 : Int64) <<< (x2.toInt64 &&& 63)))).2.2.2 6 x1.toNatClampNeg)).bind fun r_2 =>
    some (r_2, (mL r_1.2 6 x1.toNatClampNeg ((r_1.2.2.2.2 6 x1.toNatClampNeg) ||| ((1 : Int64) <<< (x2.toInt64 &&& 63)))))
  else
    some ((0 : Int32), r_1.2)
set_option maxHeartbeats 4000000 in
set_option maxRecDepth 100000 in
theorem gm_show_33 {p : Program} {l : Launch} {e : Env} {s : State} {m : MethodId} {args : Array Value} {below : List Frame} {meth : Method} {c : Code} {D : va_G} {ca : Nat → ClassId} {α : Nat → Nat} {A : Nat → Prop} {o : Int32 × mS} (C : mC p s m args c cX12_show 3 D ca) (hr : meth.sig.returnType = some .int) (hlk : meth.locks = false) : ∀ (σ : mS) (x1 : Int32) (x2 : Int32) (s0 : Int32) (H : Heap) (locs : List Loc) (ls : Array Slot), mM D ca α A s.heap σ H locs → lv_has ls 3 [(0, .ref (α 0)), (1, .int x1), (2, .int x2)] → fm_show_33 σ x1 x2 s0 = some o → mGI p l e rmX12_show s m args below meth c D ca α A o H locs 33 ls [.int s0, .ref (α 0)] := by
  have hx := C.1
  have hb := C.2.1
  intro σ x1 x2 s0 H locs ls hM hl h
  unfold fm_show_33 at h
  obtain ⟨r_1, hr_1, h⟩ := bd_of h
  refine m_cVi (As := [.int s0]) (rest := []) C hM (cm_isWrong l D ca α A σ s0 r_1 hr_1) mwy_isWrong ⟨rfl, rfl⟩ ⟨Nat.le_of_ble_eq_true rfl, Nat.le_of_ble_eq_true rfl⟩ rfl rfl (Nat.le_of_ble_eq_true rfl) hl.1 dX12_show_33 ⟨rfl, rfl⟩ (fun H locs hM => ?_)
  refine lv_if_eq (tgt := 41) hx hb dX12_show_36 (by decide) (fun c_1 => ?_) (fun c_1 => ?_)
  · have h := br_T c_1 h
    refine lv_aload_n hx hb dX12_show_41 rfl (lv_at hl 0 rfl) ?_
    refine m_geta C hM (k := 6) (by decide) rfl dX12_show_42 ?_
    refine lv_iload_n hx hb dX12_show_45 rfl (lv_at hl 1 rfl) ?_
    refine lv_dup2_11 hx hb dX12_show_46 rfl rfl ?_
    obtain ⟨c_2, h⟩ := ko_of h
    refine m_lald C hM (k := 6) rfl c_2 dX12_show_47 ?_
    refine lv_lconst (v := (1 : Int64)) hx hb dX12_show_48 (by decide) ?_
    refine lv_iload_n hx hb dX12_show_49 rfl (lv_at hl 2 rfl) ?_
    refine lv_lshl (v := ((1 : Int64) <<< (x2.toInt64 &&& 63))) hx hb dX12_show_50 rfl ?_
    refine lv_lor hx hb dX12_show_51 ?_
    obtain ⟨c_3, h⟩ := ko_of h
    refine m_last C hM (k := 6) rfl c_3 dX12_show_52 (fun H locs hM => ?_)
    refine lv_aload_n hx hb dX12_show_53 rfl (lv_at hl 0 rfl) ?_
    refine m_geta C hM (k := 6) (by decide) rfl dX12_show_54 ?_
    refine lv_iload_n hx hb dX12_show_57 rfl (lv_at hl 1 rfl) ?_
    obtain ⟨c_4, h⟩ := ko_of h
    refine m_lald C hM (k := 6) rfl c_4 dX12_show_58 ?_
    obtain ⟨r_2, hr_2, h⟩ := bd_of h
    refine m_cSi (As := [.long ((mL r_1.2 6 x1.toNatClampNeg ((r_1.2.2.2.2 6 x1.toNatClampNeg) ||| ((1 : Int64) <<< (x2.toInt64 &&& 63)))).2.2.2 6 x1.toNatClampNeg)]) (rest := []) C hM (cm_bits l D ca α A (mL r_1.2 6 x1.toNatClampNeg ((r_1.2.2.2.2 6 x1.toNatClampNeg) ||| ((1 : Int64) <<< (x2.toInt64 &&& 63)))) ((mL r_1.2 6 x1.toNatClampNeg ((r_1.2.2.2.2 6 x1.toNatClampNeg) ||| ((1 : Int64) <<< (x2.toInt64 &&& 63)))).2.2.2 6 x1.toNatClampNeg) r_2 hr_2) mwy_bits ⟨rfl, rfl⟩ ⟨Nat.le_of_ble_eq_true rfl, Nat.le_of_ble_eq_true rfl⟩ rfl rfl (Nat.le_of_ble_eq_true rfl) hl.1 dX12_show_59 ⟨rfl, rfl⟩ (fun H locs hM => ?_)
    exact m_ri C hM hr hlk dX12_show_62 h
  · have h := br_F c_1 h
    refine lv_iconst (v := (0 : Int32)) hx hb dX12_show_39 (by decide) ?_
    exact m_ri C hM hr hlk dX12_show_40 h
def fm_show_17 (σ : mS) (x1 : Int32) (x2 : Int32) : Option (Int32 × mS) :=
  fm_show_33 σ x1 x2 (1 : Int32)
set_option maxHeartbeats 4000000 in
set_option maxRecDepth 100000 in
theorem gm_show_17 {p : Program} {l : Launch} {e : Env} {s : State} {m : MethodId} {args : Array Value} {below : List Frame} {meth : Method} {c : Code} {D : va_G} {ca : Nat → ClassId} {α : Nat → Nat} {A : Nat → Prop} {o : Int32 × mS} (C : mC p s m args c cX12_show 3 D ca) (hr : meth.sig.returnType = some .int) (hlk : meth.locks = false) : ∀ (σ : mS) (x1 : Int32) (x2 : Int32) (H : Heap) (locs : List Loc) (ls : Array Slot), mM D ca α A s.heap σ H locs → lv_has ls 3 [(0, .ref (α 0)), (1, .int x1), (2, .int x2)] → fm_show_17 σ x1 x2 = some o → mGI p l e rmX12_show s m args below meth c D ca α A o H locs 17 ls [.ref (α 0)] := by
  have hx := C.1
  have hb := C.2.1
  intro σ x1 x2 H locs ls hM hl h
  unfold fm_show_17 at h
  refine lv_iconst (v := (1 : Int32)) hx hb dX12_show_17 (by decide) ?_
  refine lv_goto (tgt := 33) hx hb dX12_show_18 (by decide) ?_
  exact gm_show_33 C hr hlk  _ _ _ _ _ _ _ hM (lv_sub hl [0, 1, 2] rfl) h
def fm_show (σ : mS) (x1 : Int32) (x2 : Int32) : Option (Int32 × mS) :=
  (fm_isRoom σ x1).bind fun r_1 =>
  if r_1.1 = 0 then
    fm_show_17 r_1.2 x1 x2
  else
    (fm_isWord r_1.2 x2).bind fun r_2 =>
    if r_2.1 = 0 then
      fm_show_17 r_2.2 x1 x2
    else
      if (r_2.2.1 20) = 0 then
        fm_show_33 r_2.2 x1 x2 (0 : Int32)
      else
        fm_show_33 r_2.2 x1 x2 (2 : Int32)
set_option maxHeartbeats 4000000 in
set_option maxRecDepth 100000 in
theorem cm_show (l : Launch) (D : va_G) (ca : Nat → ClassId) (α : Nat → Nat) (A : Nat → Prop) (σ : mS) (x1 : Int32) (x2 : Int32) (o : Int32 × mS) (h : fm_show σ x1 x2 = some o) : mMetI l yX12_show cX12_show 3 (some .int) rmX12_show D ca α A σ [.int x1, .int x2] o := by
  refine Met.ofW (cc := cX12_show) (maxL := 3) (ret := some .int) (by decide) rfl ?_
  intro p e s m args below meth c s₁ B hml hv
  obtain ⟨rfl, hP, hK, hD0⟩ := hv
  have C : mC p s m _ c cX12_show 3 D ca := ⟨B.exec, B.bytes, hml, findClass_of_methodNamed B.named, fun w hw => atoms_spec (ws := mWs yX12_show cX12_show 3 (some .int)) B.pre w (List.mem_cons_of_mem _ hw), hK⟩
  have hM : mM D ca α A s.heap σ s.heap [] := ⟨hP, hD0, va_S.rf⟩
  have hr := B.returns
  have hlk := B.notSynchronized
  have hx := C.1
  have hb := C.2.1
  have hl := lv_entry ([.ref (α 0), .int x1, .int x2]) (n := 3) (Nat.le_of_ble_eq_true rfl)
  rw [lg_entry_eq]
  generalize (lg_sl ([.ref (α 0), .int x1, .int x2]) ++ List.replicate (3 - (lg_sl ([.ref (α 0), .int x1, .int x2])).length) Slot.unset).toArray = ls at hl ⊢
  have hl : lv_has ls 3 [(0, .ref (α 0)), (1, .int x1), (2, .int x2)] := hl
  unfold fm_show at h
  refine lv_aload_n hx hb dX12_show_0 rfl (lv_at hl 0 rfl) ?_
  refine lv_aload_n hx hb dX12_show_1 rfl (lv_at hl 0 rfl) ?_
  refine lv_iload_n hx hb dX12_show_2 rfl (lv_at hl 1 rfl) ?_
  obtain ⟨r_1, hr_1, h⟩ := bd_of h
  refine m_cVi (As := [.int x1]) (rest := [.ref (α 0)]) C hM (cm_isRoom l D ca α A σ x1 r_1 hr_1) mwy_isRoom ⟨rfl, rfl⟩ ⟨Nat.le_of_ble_eq_true rfl, Nat.le_of_ble_eq_true rfl⟩ rfl rfl (Nat.le_of_ble_eq_true rfl) hl.1 dX12_show_3 ⟨rfl, rfl⟩ (fun H locs hM => ?_)
  refine lv_if_eq (tgt := 17) hx hb dX12_show_6 (by decide) (fun c_1 => ?_) (fun c_1 => ?_)
  · have h := br_T c_1 h
    exact gm_show_17 C hr hlk  _ _ _ _ _ _ hM (lv_sub hl [0, 1, 2] rfl) h
  · have h := br_F c_1 h
    refine lv_aload_n hx hb dX12_show_9 rfl (lv_at hl 0 rfl) ?_
    refine lv_iload_n hx hb dX12_show_10 rfl (lv_at hl 2 rfl) ?_
    obtain ⟨r_2, hr_2, h⟩ := bd_of h
    refine m_cVi (As := [.int x2]) (rest := [.ref (α 0)]) C hM (cm_isWord l D ca α A r_1.2 x2 r_2 hr_2) mwy_isWord ⟨rfl, rfl⟩ ⟨Nat.le_of_ble_eq_true rfl, Nat.le_of_ble_eq_true rfl⟩ rfl rfl (Nat.le_of_ble_eq_true rfl) hl.1 dX12_show_11 ⟨rfl, rfl⟩ (fun H locs hM => ?_)
    refine lv_if_ne (tgt := 21) hx hb dX12_show_14 (by decide) (fun c_2 => ?_) (fun c_2 => ?_)
    · have h := br_F c_2 h
      refine lv_aload_n hx hb dX12_show_21 rfl (lv_at hl 0 rfl) ?_
      refine m_geti C hM (k := 20) (Or.inr rfl) rfl dX12_show_22 ?_
      refine lv_if_eq (tgt := 32) hx hb dX12_show_25 (by decide) (fun c_3 => ?_) (fun c_3 => ?_)
      · have h := br_T c_3 h
        refine lv_iconst (v := (0 : Int32)) hx hb dX12_show_32 (by decide) ?_
        exact gm_show_33 C hr hlk  _ _ _ _ _ _ _ hM (lv_sub hl [0, 1, 2] rfl) h
      · have h := br_F c_3 h
        refine lv_iconst (v := (2 : Int32)) hx hb dX12_show_28 (by decide) ?_
        refine lv_goto (tgt := 33) hx hb dX12_show_29 (by decide) ?_
        exact gm_show_33 C hr hlk  _ _ _ _ _ _ _ hM (lv_sub hl [0, 1, 2] rfl) h
    · have h := br_T c_2 h
      exact gm_show_17 C hr hlk  _ _ _ _ _ _ hM (lv_sub hl [0, 1, 2] rfl) h
/-! exit(ICI)I -/
abbrev rmX12_exit : Room := { frames := 2, cells := 0, slots := 0, locals := 43 }
def fm_exit_45 (σ : mS) (x1 : Int32) (x2 : Int32) (x3 : Int32) (s0 : Int32) : Option (Int32 × mS) :=
  (fm_isWrong σ s0).bind fun r_1 =>
  if r_1.1 = 0 then
    (fm_directionOf x2).bind fun r_2 =>
    if (((6 : Int32) * x1) + r_2) < 0 ∨ 72 ≤ (((6 : Int32) * x1) + r_2).toNatClampNeg then none else
    if (((6 : Int32) * x1) + r_2) < 0 ∨ 72 ≤ (((6 : Int32) * x1) + r_2).toNatClampNeg then none else
    if (((6 : Int32) * x1) + r_2) < 0 ∨ 72 ≤ (((6 : Int32) * x1) + r_2).toNatClampNeg then none else
    some ((r_1.2.2.2.1 7 (((6 : Int32) * x1) + r_2).toNatClampNeg), (mA (mA r_1.2 7 (((6 : Int32) * x1) + r_2).toNatClampNeg x3) 8 (((6 : Int32) * x1) + r_2).toNatClampNeg (-1 : Int32)))
  else
    some ((0 : Int32), r_1.2)
set_option maxHeartbeats 4000000 in
set_option maxRecDepth 100000 in
theorem gm_exit_45 {p : Program} {l : Launch} {e : Env} {s : State} {m : MethodId} {args : Array Value} {below : List Frame} {meth : Method} {c : Code} {D : va_G} {ca : Nat → ClassId} {α : Nat → Nat} {A : Nat → Prop} {o : Int32 × mS} (C : mC p s m args c cX12_exit 6 D ca) (hr : meth.sig.returnType = some .int) (hlk : meth.locks = false) : ∀ (σ : mS) (x1 : Int32) (x2 : Int32) (x3 : Int32) (s0 : Int32) (H : Heap) (locs : List Loc) (ls : Array Slot), mM D ca α A s.heap σ H locs → lv_has ls 6 [(0, .ref (α 0)), (1, .int x1), (2, .int x2), (3, .int x3)] → fm_exit_45 σ x1 x2 x3 s0 = some o → mGI p l e rmX12_exit s m args below meth c D ca α A o H locs 45 ls [.int s0, .ref (α 0)] := by
  have hx := C.1
  have hb := C.2.1
  intro σ x1 x2 x3 s0 H locs ls hM hl h
  unfold fm_exit_45 at h
  obtain ⟨r_1, hr_1, h⟩ := bd_of h
  refine m_cVi (As := [.int s0]) (rest := []) C hM (cm_isWrong l D ca α A σ s0 r_1 hr_1) mwy_isWrong ⟨rfl, rfl⟩ ⟨Nat.le_of_ble_eq_true rfl, Nat.le_of_ble_eq_true rfl⟩ rfl rfl (Nat.le_of_ble_eq_true rfl) hl.1 dX12_exit_45 ⟨rfl, rfl⟩ (fun H locs hM => ?_)
  refine lv_if_eq (tgt := 53) hx hb dX12_exit_48 (by decide) (fun c_1 => ?_) (fun c_1 => ?_)
  · have h := br_T c_1 h
    refine lv_bipush (v := (6 : Int32)) hx hb dX12_exit_53 (by decide) ?_
    refine lv_iload_n hx hb dX12_exit_55 rfl (lv_at hl 1 rfl) ?_
    refine lv_imul hx hb dX12_exit_56 ?_
    refine lv_iload_n hx hb dX12_exit_57 rfl (lv_at hl 2 rfl) ?_
    obtain ⟨r_2, hr_2, h⟩ := bd_of h
    refine m_cSi (As := [.int x2]) (rest := [.int ((6 : Int32) * x1)]) C hM (cm_directionOf l D ca α A r_1.2 x2 r_2 hr_2) mwy_directionOf ⟨rfl, rfl⟩ ⟨Nat.le_of_ble_eq_true rfl, Nat.le_of_ble_eq_true rfl⟩ rfl rfl (Nat.le_of_ble_eq_true rfl) hl.1 dX12_exit_58 ⟨rfl, rfl⟩ (fun H locs hM => ?_)
    refine lv_iadd hx hb dX12_exit_61 ?_
    refine lv_istore (lv' := [(4, .int (((6 : Int32) * x1) + r_2)), (0, .ref (α 0)), (1, .int x1), (2, .int x2), (3, .int x3)]) hx hb dX12_exit_62 hl (by decide) rfl (fun ls hl => ?_)
    refine lv_aload_n hx hb dX12_exit_64 rfl (lv_at hl 1 rfl) ?_
    refine m_geta C hM (k := 7) (by decide) rfl dX12_exit_65 ?_
    refine lv_iload hx hb dX12_exit_68 (lv_at hl 0 rfl) ?_
    obtain ⟨c_2, h⟩ := ko_of h
    refine m_iald C hM (k := 7) rfl c_2 dX12_exit_70 ?_
    refine lv_istore (lv' := [(5, .int (r_1.2.2.2.1 7 (((6 : Int32) * x1) + r_2).toNatClampNeg)), (4, .int (((6 : Int32) * x1) + r_2)), (0, .ref (α 0)), (1, .int x1), (2, .int x2), (3, .int x3)]) hx hb dX12_exit_71 hl (by decide) rfl (fun ls hl => ?_)
    refine lv_aload_n hx hb dX12_exit_73 rfl (lv_at hl 2 rfl) ?_
    refine m_geta C hM (k := 7) (by decide) rfl dX12_exit_74 ?_
    refine lv_iload hx hb dX12_exit_77 (lv_at hl 1 rfl) ?_
    refine lv_iload_n hx hb dX12_exit_79 rfl (lv_at hl 5 rfl) ?_
    obtain ⟨c_3, h⟩ := ko_of h
    refine m_iast C hM (k := 7) rfl c_3 dX12_exit_80 (fun H locs hM => ?_)
    refine lv_aload_n hx hb dX12_exit_81 rfl (lv_at hl 2 rfl) ?_
    refine m_geta C hM (k := 8) (by decide) rfl dX12_exit_82 ?_
    refine lv_iload hx hb dX12_exit_85 (lv_at hl 1 rfl) ?_
    refine lv_iconst (v := (-1 : Int32)) hx hb dX12_exit_87 (by decide) ?_
    obtain ⟨c_4, h⟩ := ko_of h
    refine m_iast C hM (k := 8) rfl c_4 dX12_exit_88 (fun H locs hM => ?_)
    refine lv_iload hx hb dX12_exit_89 (lv_at hl 0 rfl) ?_
    exact m_ri C hM hr hlk dX12_exit_91 h
  · have h := br_F c_1 h
    refine lv_iconst (v := (0 : Int32)) hx hb dX12_exit_51 (by decide) ?_
    exact m_ri C hM hr hlk dX12_exit_52 h
def fm_exit_17 (σ : mS) (x1 : Int32) (x2 : Int32) (x3 : Int32) : Option (Int32 × mS) :=
  fm_exit_45 σ x1 x2 x3 (1 : Int32)
set_option maxHeartbeats 4000000 in
set_option maxRecDepth 100000 in
theorem gm_exit_17 {p : Program} {l : Launch} {e : Env} {s : State} {m : MethodId} {args : Array Value} {below : List Frame} {meth : Method} {c : Code} {D : va_G} {ca : Nat → ClassId} {α : Nat → Nat} {A : Nat → Prop} {o : Int32 × mS} (C : mC p s m args c cX12_exit 6 D ca) (hr : meth.sig.returnType = some .int) (hlk : meth.locks = false) : ∀ (σ : mS) (x1 : Int32) (x2 : Int32) (x3 : Int32) (H : Heap) (locs : List Loc) (ls : Array Slot), mM D ca α A s.heap σ H locs → lv_has ls 6 [(0, .ref (α 0)), (1, .int x1), (2, .int x2), (3, .int x3)] → fm_exit_17 σ x1 x2 x3 = some o → mGI p l e rmX12_exit s m args below meth c D ca α A o H locs 17 ls [.ref (α 0)] := by
  have hx := C.1
  have hb := C.2.1
  intro σ x1 x2 x3 H locs ls hM hl h
  unfold fm_exit_17 at h
  refine lv_iconst (v := (1 : Int32)) hx hb dX12_exit_17 (by decide) ?_
  refine lv_goto (tgt := 45) hx hb dX12_exit_18 (by decide) ?_
  exact gm_exit_45 C hr hlk  _ _ _ _ _ _ _ _ hM (lv_sub hl [0, 1, 2, 3] rfl) h
def fm_exit (σ : mS) (x1 : Int32) (x2 : Int32) (x3 : Int32) : Option (Int32 × mS) :=
  (fm_isRoom σ x1).bind fun r_1 =>
  if r_1.1 = 0 then
    fm_exit_17 r_1.2 x1 x2 x3
  else
    (fm_isRoom r_1.2 x3).bind fun r_2 =>
    if r_2.1 = 0 then
      fm_exit_17 r_2.2 x1 x2 x3
    else
      (fm_directionOf x2).bind fun r_3 =>
      if r_3 = (-1 : Int32) then
        fm_exit_45 r_2.2 x1 x2 x3 (2 : Int32)
      else
        if (r_2.2.1 20) = 0 then
          fm_exit_45 r_2.2 x1 x2 x3 (0 : Int32)
        else
          fm_exit_45 r_2.2 x1 x2 x3 (3 : Int32)
set_option maxHeartbeats 4000000 in
set_option maxRecDepth 100000 in
theorem cm_exit (l : Launch) (D : va_G) (ca : Nat → ClassId) (α : Nat → Nat) (A : Nat → Prop) (σ : mS) (x1 : Int32) (x2 : Int32) (x3 : Int32) (o : Int32 × mS) (h : fm_exit σ x1 x2 x3 = some o) : mMetI l yX12_exit cX12_exit 6 (some .int) rmX12_exit D ca α A σ [.int x1, .int x2, .int x3] o := by
  refine Met.ofW (cc := cX12_exit) (maxL := 6) (ret := some .int) (by decide) rfl ?_
  intro p e s m args below meth c s₁ B hml hv
  obtain ⟨rfl, hP, hK, hD0⟩ := hv
  have C : mC p s m _ c cX12_exit 6 D ca := ⟨B.exec, B.bytes, hml, findClass_of_methodNamed B.named, fun w hw => atoms_spec (ws := mWs yX12_exit cX12_exit 6 (some .int)) B.pre w (List.mem_cons_of_mem _ hw), hK⟩
  have hM : mM D ca α A s.heap σ s.heap [] := ⟨hP, hD0, va_S.rf⟩
  have hr := B.returns
  have hlk := B.notSynchronized
  have hx := C.1
  have hb := C.2.1
  have hl := lv_entry ([.ref (α 0), .int x1, .int x2, .int x3]) (n := 6) (Nat.le_of_ble_eq_true rfl)
  rw [lg_entry_eq]
  generalize (lg_sl ([.ref (α 0), .int x1, .int x2, .int x3]) ++ List.replicate (6 - (lg_sl ([.ref (α 0), .int x1, .int x2, .int x3])).length) Slot.unset).toArray = ls at hl ⊢
  have hl : lv_has ls 6 [(0, .ref (α 0)), (1, .int x1), (2, .int x2), (3, .int x3)] := hl
  unfold fm_exit at h
  refine lv_aload_n hx hb dX12_exit_0 rfl (lv_at hl 0 rfl) ?_
  refine lv_aload_n hx hb dX12_exit_1 rfl (lv_at hl 0 rfl) ?_
  refine lv_iload_n hx hb dX12_exit_2 rfl (lv_at hl 1 rfl) ?_
  obtain ⟨r_1, hr_1, h⟩ := bd_of h
  refine m_cVi (As := [.int x1]) (rest := [.ref (α 0)]) C hM (cm_isRoom l D ca α A σ x1 r_1 hr_1) mwy_isRoom ⟨rfl, rfl⟩ ⟨Nat.le_of_ble_eq_true rfl, Nat.le_of_ble_eq_true rfl⟩ rfl rfl (Nat.le_of_ble_eq_true rfl) hl.1 dX12_exit_3 ⟨rfl, rfl⟩ (fun H locs hM => ?_)
  refine lv_if_eq (tgt := 17) hx hb dX12_exit_6 (by decide) (fun c_1 => ?_) (fun c_1 => ?_)
  · have h := br_T c_1 h
    exact gm_exit_17 C hr hlk  _ _ _ _ _ _ _ hM (lv_sub hl [0, 1, 2, 3] rfl) h
  · have h := br_F c_1 h
    refine lv_aload_n hx hb dX12_exit_9 rfl (lv_at hl 0 rfl) ?_
    refine lv_iload_n hx hb dX12_exit_10 rfl (lv_at hl 3 rfl) ?_
    obtain ⟨r_2, hr_2, h⟩ := bd_of h
    refine m_cVi (As := [.int x3]) (rest := [.ref (α 0)]) C hM (cm_isRoom l D ca α A r_1.2 x3 r_2 hr_2) mwy_isRoom ⟨rfl, rfl⟩ ⟨Nat.le_of_ble_eq_true rfl, Nat.le_of_ble_eq_true rfl⟩ rfl rfl (Nat.le_of_ble_eq_true rfl) hl.1 dX12_exit_11 ⟨rfl, rfl⟩ (fun H locs hM => ?_)
    refine lv_if_ne (tgt := 21) hx hb dX12_exit_14 (by decide) (fun c_2 => ?_) (fun c_2 => ?_)
    · have h := br_F c_2 h
      refine lv_iload_n hx hb dX12_exit_21 rfl (lv_at hl 2 rfl) ?_
      obtain ⟨r_3, hr_3, h⟩ := bd_of h
      refine m_cSi (As := [.int x2]) (rest := [.ref (α 0)]) C hM (cm_directionOf l D ca α A r_2.2 x2 r_3 hr_3) mwy_directionOf ⟨rfl, rfl⟩ ⟨Nat.le_of_ble_eq_true rfl, Nat.le_of_ble_eq_true rfl⟩ rfl rfl (Nat.le_of_ble_eq_true rfl) hl.1 dX12_exit_22 ⟨rfl, rfl⟩ (fun H locs hM => ?_)
      refine lv_iconst (v := (-1 : Int32)) hx hb dX12_exit_25 (by decide) ?_
      refine lv_icmp_ne (tgt := 33) hx hb dX12_exit_26 (by decide) (fun c_3 => ?_) (fun c_3 => ?_)
      · have h := br_F c_3 h
        refine lv_aload_n hx hb dX12_exit_33 rfl (lv_at hl 0 rfl) ?_
        refine m_geti C hM (k := 20) (Or.inr rfl) rfl dX12_exit_34 ?_
        refine lv_if_eq (tgt := 44) hx hb dX12_exit_37 (by decide) (fun c_4 => ?_) (fun c_4 => ?_)
        · have h := br_T c_4 h
          refine lv_iconst (v := (0 : Int32)) hx hb dX12_exit_44 (by decide) ?_
          exact gm_exit_45 C hr hlk  _ _ _ _ _ _ _ _ hM (lv_sub hl [0, 1, 2, 3] rfl) h
        · have h := br_F c_4 h
          refine lv_iconst (v := (3 : Int32)) hx hb dX12_exit_40 (by decide) ?_
          refine lv_goto (tgt := 45) hx hb dX12_exit_41 (by decide) ?_
          exact gm_exit_45 C hr hlk  _ _ _ _ _ _ _ _ hM (lv_sub hl [0, 1, 2, 3] rfl) h
      · have h := br_T c_3 h
        refine lv_iconst (v := (2 : Int32)) hx hb dX12_exit_29 (by decide) ?_
        refine lv_goto (tgt := 45) hx hb dX12_exit_30 (by decide) ?_
        exact gm_exit_45 C hr hlk  _ _ _ _ _ _ _ _ hM (lv_sub hl [0, 1, 2, 3] rfl) h
    · have h := br_T c_2 h
      exact gm_exit_17 C hr hlk  _ _ _ _ _ _ _ hM (lv_sub hl [0, 1, 2, 3] rfl) h
