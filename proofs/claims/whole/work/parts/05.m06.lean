/-! The reference's methods: what each makes of the state (fm_..), as the bytecode has it; and that it does (cm_..). -/

/-! depth(I)I -/
abbrev rmX12_depth : Room := { frames := 2, cells := 0, slots := 0, locals := 43 }
def fm_depth_29 (σ : mS) (s0 : Int32) : Option (Int32 × mS) :=
  some (s0, σ)
set_option maxHeartbeats 4000000 in
set_option maxRecDepth 100000 in
theorem gm_depth_29 {p : Program} {l : Launch} {e : Env} {s : State} {m : MethodId} {args : Array Value} {below : List Frame} {meth : Method} {c : Code} {D : va_G} {ca : Nat → ClassId} {α : Nat → Nat} {A : Nat → Prop} {o : Int32 × mS} (C : mC p s m args c cX12_depth 2 D ca) (hr : meth.sig.returnType = some .int) (hlk : meth.locks = false) : ∀ (σ : mS) (s0 : Int32) (H : Heap) (locs : List Loc) (ls : Array Slot), mM D ca α A s.heap σ H locs → lv_has ls 2 [(0, .ref (α 0))] → fm_depth_29 σ s0 = some o → mGI p l e rmX12_depth s m args below meth c D ca α A o H locs 29 ls [.int s0] := by
  have hx := C.1
  have hb := C.2.1
  intro σ s0 H locs ls hM hl h
  unfold fm_depth_29 at h
  exact m_ri C hM hr hlk dX12_depth_29 h
def fm_depth_14 (σ : mS) (x1 : Int32) (s0 : Int32) : Option (Int32 × mS) :=
  (fm_isWrong σ s0).bind fun r_1 =>
  if r_1.1 = 0 then
    (fm_depthOf r_1.2 x1).bind fun r_2 =>
    fm_depth_29 r_2.2 r_2.1
  else
    fm_depth_29 r_1.2 (0 : Int32)
set_option maxHeartbeats 4000000 in
set_option maxRecDepth 100000 in
theorem gm_depth_14 {p : Program} {l : Launch} {e : Env} {s : State} {m : MethodId} {args : Array Value} {below : List Frame} {meth : Method} {c : Code} {D : va_G} {ca : Nat → ClassId} {α : Nat → Nat} {A : Nat → Prop} {o : Int32 × mS} (C : mC p s m args c cX12_depth 2 D ca) (hr : meth.sig.returnType = some .int) (hlk : meth.locks = false) : ∀ (σ : mS) (x1 : Int32) (s0 : Int32) (H : Heap) (locs : List Loc) (ls : Array Slot), mM D ca α A s.heap σ H locs → lv_has ls 2 [(0, .ref (α 0)), (1, .int x1)] → fm_depth_14 σ x1 s0 = some o → mGI p l e rmX12_depth s m args below meth c D ca α A o H locs 14 ls [.int s0, .ref (α 0)] := by
  have hx := C.1
  have hb := C.2.1
  intro σ x1 s0 H locs ls hM hl h
  unfold fm_depth_14 at h
  obtain ⟨r_1, hr_1, h⟩ := bd_of h
  refine m_cVi (As := [.int s0]) (rest := []) C hM (cm_isWrong l D ca α A σ s0 r_1 hr_1) mwy_isWrong ⟨rfl, rfl⟩ ⟨Nat.le_of_ble_eq_true rfl, Nat.le_of_ble_eq_true rfl⟩ rfl rfl (Nat.le_of_ble_eq_true rfl) hl.1 dX12_depth_14 ⟨rfl, rfl⟩ (fun H locs hM => ?_)
  refine lv_if_eq (tgt := 24) hx hb dX12_depth_17 (by decide) (fun c_1 => ?_) (fun c_1 => ?_)
  · have h := br_T c_1 h
    refine lv_aload_n hx hb dX12_depth_24 rfl (lv_at hl 0 rfl) ?_
    refine lv_iload_n hx hb dX12_depth_25 rfl (lv_at hl 1 rfl) ?_
    obtain ⟨r_2, hr_2, h⟩ := bd_of h
    refine m_cVi (As := [.int x1]) (rest := []) C hM (cm_depthOf l D ca α A r_1.2 x1 r_2 hr_2) mwy_depthOf ⟨rfl, rfl⟩ ⟨Nat.le_of_ble_eq_true rfl, Nat.le_of_ble_eq_true rfl⟩ rfl rfl (Nat.le_of_ble_eq_true rfl) hl.1 dX12_depth_26 ⟨rfl, rfl⟩ (fun H locs hM => ?_)
    exact gm_depth_29 C hr hlk  _ _ _ _ _ hM (lv_sub hl [0] rfl) h
  · have h := br_F c_1 h
    refine lv_iconst (v := (0 : Int32)) hx hb dX12_depth_20 (by decide) ?_
    refine lv_goto (tgt := 29) hx hb dX12_depth_21 (by decide) ?_
    exact gm_depth_29 C hr hlk  _ _ _ _ _ hM (lv_sub hl [0] rfl) h
def fm_depth (σ : mS) (x1 : Int32) : Option (Int32 × mS) :=
  (fm_isNode σ x1).bind fun r_1 =>
  if r_1.1 = 0 then
    fm_depth_14 r_1.2 x1 (1 : Int32)
  else
    fm_depth_14 r_1.2 x1 (0 : Int32)
set_option maxHeartbeats 4000000 in
set_option maxRecDepth 100000 in
theorem cm_depth (l : Launch) (D : va_G) (ca : Nat → ClassId) (α : Nat → Nat) (A : Nat → Prop) (σ : mS) (x1 : Int32) (o : Int32 × mS) (h : fm_depth σ x1 = some o) : mMetI l yX12_depth cX12_depth 2 (some .int) rmX12_depth D ca α A σ [.int x1] o := by
  refine Met.ofW (cc := cX12_depth) (maxL := 2) (ret := some .int) (by decide) rfl ?_
  intro p e s m args below meth c s₁ B hml hv
  obtain ⟨rfl, hP, hK, hD0⟩ := hv
  have C : mC p s m _ c cX12_depth 2 D ca := ⟨B.exec, B.bytes, hml, findClass_of_methodNamed B.named, fun w hw => atoms_spec (ws := mWs yX12_depth cX12_depth 2 (some .int)) B.pre w (List.mem_cons_of_mem _ hw), hK⟩
  have hM : mM D ca α A s.heap σ s.heap [] := ⟨hP, hD0, va_S.rf⟩
  have hr := B.returns
  have hlk := B.notSynchronized
  have hx := C.1
  have hb := C.2.1
  have hl := lv_entry ([.ref (α 0), .int x1]) (n := 2) (Nat.le_of_ble_eq_true rfl)
  rw [lg_entry_eq]
  generalize (lg_sl ([.ref (α 0), .int x1]) ++ List.replicate (2 - (lg_sl ([.ref (α 0), .int x1])).length) Slot.unset).toArray = ls at hl ⊢
  have hl : lv_has ls 2 [(0, .ref (α 0)), (1, .int x1)] := hl
  unfold fm_depth at h
  refine lv_aload_n hx hb dX12_depth_0 rfl (lv_at hl 0 rfl) ?_
  refine lv_aload_n hx hb dX12_depth_1 rfl (lv_at hl 0 rfl) ?_
  refine lv_iload_n hx hb dX12_depth_2 rfl (lv_at hl 1 rfl) ?_
  obtain ⟨r_1, hr_1, h⟩ := bd_of h
  refine m_cVi (As := [.int x1]) (rest := [.ref (α 0)]) C hM (cm_isNode l D ca α A σ x1 r_1 hr_1) mwy_isNode ⟨rfl, rfl⟩ ⟨Nat.le_of_ble_eq_true rfl, Nat.le_of_ble_eq_true rfl⟩ rfl rfl (Nat.le_of_ble_eq_true rfl) hl.1 dX12_depth_3 ⟨rfl, rfl⟩ (fun H locs hM => ?_)
  refine lv_if_eq (tgt := 13) hx hb dX12_depth_6 (by decide) (fun c_1 => ?_) (fun c_1 => ?_)
  · have h := br_T c_1 h
    refine lv_iconst (v := (1 : Int32)) hx hb dX12_depth_13 (by decide) ?_
    exact gm_depth_14 C hr hlk  _ _ _ _ _ _ hM (lv_sub hl [0, 1] rfl) h
  · have h := br_F c_1 h
    refine lv_iconst (v := (0 : Int32)) hx hb dX12_depth_9 (by decide) ?_
    refine lv_goto (tgt := 14) hx hb dX12_depth_10 (by decide) ?_
    exact gm_depth_14 C hr hlk  _ _ _ _ _ _ hM (lv_sub hl [0, 1] rfl) h
/-! child(II)I -/
abbrev rmX12_child : Room := { frames := 0, cells := 0, slots := 0, locals := 0 }
def fm_child_38 (k_5 : mS → Int32 → Int32 → Int32 → Option (Int32 × mS)) (σ : mS) (x1 : Int32) (x3 : Int32) (x4 : Int32) : Option (Int32 × mS) :=
  k_5 σ x1 x3 (x4 + (1 : Int32))
set_option maxHeartbeats 4000000 in
set_option maxRecDepth 100000 in
theorem gm_child_38 {p : Program} {l : Launch} {e : Env} {s : State} {m : MethodId} {args : Array Value} {below : List Frame} {meth : Method} {c : Code} {D : va_G} {ca : Nat → ClassId} {α : Nat → Nat} {A : Nat → Prop} {o : Int32 × mS} {k_5 : mS → Int32 → Int32 → Int32 → Option (Int32 × mS)} (C : mC p s m args c cX12_child 5 D ca) (hr : meth.sig.returnType = some .int) (hlk : meth.locks = false) (hk_5 : ∀ (σ : mS) (x1 : Int32) (x3 : Int32) (x4 : Int32) (H : Heap) (locs : List Loc) (ls : Array Slot), mM D ca α A s.heap σ H locs → lv_has ls 5 [(0, .ref (α 0)), (1, .int x1), (3, .int x3), (4, .int x4)] → k_5 σ x1 x3 x4 = some o → mGI p l e rmX12_child s m args below meth c D ca α A o H locs 5 ls []) : ∀ (σ : mS) (x1 : Int32) (x3 : Int32) (x4 : Int32) (H : Heap) (locs : List Loc) (ls : Array Slot), mM D ca α A s.heap σ H locs → lv_has ls 5 [(0, .ref (α 0)), (1, .int x1), (3, .int x3), (4, .int x4)] → fm_child_38 k_5 σ x1 x3 x4 = some o → mGI p l e rmX12_child s m args below meth c D ca α A o H locs 38 ls [] := by
  have hx := C.1
  have hb := C.2.1
  intro σ x1 x3 x4 H locs ls hM hl h
  unfold fm_child_38 at h
  refine lv_iinc (v := (x4 + (1 : Int32))) (lv' := [(4, .int (x4 + (1 : Int32))), (0, .ref (α 0)), (1, .int x1), (3, .int x3)]) hx hb dX12_child_38 hl (k := 3) rfl rfl (by decide) rfl (fun ls hl => ?_)
  refine lv_goto (tgt := 5) hx hb dX12_child_41 (by decide) ?_
  exact hk_5 _ _ _ _ _ _ _ hM (lv_sub hl [1, 2, 3, 0] rfl) h
def fm_child_5 : Nat → mS → Int32 → Int32 → Int32 → Option (Int32 × mS)
  | 0, _, _, _, _ => none
  | n + 1, σ, x1, x3, x4 =>
    if (σ.1 33) ≤ x4 then
      some ((-1 : Int32), σ)
    else
      if x4 < 0 ∨ 80 ≤ x4.toNatClampNeg then none else
      if (σ.2.2.1 25 x4.toNatClampNeg) = x1 then
        if x3 = 0 then
          some (x4, σ)
        else
          fm_child_38 (fm_child_5 n) σ x1 (x3 + (-1 : Int32)) x4
      else
        fm_child_38 (fm_child_5 n) σ x1 x3 x4
set_option maxHeartbeats 4000000 in
set_option maxRecDepth 100000 in
theorem gm_child_5 {p : Program} {l : Launch} {e : Env} {s : State} {m : MethodId} {args : Array Value} {below : List Frame} {meth : Method} {c : Code} {D : va_G} {ca : Nat → ClassId} {α : Nat → Nat} {A : Nat → Prop} {o : Int32 × mS} (C : mC p s m args c cX12_child 5 D ca) (hr : meth.sig.returnType = some .int) (hlk : meth.locks = false) : ∀ (n : Nat) (σ : mS) (x1 : Int32) (x3 : Int32) (x4 : Int32) (H : Heap) (locs : List Loc) (ls : Array Slot), mM D ca α A s.heap σ H locs → lv_has ls 5 [(0, .ref (α 0)), (1, .int x1), (3, .int x3), (4, .int x4)] → fm_child_5 n σ x1 x3 x4 = some o → mGI p l e rmX12_child s m args below meth c D ca α A o H locs 5 ls [] := by
  have hx := C.1
  have hb := C.2.1
  intro n
  induction n with
  | zero =>
    intro σ x1 x3 x4 H locs ls hM hl h
    cases h
  | succ n ih =>
    intro σ x1 x3 x4 H locs ls hM hl h
    rw [fm_child_5] at h
    refine lv_iload hx hb dX12_child_5 (lv_at hl 3 rfl) ?_
    refine lv_aload_n hx hb dX12_child_7 rfl (lv_at hl 0 rfl) ?_
    refine m_geti C hM (k := 33) (Or.inl rfl) rfl dX12_child_8 ?_
    refine lv_icmp_ge (tgt := 44) hx hb dX12_child_11 (by decide) (fun c_1 => ?_) (fun c_1 => ?_)
    · have h := br_T c_1 h
      refine lv_iconst (v := (-1 : Int32)) hx hb dX12_child_44 (by decide) ?_
      exact m_ri C hM hr hlk dX12_child_45 h
    · have h := br_F c_1 h
      refine lv_aload_n hx hb dX12_child_14 rfl (lv_at hl 0 rfl) ?_
      refine m_geta C hM (k := 25) (by decide) rfl dX12_child_15 ?_
      refine lv_iload hx hb dX12_child_18 (lv_at hl 3 rfl) ?_
      obtain ⟨c_2, h⟩ := ko_of h
      refine m_iald C hM (k := 25) rfl c_2 dX12_child_20 ?_
      refine lv_iload_n hx hb dX12_child_21 rfl (lv_at hl 1 rfl) ?_
      refine lv_icmp_eq (tgt := 28) hx hb dX12_child_22 (by decide) (fun c_3 => ?_) (fun c_3 => ?_)
      · have h := br_T c_3 h
        refine lv_iload_n hx hb dX12_child_28 rfl (lv_at hl 2 rfl) ?_
        refine lv_if_ne (tgt := 35) hx hb dX12_child_29 (by decide) (fun c_4 => ?_) (fun c_4 => ?_)
        · have h := br_F c_4 h
          refine lv_iinc (v := (x3 + (-1 : Int32))) (lv' := [(3, .int (x3 + (-1 : Int32))), (0, .ref (α 0)), (1, .int x1), (4, .int x4)]) hx hb dX12_child_35 hl (k := 2) rfl rfl (by decide) rfl (fun ls hl => ?_)
          exact gm_child_38 C hr hlk ih _ _ _ _ _ _ _ hM (lv_sub hl [1, 2, 0, 3] rfl) h
        · have h := br_T c_4 h
          refine lv_iload hx hb dX12_child_32 (lv_at hl 3 rfl) ?_
          exact m_ri C hM hr hlk dX12_child_34 h
      · have h := br_F c_3 h
        refine lv_goto (tgt := 38) hx hb dX12_child_25 (by decide) ?_
        exact gm_child_38 C hr hlk ih _ _ _ _ _ _ _ hM (lv_sub hl [0, 1, 2, 3] rfl) h
def fm_child (σ : mS) (x1 : Int32) (x2 : Int32) : Option (Int32 × mS) :=
  fm_child_5 3000 σ x1 x2 (1 : Int32)
set_option maxHeartbeats 4000000 in
set_option maxRecDepth 100000 in
theorem cm_child (l : Launch) (D : va_G) (ca : Nat → ClassId) (α : Nat → Nat) (A : Nat → Prop) (σ : mS) (x1 : Int32) (x2 : Int32) (o : Int32 × mS) (h : fm_child σ x1 x2 = some o) : mMetI l yX12_child cX12_child 5 (some .int) rmX12_child D ca α A σ [.int x1, .int x2] o := by
  refine Met.ofW (cc := cX12_child) (maxL := 5) (ret := some .int) (by decide) rfl ?_
  intro p e s m args below meth c s₁ B hml hv
  obtain ⟨rfl, hP, hK, hD0⟩ := hv
  have C : mC p s m _ c cX12_child 5 D ca := ⟨B.exec, B.bytes, hml, findClass_of_methodNamed B.named, fun w hw => atoms_spec (ws := mWs yX12_child cX12_child 5 (some .int)) B.pre w (List.mem_cons_of_mem _ hw), hK⟩
  have hM : mM D ca α A s.heap σ s.heap [] := ⟨hP, hD0, va_S.rf⟩
  have hr := B.returns
  have hlk := B.notSynchronized
  have hx := C.1
  have hb := C.2.1
  have hl := lv_entry ([.ref (α 0), .int x1, .int x2]) (n := 5) (Nat.le_of_ble_eq_true rfl)
  rw [lg_entry_eq]
  generalize (lg_sl ([.ref (α 0), .int x1, .int x2]) ++ List.replicate (5 - (lg_sl ([.ref (α 0), .int x1, .int x2])).length) Slot.unset).toArray = ls at hl ⊢
  have hl : lv_has ls 5 [(0, .ref (α 0)), (1, .int x1), (2, .int x2)] := hl
  unfold fm_child at h
  refine lv_iload_n hx hb dX12_child_0 rfl (lv_at hl 2 rfl) ?_
  refine lv_istore_n (lv' := [(3, .int x2), (0, .ref (α 0)), (1, .int x1), (2, .int x2)]) hx hb dX12_child_1 rfl hl (by decide) rfl (fun ls hl => ?_)
  refine lv_iconst (v := (1 : Int32)) hx hb dX12_child_2 (by decide) ?_
  refine lv_istore (lv' := [(4, .int (1 : Int32)), (3, .int x2), (0, .ref (α 0)), (1, .int x1), (2, .int x2)]) hx hb dX12_child_3 hl (by decide) rfl (fun ls hl => ?_)
  exact gm_child_5 C hr hlk  _ _ _ _ _ _ _ _ hM (lv_sub hl [2, 3, 1, 0] rfl) h
theorem mwy_child : mCallV RX12 297 yX12_child cX12_child 5 (some .int) 2 := ⟨⟨wl_in (i := 2249) (by decide +kernel), wl_in (i := 2251) (by decide +kernel), wl_inp (i := 58) (by decide +kernel), wl_in (i := 16) (by decide +kernel), wl_in (i := 2252) (by decide +kernel)⟩, rfl, by decide, by decide, by decide +kernel⟩
/-! children(I)I -/
abbrev rmX12_children : Room := { frames := 2, cells := 0, slots := 0, locals := 43 }
def fm_children_24 : Nat → mS → Int32 → Int32 → Option (Int32 × mS)
  | 0, _, _, _ => none
  | n + 1, σ, x1, x2 =>
    (fm_child σ x1 x2).bind fun r_1 =>
    if r_1.1 = (-1 : Int32) then
      some (x2, r_1.2)
    else
      (fm_children_24 n) r_1.2 x1 (x2 + (1 : Int32))
set_option maxHeartbeats 4000000 in
set_option maxRecDepth 100000 in
theorem gm_children_24 {p : Program} {l : Launch} {e : Env} {s : State} {m : MethodId} {args : Array Value} {below : List Frame} {meth : Method} {c : Code} {D : va_G} {ca : Nat → ClassId} {α : Nat → Nat} {A : Nat → Prop} {o : Int32 × mS} (C : mC p s m args c cX12_children 3 D ca) (hr : meth.sig.returnType = some .int) (hlk : meth.locks = false) : ∀ (n : Nat) (σ : mS) (x1 : Int32) (x2 : Int32) (H : Heap) (locs : List Loc) (ls : Array Slot), mM D ca α A s.heap σ H locs → lv_has ls 3 [(0, .ref (α 0)), (1, .int x1), (2, .int x2)] → fm_children_24 n σ x1 x2 = some o → mGI p l e rmX12_children s m args below meth c D ca α A o H locs 24 ls [] := by
  have hx := C.1
  have hb := C.2.1
  intro n
  induction n with
  | zero =>
    intro σ x1 x2 H locs ls hM hl h
    cases h
  | succ n ih =>
    intro σ x1 x2 H locs ls hM hl h
    rw [fm_children_24] at h
    refine lv_aload_n hx hb dX12_children_24 rfl (lv_at hl 0 rfl) ?_
    refine lv_iload_n hx hb dX12_children_25 rfl (lv_at hl 1 rfl) ?_
    refine lv_iload_n hx hb dX12_children_26 rfl (lv_at hl 2 rfl) ?_
    obtain ⟨r_1, hr_1, h⟩ := bd_of h
    refine m_cVi (As := [.int x1, .int x2]) (rest := []) C hM (cm_child l D ca α A σ x1 x2 r_1 hr_1) mwy_child ⟨rfl, rfl⟩ ⟨Nat.le_of_ble_eq_true rfl, Nat.le_of_ble_eq_true rfl⟩ rfl rfl (Nat.le_of_ble_eq_true rfl) hl.1 dX12_children_27 ⟨rfl, rfl⟩ (fun H locs hM => ?_)
    refine lv_iconst (v := (-1 : Int32)) hx hb dX12_children_30 (by decide) ?_
    refine lv_icmp_eq (tgt := 40) hx hb dX12_children_31 (by decide) (fun c_1 => ?_) (fun c_1 => ?_)
    · have h := br_T c_1 h
      refine lv_iload_n hx hb dX12_children_40 rfl (lv_at hl 2 rfl) ?_
      exact m_ri C hM hr hlk dX12_children_41 h
    · have h := br_F c_1 h
      refine lv_iinc (v := (x2 + (1 : Int32))) (lv' := [(2, .int (x2 + (1 : Int32))), (0, .ref (α 0)), (1, .int x1)]) hx hb dX12_children_34 hl (k := 2) rfl rfl (by decide) rfl (fun ls hl => ?_)
      refine lv_goto (tgt := 24) hx hb dX12_children_37 (by decide) ?_
      exact ih _ _ _ _ _ _ hM (lv_sub hl [1, 2, 0] rfl) h
def fm_children_14 (σ : mS) (x1 : Int32) (s0 : Int32) : Option (Int32 × mS) :=
  (fm_isWrong σ s0).bind fun r_1 =>
  if r_1.1 = 0 then
    fm_children_24 3000 r_1.2 x1 (0 : Int32)
  else
    some ((0 : Int32), r_1.2)
set_option maxHeartbeats 4000000 in
set_option maxRecDepth 100000 in
theorem gm_children_14 {p : Program} {l : Launch} {e : Env} {s : State} {m : MethodId} {args : Array Value} {below : List Frame} {meth : Method} {c : Code} {D : va_G} {ca : Nat → ClassId} {α : Nat → Nat} {A : Nat → Prop} {o : Int32 × mS} (C : mC p s m args c cX12_children 3 D ca) (hr : meth.sig.returnType = some .int) (hlk : meth.locks = false) : ∀ (σ : mS) (x1 : Int32) (s0 : Int32) (H : Heap) (locs : List Loc) (ls : Array Slot), mM D ca α A s.heap σ H locs → lv_has ls 3 [(0, .ref (α 0)), (1, .int x1)] → fm_children_14 σ x1 s0 = some o → mGI p l e rmX12_children s m args below meth c D ca α A o H locs 14 ls [.int s0, .ref (α 0)] := by
  have hx := C.1
  have hb := C.2.1
  intro σ x1 s0 H locs ls hM hl h
  unfold fm_children_14 at h
  obtain ⟨r_1, hr_1, h⟩ := bd_of h
  refine m_cVi (As := [.int s0]) (rest := []) C hM (cm_isWrong l D ca α A σ s0 r_1 hr_1) mwy_isWrong ⟨rfl, rfl⟩ ⟨Nat.le_of_ble_eq_true rfl, Nat.le_of_ble_eq_true rfl⟩ rfl rfl (Nat.le_of_ble_eq_true rfl) hl.1 dX12_children_14 ⟨rfl, rfl⟩ (fun H locs hM => ?_)
  refine lv_if_eq (tgt := 22) hx hb dX12_children_17 (by decide) (fun c_1 => ?_) (fun c_1 => ?_)
  · have h := br_T c_1 h
    refine lv_iconst (v := (0 : Int32)) hx hb dX12_children_22 (by decide) ?_
    refine lv_istore_n (lv' := [(2, .int (0 : Int32)), (0, .ref (α 0)), (1, .int x1)]) hx hb dX12_children_23 rfl hl (by decide) rfl (fun ls hl => ?_)
    exact gm_children_24 C hr hlk  _ _ _ _ _ _ _ hM (lv_sub hl [1, 2, 0] rfl) h
  · have h := br_F c_1 h
    refine lv_iconst (v := (0 : Int32)) hx hb dX12_children_20 (by decide) ?_
    exact m_ri C hM hr hlk dX12_children_21 h
def fm_children (σ : mS) (x1 : Int32) : Option (Int32 × mS) :=
  (fm_isNode σ x1).bind fun r_1 =>
  if r_1.1 = 0 then
    fm_children_14 r_1.2 x1 (1 : Int32)
  else
    fm_children_14 r_1.2 x1 (0 : Int32)
set_option maxHeartbeats 4000000 in
set_option maxRecDepth 100000 in
theorem cm_children (l : Launch) (D : va_G) (ca : Nat → ClassId) (α : Nat → Nat) (A : Nat → Prop) (σ : mS) (x1 : Int32) (o : Int32 × mS) (h : fm_children σ x1 = some o) : mMetI l yX12_children cX12_children 3 (some .int) rmX12_children D ca α A σ [.int x1] o := by
  refine Met.ofW (cc := cX12_children) (maxL := 3) (ret := some .int) (by decide) rfl ?_
  intro p e s m args below meth c s₁ B hml hv
  obtain ⟨rfl, hP, hK, hD0⟩ := hv
  have C : mC p s m _ c cX12_children 3 D ca := ⟨B.exec, B.bytes, hml, findClass_of_methodNamed B.named, fun w hw => atoms_spec (ws := mWs yX12_children cX12_children 3 (some .int)) B.pre w (List.mem_cons_of_mem _ hw), hK⟩
  have hM : mM D ca α A s.heap σ s.heap [] := ⟨hP, hD0, va_S.rf⟩
  have hr := B.returns
  have hlk := B.notSynchronized
  have hx := C.1
  have hb := C.2.1
  have hl := lv_entry ([.ref (α 0), .int x1]) (n := 3) (Nat.le_of_ble_eq_true rfl)
  rw [lg_entry_eq]
  generalize (lg_sl ([.ref (α 0), .int x1]) ++ List.replicate (3 - (lg_sl ([.ref (α 0), .int x1])).length) Slot.unset).toArray = ls at hl ⊢
  have hl : lv_has ls 3 [(0, .ref (α 0)), (1, .int x1)] := hl
  unfold fm_children at h
  refine lv_aload_n hx hb dX12_children_0 rfl (lv_at hl 0 rfl) ?_
  refine lv_aload_n hx hb dX12_children_1 rfl (lv_at hl 0 rfl) ?_
  refine lv_iload_n hx hb dX12_children_2 rfl (lv_at hl 1 rfl) ?_
  obtain ⟨r_1, hr_1, h⟩ := bd_of h
  refine m_cVi (As := [.int x1]) (rest := [.ref (α 0)]) C hM (cm_isNode l D ca α A σ x1 r_1 hr_1) mwy_isNode ⟨rfl, rfl⟩ ⟨Nat.le_of_ble_eq_true rfl, Nat.le_of_ble_eq_true rfl⟩ rfl rfl (Nat.le_of_ble_eq_true rfl) hl.1 dX12_children_3 ⟨rfl, rfl⟩ (fun H locs hM => ?_)
  refine lv_if_eq (tgt := 13) hx hb dX12_children_6 (by decide) (fun c_1 => ?_) (fun c_1 => ?_)
  · have h := br_T c_1 h
    refine lv_iconst (v := (1 : Int32)) hx hb dX12_children_13 (by decide) ?_
    exact gm_children_14 C hr hlk  _ _ _ _ _ _ hM (lv_sub hl [0, 1] rfl) h
  · have h := br_F c_1 h
    refine lv_iconst (v := (0 : Int32)) hx hb dX12_children_9 (by decide) ?_
    refine lv_goto (tgt := 14) hx hb dX12_children_10 (by decide) ?_
    exact gm_children_14 C hr hlk  _ _ _ _ _ _ hM (lv_sub hl [0, 1] rfl) h
/-! common(II)I -/
abbrev rmX12_common : Room := { frames := 2, cells := 0, slots := 0, locals := 43 }
def fm_common_35 : Nat → mS → Int32 → Int32 → Option (Int32 × mS)
  | 0, _, _, _ => none
  | n + 1, σ, x3, x4 =>
    if x3 = x4 then
      some (x3, σ)
    else
      (fm_depthOf σ x3).bind fun r_1 =>
      (fm_depthOf r_1.2 x4).bind fun r_2 =>
      if r_1.1 < r_2.1 then
        if x4 < 0 ∨ 80 ≤ x4.toNatClampNeg then none else
        (fm_common_35 n) r_2.2 x3 (r_2.2.2.2.1 25 x4.toNatClampNeg)
      else
        if x3 < 0 ∨ 80 ≤ x3.toNatClampNeg then none else
        (fm_common_35 n) r_2.2 (r_2.2.2.2.1 25 x3.toNatClampNeg) x4
set_option maxHeartbeats 4000000 in
set_option maxRecDepth 100000 in
theorem gm_common_35 {p : Program} {l : Launch} {e : Env} {s : State} {m : MethodId} {args : Array Value} {below : List Frame} {meth : Method} {c : Code} {D : va_G} {ca : Nat → ClassId} {α : Nat → Nat} {A : Nat → Prop} {o : Int32 × mS} (C : mC p s m args c cX12_common 5 D ca) (hr : meth.sig.returnType = some .int) (hlk : meth.locks = false) : ∀ (n : Nat) (σ : mS) (x3 : Int32) (x4 : Int32) (H : Heap) (locs : List Loc) (ls : Array Slot), mM D ca α A s.heap σ H locs → lv_has ls 5 [(0, .ref (α 0)), (3, .int x3), (4, .int x4)] → fm_common_35 n σ x3 x4 = some o → mGI p l e rmX12_common s m args below meth c D ca α A o H locs 35 ls [] := by
  have hx := C.1
  have hb := C.2.1
  intro n
  induction n with
  | zero =>
    intro σ x3 x4 H locs ls hM hl h
    cases h
  | succ n ih =>
    intro σ x3 x4 H locs ls hM hl h
    rw [fm_common_35] at h
    refine lv_iload_n hx hb dX12_common_35 rfl (lv_at hl 1 rfl) ?_
    refine lv_iload hx hb dX12_common_36 (lv_at hl 2 rfl) ?_
    refine lv_icmp_eq (tgt := 77) hx hb dX12_common_38 (by decide) (fun c_1 => ?_) (fun c_1 => ?_)
    · have h := br_T c_1 h
      refine lv_iload_n hx hb dX12_common_77 rfl (lv_at hl 1 rfl) ?_
      exact m_ri C hM hr hlk dX12_common_78 h
    · have h := br_F c_1 h
      refine lv_aload_n hx hb dX12_common_41 rfl (lv_at hl 0 rfl) ?_
      refine lv_iload_n hx hb dX12_common_42 rfl (lv_at hl 1 rfl) ?_
      obtain ⟨r_1, hr_1, h⟩ := bd_of h
      refine m_cVi (As := [.int x3]) (rest := []) C hM (cm_depthOf l D ca α A σ x3 r_1 hr_1) mwy_depthOf ⟨rfl, rfl⟩ ⟨Nat.le_of_ble_eq_true rfl, Nat.le_of_ble_eq_true rfl⟩ rfl rfl (Nat.le_of_ble_eq_true rfl) hl.1 dX12_common_43 ⟨rfl, rfl⟩ (fun H locs hM => ?_)
      refine lv_aload_n hx hb dX12_common_46 rfl (lv_at hl 0 rfl) ?_
      refine lv_iload hx hb dX12_common_47 (lv_at hl 2 rfl) ?_
      obtain ⟨r_2, hr_2, h⟩ := bd_of h
      refine m_cVi (As := [.int x4]) (rest := [.int r_1.1]) C hM (cm_depthOf l D ca α A r_1.2 x4 r_2 hr_2) mwy_depthOf ⟨rfl, rfl⟩ ⟨Nat.le_of_ble_eq_true rfl, Nat.le_of_ble_eq_true rfl⟩ rfl rfl (Nat.le_of_ble_eq_true rfl) hl.1 dX12_common_49 ⟨rfl, rfl⟩ (fun H locs hM => ?_)
      refine lv_icmp_lt (tgt := 65) hx hb dX12_common_52 (by decide) (fun c_2 => ?_) (fun c_2 => ?_)
      · have h := br_T c_2 h
        refine lv_aload_n hx hb dX12_common_65 rfl (lv_at hl 0 rfl) ?_
        refine m_geta C hM (k := 25) (by decide) rfl dX12_common_66 ?_
        refine lv_iload hx hb dX12_common_69 (lv_at hl 2 rfl) ?_
        obtain ⟨c_3, h⟩ := ko_of h
        refine m_iald C hM (k := 25) rfl c_3 dX12_common_71 ?_
        refine lv_istore (lv' := [(4, .int (r_2.2.2.2.1 25 x4.toNatClampNeg)), (0, .ref (α 0)), (3, .int x3)]) hx hb dX12_common_72 hl (by decide) rfl (fun ls hl => ?_)
        refine lv_goto (tgt := 35) hx hb dX12_common_74 (by decide) ?_
        exact ih _ _ _ _ _ _ hM (lv_sub hl [1, 2, 0] rfl) h
      · have h := br_F c_2 h
        refine lv_aload_n hx hb dX12_common_55 rfl (lv_at hl 0 rfl) ?_
        refine m_geta C hM (k := 25) (by decide) rfl dX12_common_56 ?_
        refine lv_iload_n hx hb dX12_common_59 rfl (lv_at hl 1 rfl) ?_
        obtain ⟨c_4, h⟩ := ko_of h
        refine m_iald C hM (k := 25) rfl c_4 dX12_common_60 ?_
        refine lv_istore_n (lv' := [(3, .int (r_2.2.2.2.1 25 x3.toNatClampNeg)), (0, .ref (α 0)), (4, .int x4)]) hx hb dX12_common_61 rfl hl (by decide) rfl (fun ls hl => ?_)
        refine lv_goto (tgt := 35) hx hb dX12_common_62 (by decide) ?_
        exact ih _ _ _ _ _ _ hM (lv_sub hl [1, 0, 2] rfl) h
def fm_common_22 (σ : mS) (x1 : Int32) (x2 : Int32) (s0 : Int32) : Option (Int32 × mS) :=
  (fm_isWrong σ s0).bind fun r_1 =>
  if r_1.1 = 0 then
    fm_common_35 3000 r_1.2 x1 x2
  else
    some ((0 : Int32), r_1.2)
set_option maxHeartbeats 4000000 in
set_option maxRecDepth 100000 in
theorem gm_common_22 {p : Program} {l : Launch} {e : Env} {s : State} {m : MethodId} {args : Array Value} {below : List Frame} {meth : Method} {c : Code} {D : va_G} {ca : Nat → ClassId} {α : Nat → Nat} {A : Nat → Prop} {o : Int32 × mS} (C : mC p s m args c cX12_common 5 D ca) (hr : meth.sig.returnType = some .int) (hlk : meth.locks = false) : ∀ (σ : mS) (x1 : Int32) (x2 : Int32) (s0 : Int32) (H : Heap) (locs : List Loc) (ls : Array Slot), mM D ca α A s.heap σ H locs → lv_has ls 5 [(0, .ref (α 0)), (1, .int x1), (2, .int x2)] → fm_common_22 σ x1 x2 s0 = some o → mGI p l e rmX12_common s m args below meth c D ca α A o H locs 22 ls [.int s0, .ref (α 0)] := by
  have hx := C.1
  have hb := C.2.1
  intro σ x1 x2 s0 H locs ls hM hl h
  unfold fm_common_22 at h
  obtain ⟨r_1, hr_1, h⟩ := bd_of h
  refine m_cVi (As := [.int s0]) (rest := []) C hM (cm_isWrong l D ca α A σ s0 r_1 hr_1) mwy_isWrong ⟨rfl, rfl⟩ ⟨Nat.le_of_ble_eq_true rfl, Nat.le_of_ble_eq_true rfl⟩ rfl rfl (Nat.le_of_ble_eq_true rfl) hl.1 dX12_common_22 ⟨rfl, rfl⟩ (fun H locs hM => ?_)
  refine lv_if_eq (tgt := 30) hx hb dX12_common_25 (by decide) (fun c_1 => ?_) (fun c_1 => ?_)
  · have h := br_T c_1 h
    refine lv_iload_n hx hb dX12_common_30 rfl (lv_at hl 1 rfl) ?_
    refine lv_istore_n (lv' := [(3, .int x1), (0, .ref (α 0)), (1, .int x1), (2, .int x2)]) hx hb dX12_common_31 rfl hl (by decide) rfl (fun ls hl => ?_)
    refine lv_iload_n hx hb dX12_common_32 rfl (lv_at hl 3 rfl) ?_
    refine lv_istore (lv' := [(4, .int x2), (3, .int x1), (0, .ref (α 0)), (1, .int x1), (2, .int x2)]) hx hb dX12_common_33 hl (by decide) rfl (fun ls hl => ?_)
    exact gm_common_35 C hr hlk  _ _ _ _ _ _ _ hM (lv_sub hl [2, 1, 0] rfl) h
  · have h := br_F c_1 h
    refine lv_iconst (v := (0 : Int32)) hx hb dX12_common_28 (by decide) ?_
    exact m_ri C hM hr hlk dX12_common_29 h
def fm_common_21 (σ : mS) (x1 : Int32) (x2 : Int32) : Option (Int32 × mS) :=
  fm_common_22 σ x1 x2 (1 : Int32)
set_option maxHeartbeats 4000000 in
set_option maxRecDepth 100000 in
theorem gm_common_21 {p : Program} {l : Launch} {e : Env} {s : State} {m : MethodId} {args : Array Value} {below : List Frame} {meth : Method} {c : Code} {D : va_G} {ca : Nat → ClassId} {α : Nat → Nat} {A : Nat → Prop} {o : Int32 × mS} (C : mC p s m args c cX12_common 5 D ca) (hr : meth.sig.returnType = some .int) (hlk : meth.locks = false) : ∀ (σ : mS) (x1 : Int32) (x2 : Int32) (H : Heap) (locs : List Loc) (ls : Array Slot), mM D ca α A s.heap σ H locs → lv_has ls 5 [(0, .ref (α 0)), (1, .int x1), (2, .int x2)] → fm_common_21 σ x1 x2 = some o → mGI p l e rmX12_common s m args below meth c D ca α A o H locs 21 ls [.ref (α 0)] := by
  have hx := C.1
  have hb := C.2.1
  intro σ x1 x2 H locs ls hM hl h
  unfold fm_common_21 at h
  refine lv_iconst (v := (1 : Int32)) hx hb dX12_common_21 (by decide) ?_
  exact gm_common_22 C hr hlk  _ _ _ _ _ _ _ hM (lv_sub hl [0, 1, 2] rfl) h
def fm_common (σ : mS) (x1 : Int32) (x2 : Int32) : Option (Int32 × mS) :=
  (fm_isNode σ x1).bind fun r_1 =>
  if r_1.1 = 0 then
    fm_common_21 r_1.2 x1 x2
  else
    (fm_isNode r_1.2 x2).bind fun r_2 =>
    if r_2.1 = 0 then
      fm_common_21 r_2.2 x1 x2
    else
      fm_common_22 r_2.2 x1 x2 (0 : Int32)
set_option maxHeartbeats 4000000 in
set_option maxRecDepth 100000 in
theorem cm_common (l : Launch) (D : va_G) (ca : Nat → ClassId) (α : Nat → Nat) (A : Nat → Prop) (σ : mS) (x1 : Int32) (x2 : Int32) (o : Int32 × mS) (h : fm_common σ x1 x2 = some o) : mMetI l yX12_common cX12_common 5 (some .int) rmX12_common D ca α A σ [.int x1, .int x2] o := by
  refine Met.ofW (cc := cX12_common) (maxL := 5) (ret := some .int) (by decide) rfl ?_
  intro p e s m args below meth c s₁ B hml hv
  obtain ⟨rfl, hP, hK, hD0⟩ := hv
  have C : mC p s m _ c cX12_common 5 D ca := ⟨B.exec, B.bytes, hml, findClass_of_methodNamed B.named, fun w hw => atoms_spec (ws := mWs yX12_common cX12_common 5 (some .int)) B.pre w (List.mem_cons_of_mem _ hw), hK⟩
  have hM : mM D ca α A s.heap σ s.heap [] := ⟨hP, hD0, va_S.rf⟩
  have hr := B.returns
  have hlk := B.notSynchronized
  have hx := C.1
  have hb := C.2.1
  have hl := lv_entry ([.ref (α 0), .int x1, .int x2]) (n := 5) (Nat.le_of_ble_eq_true rfl)
  rw [lg_entry_eq]
  generalize (lg_sl ([.ref (α 0), .int x1, .int x2]) ++ List.replicate (5 - (lg_sl ([.ref (α 0), .int x1, .int x2])).length) Slot.unset).toArray = ls at hl ⊢
  have hl : lv_has ls 5 [(0, .ref (α 0)), (1, .int x1), (2, .int x2)] := hl
  unfold fm_common at h
  refine lv_aload_n hx hb dX12_common_0 rfl (lv_at hl 0 rfl) ?_
  refine lv_aload_n hx hb dX12_common_1 rfl (lv_at hl 0 rfl) ?_
  refine lv_iload_n hx hb dX12_common_2 rfl (lv_at hl 1 rfl) ?_
  obtain ⟨r_1, hr_1, h⟩ := bd_of h
  refine m_cVi (As := [.int x1]) (rest := [.ref (α 0)]) C hM (cm_isNode l D ca α A σ x1 r_1 hr_1) mwy_isNode ⟨rfl, rfl⟩ ⟨Nat.le_of_ble_eq_true rfl, Nat.le_of_ble_eq_true rfl⟩ rfl rfl (Nat.le_of_ble_eq_true rfl) hl.1 dX12_common_3 ⟨rfl, rfl⟩ (fun H locs hM => ?_)
  refine lv_if_eq (tgt := 21) hx hb dX12_common_6 (by decide) (fun c_1 => ?_) (fun c_1 => ?_)
  · have h := br_T c_1 h
    exact gm_common_21 C hr hlk  _ _ _ _ _ _ hM (lv_sub hl [0, 1, 2] rfl) h
  · have h := br_F c_1 h
    refine lv_aload_n hx hb dX12_common_9 rfl (lv_at hl 0 rfl) ?_
    refine lv_iload_n hx hb dX12_common_10 rfl (lv_at hl 2 rfl) ?_
    obtain ⟨r_2, hr_2, h⟩ := bd_of h
    refine m_cVi (As := [.int x2]) (rest := [.ref (α 0)]) C hM (cm_isNode l D ca α A r_1.2 x2 r_2 hr_2) mwy_isNode ⟨rfl, rfl⟩ ⟨Nat.le_of_ble_eq_true rfl, Nat.le_of_ble_eq_true rfl⟩ rfl rfl (Nat.le_of_ble_eq_true rfl) hl.1 dX12_common_11 ⟨rfl, rfl⟩ (fun H locs hM => ?_)
    refine lv_if_eq (tgt := 21) hx hb dX12_common_14 (by decide) (fun c_2 => ?_) (fun c_2 => ?_)
    · have h := br_T c_2 h
      exact gm_common_21 C hr hlk  _ _ _ _ _ _ hM (lv_sub hl [0, 1, 2] rfl) h
    · have h := br_F c_2 h
      refine lv_iconst (v := (0 : Int32)) hx hb dX12_common_17 (by decide) ?_
      refine lv_goto (tgt := 22) hx hb dX12_common_18 (by decide) ?_
      exact gm_common_22 C hr hlk  _ _ _ _ _ _ _ hM (lv_sub hl [0, 1, 2] rfl) h
/-! undo()I -/
abbrev rmX12_undo : Room := { frames := 1, cells := 0, slots := 0, locals := 21 }
def fm_undo_24 (σ : mS) (s0 : Int32) : Option (Int32 × mS) :=
  (fm_isWrong σ s0).bind fun r_1 =>
  if r_1.1 = 0 then
    if (r_1.2.1 34) < 0 ∨ 80 ≤ (r_1.2.1 34).toNatClampNeg then none else
    some (((mI r_1.2 34 (r_1.2.2.2.1 25 (r_1.2.1 34).toNatClampNeg)).1 34), (mI r_1.2 34 (r_1.2.2.2.1 25 (r_1.2.1 34).toNatClampNeg)))
  else
    some ((0 : Int32), r_1.2)
set_option maxHeartbeats 4000000 in
set_option maxRecDepth 100000 in
theorem gm_undo_24 {p : Program} {l : Launch} {e : Env} {s : State} {m : MethodId} {args : Array Value} {below : List Frame} {meth : Method} {c : Code} {D : va_G} {ca : Nat → ClassId} {α : Nat → Nat} {A : Nat → Prop} {o : Int32 × mS} (C : mC p s m args c cX12_undo 1 D ca) (hr : meth.sig.returnType = some .int) (hlk : meth.locks = false) : ∀ (σ : mS) (s0 : Int32) (H : Heap) (locs : List Loc) (ls : Array Slot), mM D ca α A s.heap σ H locs → lv_has ls 1 [(0, .ref (α 0))] → fm_undo_24 σ s0 = some o → mGI p l e rmX12_undo s m args below meth c D ca α A o H locs 24 ls [.int s0, .ref (α 0)] := by
  have hx := C.1
  have hb := C.2.1
  intro σ s0 H locs ls hM hl h
  unfold fm_undo_24 at h
  obtain ⟨r_1, hr_1, h⟩ := bd_of h
  refine m_cVi (As := [.int s0]) (rest := []) C hM (cm_isWrong l D ca α A σ s0 r_1 hr_1) mwy_isWrong ⟨rfl, rfl⟩ ⟨Nat.le_of_ble_eq_true rfl, Nat.le_of_ble_eq_true rfl⟩ rfl rfl (Nat.le_of_ble_eq_true rfl) hl.1 dX12_undo_24 ⟨rfl, rfl⟩ (fun H locs hM => ?_)
  refine lv_if_eq (tgt := 32) hx hb dX12_undo_27 (by decide) (fun c_1 => ?_) (fun c_1 => ?_)
  · have h := br_T c_1 h
    refine lv_aload_n hx hb dX12_undo_32 rfl (lv_at hl 0 rfl) ?_
    refine lv_aload_n hx hb dX12_undo_33 rfl (lv_at hl 0 rfl) ?_
    refine m_geta C hM (k := 25) (by decide) rfl dX12_undo_34 ?_
    refine lv_aload_n hx hb dX12_undo_37 rfl (lv_at hl 0 rfl) ?_
    refine m_geti C hM (k := 34) (Or.inl rfl) rfl dX12_undo_38 ?_
    obtain ⟨c_2, h⟩ := ko_of h
    refine m_iald C hM (k := 25) rfl c_2 dX12_undo_41 ?_
    refine m_puti C hM (k := 34) rfl rfl dX12_undo_42 (fun H locs hM => ?_)
    refine lv_aload_n hx hb dX12_undo_45 rfl (lv_at hl 0 rfl) ?_
    refine m_geti C hM (k := 34) (Or.inl rfl) rfl dX12_undo_46 ?_
    exact m_ri C hM hr hlk dX12_undo_49 h
  · have h := br_F c_1 h
    refine lv_iconst (v := (0 : Int32)) hx hb dX12_undo_30 (by decide) ?_
    exact m_ri C hM hr hlk dX12_undo_31 h
def fm_undo (σ : mS) : Option (Int32 × mS) :=
  if (σ.1 20) = 0 then
    fm_undo_24 σ (1 : Int32)
  else
    if (σ.1 34) = 0 then
      fm_undo_24 σ (2 : Int32)
    else
      fm_undo_24 σ (0 : Int32)
set_option maxHeartbeats 4000000 in
set_option maxRecDepth 100000 in
theorem cm_undo (l : Launch) (D : va_G) (ca : Nat → ClassId) (α : Nat → Nat) (A : Nat → Prop) (σ : mS) (o : Int32 × mS) (h : fm_undo σ  = some o) : mMetI l yX12_undo cX12_undo 1 (some .int) rmX12_undo D ca α A σ [] o := by
  refine Met.ofW (cc := cX12_undo) (maxL := 1) (ret := some .int) (by decide) rfl ?_
  intro p e s m args below meth c s₁ B hml hv
  obtain ⟨rfl, hP, hK, hD0⟩ := hv
  have C : mC p s m _ c cX12_undo 1 D ca := ⟨B.exec, B.bytes, hml, findClass_of_methodNamed B.named, fun w hw => atoms_spec (ws := mWs yX12_undo cX12_undo 1 (some .int)) B.pre w (List.mem_cons_of_mem _ hw), hK⟩
  have hM : mM D ca α A s.heap σ s.heap [] := ⟨hP, hD0, va_S.rf⟩
  have hr := B.returns
  have hlk := B.notSynchronized
  have hx := C.1
  have hb := C.2.1
  have hl := lv_entry ([.ref (α 0)]) (n := 1) (Nat.le_of_ble_eq_true rfl)
  rw [lg_entry_eq]
  generalize (lg_sl ([.ref (α 0)]) ++ List.replicate (1 - (lg_sl ([.ref (α 0)])).length) Slot.unset).toArray = ls at hl ⊢
  have hl : lv_has ls 1 [(0, .ref (α 0))] := hl
  unfold fm_undo at h
  refine lv_aload_n hx hb dX12_undo_0 rfl (lv_at hl 0 rfl) ?_
  refine lv_aload_n hx hb dX12_undo_1 rfl (lv_at hl 0 rfl) ?_
  refine m_geti C hM (k := 20) (Or.inr rfl) rfl dX12_undo_2 ?_
  refine lv_if_ne (tgt := 12) hx hb dX12_undo_5 (by decide) (fun c_1 => ?_) (fun c_1 => ?_)
  · have h := br_F c_1 h
    refine lv_aload_n hx hb dX12_undo_12 rfl (lv_at hl 0 rfl) ?_
    refine m_geti C hM (k := 34) (Or.inl rfl) rfl dX12_undo_13 ?_
    refine lv_if_ne (tgt := 23) hx hb dX12_undo_16 (by decide) (fun c_2 => ?_) (fun c_2 => ?_)
    · have h := br_F c_2 h
      refine lv_iconst (v := (0 : Int32)) hx hb dX12_undo_23 (by decide) ?_
      exact gm_undo_24 C hr hlk  _ _ _ _ _ hM (lv_sub hl [0] rfl) h
    · have h := br_T c_2 h
      refine lv_iconst (v := (2 : Int32)) hx hb dX12_undo_19 (by decide) ?_
      refine lv_goto (tgt := 24) hx hb dX12_undo_20 (by decide) ?_
      exact gm_undo_24 C hr hlk  _ _ _ _ _ hM (lv_sub hl [0] rfl) h
  · have h := br_T c_1 h
    refine lv_iconst (v := (1 : Int32)) hx hb dX12_undo_8 (by decide) ?_
    refine lv_goto (tgt := 24) hx hb dX12_undo_9 (by decide) ?_
    exact gm_undo_24 C hr hlk  _ _ _ _ _ hM (lv_sub hl [0] rfl) h
/-! redo(I)I -/
abbrev rmX12_redo : Room := { frames := 2, cells := 0, slots := 0, locals := 41 }
def fm_redo_38 (σ : mS) (x2 : Int32) (s0 : Int32) : Option (Int32 × mS) :=
  (fm_isWrong σ s0).bind fun r_1 =>
  if r_1.1 = 0 then
    some (((mI r_1.2 34 x2).1 34), (mI r_1.2 34 x2))
  else
    some ((0 : Int32), r_1.2)
set_option maxHeartbeats 4000000 in
set_option maxRecDepth 100000 in
theorem gm_redo_38 {p : Program} {l : Launch} {e : Env} {s : State} {m : MethodId} {args : Array Value} {below : List Frame} {meth : Method} {c : Code} {D : va_G} {ca : Nat → ClassId} {α : Nat → Nat} {A : Nat → Prop} {o : Int32 × mS} (C : mC p s m args c cX12_redo 3 D ca) (hr : meth.sig.returnType = some .int) (hlk : meth.locks = false) : ∀ (σ : mS) (x2 : Int32) (s0 : Int32) (H : Heap) (locs : List Loc) (ls : Array Slot), mM D ca α A s.heap σ H locs → lv_has ls 3 [(0, .ref (α 0)), (2, .int x2)] → fm_redo_38 σ x2 s0 = some o → mGI p l e rmX12_redo s m args below meth c D ca α A o H locs 38 ls [.int s0, .ref (α 0)] := by
  have hx := C.1
  have hb := C.2.1
  intro σ x2 s0 H locs ls hM hl h
  unfold fm_redo_38 at h
  obtain ⟨r_1, hr_1, h⟩ := bd_of h
  refine m_cVi (As := [.int s0]) (rest := []) C hM (cm_isWrong l D ca α A σ s0 r_1 hr_1) mwy_isWrong ⟨rfl, rfl⟩ ⟨Nat.le_of_ble_eq_true rfl, Nat.le_of_ble_eq_true rfl⟩ rfl rfl (Nat.le_of_ble_eq_true rfl) hl.1 dX12_redo_38 ⟨rfl, rfl⟩ (fun H locs hM => ?_)
  refine lv_if_eq (tgt := 46) hx hb dX12_redo_41 (by decide) (fun c_1 => ?_) (fun c_1 => ?_)
  · have h := br_T c_1 h
    refine lv_aload_n hx hb dX12_redo_46 rfl (lv_at hl 0 rfl) ?_
    refine lv_iload_n hx hb dX12_redo_47 rfl (lv_at hl 1 rfl) ?_
    refine m_puti C hM (k := 34) rfl rfl dX12_redo_48 (fun H locs hM => ?_)
    refine lv_aload_n hx hb dX12_redo_51 rfl (lv_at hl 0 rfl) ?_
    refine m_geti C hM (k := 34) (Or.inl rfl) rfl dX12_redo_52 ?_
    exact m_ri C hM hr hlk dX12_redo_55 h
  · have h := br_F c_1 h
    refine lv_iconst (v := (0 : Int32)) hx hb dX12_redo_44 (by decide) ?_
    exact m_ri C hM hr hlk dX12_redo_45 h
def fm_redo_26 (σ : mS) (s0 : Int32) : Option (Int32 × mS) :=
  if s0 = (-1 : Int32) then
    fm_redo_38 σ s0 (2 : Int32)
  else
    fm_redo_38 σ s0 (0 : Int32)
set_option maxHeartbeats 4000000 in
set_option maxRecDepth 100000 in
theorem gm_redo_26 {p : Program} {l : Launch} {e : Env} {s : State} {m : MethodId} {args : Array Value} {below : List Frame} {meth : Method} {c : Code} {D : va_G} {ca : Nat → ClassId} {α : Nat → Nat} {A : Nat → Prop} {o : Int32 × mS} (C : mC p s m args c cX12_redo 3 D ca) (hr : meth.sig.returnType = some .int) (hlk : meth.locks = false) : ∀ (σ : mS) (s0 : Int32) (H : Heap) (locs : List Loc) (ls : Array Slot), mM D ca α A s.heap σ H locs → lv_has ls 3 [(0, .ref (α 0))] → fm_redo_26 σ s0 = some o → mGI p l e rmX12_redo s m args below meth c D ca α A o H locs 26 ls [.int s0] := by
  have hx := C.1
  have hb := C.2.1
  intro σ s0 H locs ls hM hl h
  unfold fm_redo_26 at h
  refine lv_istore_n (lv' := [(2, .int s0), (0, .ref (α 0))]) hx hb dX12_redo_26 rfl hl (by decide) rfl (fun ls hl => ?_)
  refine lv_aload_n hx hb dX12_redo_27 rfl (lv_at hl 1 rfl) ?_
  refine lv_iload_n hx hb dX12_redo_28 rfl (lv_at hl 0 rfl) ?_
  refine lv_iconst (v := (-1 : Int32)) hx hb dX12_redo_29 (by decide) ?_
  refine lv_icmp_ne (tgt := 37) hx hb dX12_redo_30 (by decide) (fun c_1 => ?_) (fun c_1 => ?_)
  · have h := br_F c_1 h
    refine lv_iconst (v := (0 : Int32)) hx hb dX12_redo_37 (by decide) ?_
    exact gm_redo_38 C hr hlk  _ _ _ _ _ _ hM (lv_sub hl [1, 0] rfl) h
  · have h := br_T c_1 h
    refine lv_iconst (v := (2 : Int32)) hx hb dX12_redo_33 (by decide) ?_
    refine lv_goto (tgt := 38) hx hb dX12_redo_34 (by decide) ?_
    exact gm_redo_38 C hr hlk  _ _ _ _ _ _ hM (lv_sub hl [1, 0] rfl) h
def fm_redo (σ : mS) (x1 : Int32) : Option (Int32 × mS) :=
  (fm_isNotBegun σ).bind fun r_1 =>
  if r_1.1 = 0 then
    if 0 ≤ x1 then
      (fm_child r_1.2 (r_1.2.1 34) x1).bind fun r_2 =>
      fm_redo_26 r_2.2 r_2.1
    else
      fm_redo_26 r_1.2 (-1 : Int32)
  else
    some ((0 : Int32), r_1.2)
set_option maxHeartbeats 4000000 in
set_option maxRecDepth 100000 in
theorem cm_redo (l : Launch) (D : va_G) (ca : Nat → ClassId) (α : Nat → Nat) (A : Nat → Prop) (σ : mS) (x1 : Int32) (o : Int32 × mS) (h : fm_redo σ x1 = some o) : mMetI l yX12_redo cX12_redo 3 (some .int) rmX12_redo D ca α A σ [.int x1] o := by
  refine Met.ofW (cc := cX12_redo) (maxL := 3) (ret := some .int) (by decide) rfl ?_
  intro p e s m args below meth c s₁ B hml hv
  obtain ⟨rfl, hP, hK, hD0⟩ := hv
  have C : mC p s m _ c cX12_redo 3 D ca := ⟨B.exec, B.bytes, hml, findClass_of_methodNamed B.named, fun w hw => atoms_spec (ws := mWs yX12_redo cX12_redo 3 (some .int)) B.pre w (List.mem_cons_of_mem _ hw), hK⟩
  have hM : mM D ca α A s.heap σ s.heap [] := ⟨hP, hD0, va_S.rf⟩
  have hr := B.returns
  have hlk := B.notSynchronized
  have hx := C.1
  have hb := C.2.1
  have hl := lv_entry ([.ref (α 0), .int x1]) (n := 3) (Nat.le_of_ble_eq_true rfl)
  rw [lg_entry_eq]
  generalize (lg_sl ([.ref (α 0), .int x1]) ++ List.replicate (3 - (lg_sl ([.ref (α 0), .int x1])).length) Slot.unset).toArray = ls at hl ⊢
  have hl : lv_has ls 3 [(0, .ref (α 0)), (1, .int x1)] := hl
  unfold fm_redo at h
  refine lv_aload_n hx hb dX12_redo_0 rfl (lv_at hl 0 rfl) ?_
  obtain ⟨r_1, hr_1, h⟩ := bd_of h
  refine m_cVi (As := []) (rest := []) C hM (cm_isNotBegun l D ca α A σ  r_1 hr_1) mwy_isNotBegun ⟨rfl, rfl⟩ ⟨Nat.le_of_ble_eq_true rfl, Nat.le_of_ble_eq_true rfl⟩ rfl rfl (Nat.le_of_ble_eq_true rfl) hl.1 dX12_redo_1 ⟨rfl, rfl⟩ (fun H locs hM => ?_)
  refine lv_if_eq (tgt := 9) hx hb dX12_redo_4 (by decide) (fun c_1 => ?_) (fun c_1 => ?_)
  · have h := br_T c_1 h
    refine lv_iload_n hx hb dX12_redo_9 rfl (lv_at hl 1 rfl) ?_
    refine lv_if_ge (tgt := 17) hx hb dX12_redo_10 (by decide) (fun c_2 => ?_) (fun c_2 => ?_)
    · have h := br_T c_2 h
      refine lv_aload_n hx hb dX12_redo_17 rfl (lv_at hl 0 rfl) ?_
      refine lv_aload_n hx hb dX12_redo_18 rfl (lv_at hl 0 rfl) ?_
      refine m_geti C hM (k := 34) (Or.inl rfl) rfl dX12_redo_19 ?_
      refine lv_iload_n hx hb dX12_redo_22 rfl (lv_at hl 1 rfl) ?_
      obtain ⟨r_2, hr_2, h⟩ := bd_of h
      refine m_cVi (As := [.int (r_1.2.1 34), .int x1]) (rest := []) C hM (cm_child l D ca α A r_1.2 (r_1.2.1 34) x1 r_2 hr_2) mwy_child ⟨rfl, rfl⟩ ⟨Nat.le_of_ble_eq_true rfl, Nat.le_of_ble_eq_true rfl⟩ rfl rfl (Nat.le_of_ble_eq_true rfl) hl.1 dX12_redo_23 ⟨rfl, rfl⟩ (fun H locs hM => ?_)
      exact gm_redo_26 C hr hlk  _ _ _ _ _ hM (lv_sub hl [0] rfl) h
    · have h := br_F c_2 h
      refine lv_iconst (v := (-1 : Int32)) hx hb dX12_redo_13 (by decide) ?_
      refine lv_goto (tgt := 26) hx hb dX12_redo_14 (by decide) ?_
      exact gm_redo_26 C hr hlk  _ _ _ _ _ hM (lv_sub hl [0] rfl) h
  · have h := br_F c_1 h
    refine lv_iconst (v := (0 : Int32)) hx hb dX12_redo_7 (by decide) ?_
    exact m_ri C hM hr hlk dX12_redo_8 h
/-! named()I -/
abbrev rmX12_named : Room := { frames := 0, cells := 0, slots := 0, locals := 0 }
def fm_named_100 (k_4 : mS → Int32 → Int32 → Option (Int32 × mS)) (k_49 : mS → Int32 → Int32 → Int32 → Int32 → Option (Int32 × mS)) (σ : mS) (x1 : Int32) (x2 : Int32) (x4 : Int32) (s0 : Int32) : Option (Int32 × mS) :=
  k_49 σ x1 x2 s0 (x4 + (1 : Int32))
set_option maxHeartbeats 4000000 in
set_option maxRecDepth 100000 in
theorem gm_named_100 {p : Program} {l : Launch} {e : Env} {s : State} {m : MethodId} {args : Array Value} {below : List Frame} {meth : Method} {c : Code} {D : va_G} {ca : Nat → ClassId} {α : Nat → Nat} {A : Nat → Prop} {o : Int32 × mS} {k_4 : mS → Int32 → Int32 → Option (Int32 × mS)} {k_49 : mS → Int32 → Int32 → Int32 → Int32 → Option (Int32 × mS)} (C : mC p s m args c cX12_named 5 D ca) (hr : meth.sig.returnType = some .int) (hlk : meth.locks = false) (hk_4 : ∀ (σ : mS) (x1 : Int32) (x2 : Int32) (H : Heap) (locs : List Loc) (ls : Array Slot), mM D ca α A s.heap σ H locs → lv_has ls 5 [(0, .ref (α 0)), (1, .int x1), (2, .int x2)] → k_4 σ x1 x2 = some o → mGI p l e rmX12_named s m args below meth c D ca α A o H locs 4 ls []) (hk_49 : ∀ (σ : mS) (x1 : Int32) (x2 : Int32) (x3 : Int32) (x4 : Int32) (H : Heap) (locs : List Loc) (ls : Array Slot), mM D ca α A s.heap σ H locs → lv_has ls 5 [(0, .ref (α 0)), (1, .int x1), (2, .int x2), (3, .int x3), (4, .int x4)] → k_49 σ x1 x2 x3 x4 = some o → mGI p l e rmX12_named s m args below meth c D ca α A o H locs 49 ls []) : ∀ (σ : mS) (x1 : Int32) (x2 : Int32) (x4 : Int32) (s0 : Int32) (H : Heap) (locs : List Loc) (ls : Array Slot), mM D ca α A s.heap σ H locs → lv_has ls 5 [(0, .ref (α 0)), (1, .int x1), (2, .int x2), (4, .int x4)] → fm_named_100 k_4 k_49 σ x1 x2 x4 s0 = some o → mGI p l e rmX12_named s m args below meth c D ca α A o H locs 100 ls [.int s0] := by
  have hx := C.1
  have hb := C.2.1
  intro σ x1 x2 x4 s0 H locs ls hM hl h
  unfold fm_named_100 at h
  refine lv_istore_n (lv' := [(3, .int s0), (0, .ref (α 0)), (1, .int x1), (2, .int x2), (4, .int x4)]) hx hb dX12_named_100 rfl hl (by decide) rfl (fun ls hl => ?_)
  refine lv_iinc (v := (x4 + (1 : Int32))) (lv' := [(4, .int (x4 + (1 : Int32))), (3, .int s0), (0, .ref (α 0)), (1, .int x1), (2, .int x2)]) hx hb dX12_named_101 hl (k := 4) rfl rfl (by decide) rfl (fun ls hl => ?_)
  refine lv_goto (tgt := 49) hx hb dX12_named_104 (by decide) ?_
  exact hk_49 _ _ _ _ _ _ _ _ hM (lv_sub hl [2, 3, 4, 1, 0] rfl) h
def fm_named_92 (k_4 : mS → Int32 → Int32 → Option (Int32 × mS)) (k_49 : mS → Int32 → Int32 → Int32 → Int32 → Option (Int32 × mS)) (σ : mS) (x1 : Int32) (x2 : Int32) (x4 : Int32) (s0 : Int32) (s1 : Int32) : Option (Int32 × mS) :=
  if s1 = s0 then
    fm_named_100 k_4 k_49 σ x1 x2 x4 (1 : Int32)
  else
    fm_named_100 k_4 k_49 σ x1 x2 x4 (0 : Int32)
set_option maxHeartbeats 4000000 in
set_option maxRecDepth 100000 in
theorem gm_named_92 {p : Program} {l : Launch} {e : Env} {s : State} {m : MethodId} {args : Array Value} {below : List Frame} {meth : Method} {c : Code} {D : va_G} {ca : Nat → ClassId} {α : Nat → Nat} {A : Nat → Prop} {o : Int32 × mS} {k_4 : mS → Int32 → Int32 → Option (Int32 × mS)} {k_49 : mS → Int32 → Int32 → Int32 → Int32 → Option (Int32 × mS)} (C : mC p s m args c cX12_named 5 D ca) (hr : meth.sig.returnType = some .int) (hlk : meth.locks = false) (hk_4 : ∀ (σ : mS) (x1 : Int32) (x2 : Int32) (H : Heap) (locs : List Loc) (ls : Array Slot), mM D ca α A s.heap σ H locs → lv_has ls 5 [(0, .ref (α 0)), (1, .int x1), (2, .int x2)] → k_4 σ x1 x2 = some o → mGI p l e rmX12_named s m args below meth c D ca α A o H locs 4 ls []) (hk_49 : ∀ (σ : mS) (x1 : Int32) (x2 : Int32) (x3 : Int32) (x4 : Int32) (H : Heap) (locs : List Loc) (ls : Array Slot), mM D ca α A s.heap σ H locs → lv_has ls 5 [(0, .ref (α 0)), (1, .int x1), (2, .int x2), (3, .int x3), (4, .int x4)] → k_49 σ x1 x2 x3 x4 = some o → mGI p l e rmX12_named s m args below meth c D ca α A o H locs 49 ls []) : ∀ (σ : mS) (x1 : Int32) (x2 : Int32) (x4 : Int32) (s0 : Int32) (s1 : Int32) (H : Heap) (locs : List Loc) (ls : Array Slot), mM D ca α A s.heap σ H locs → lv_has ls 5 [(0, .ref (α 0)), (1, .int x1), (2, .int x2), (4, .int x4)] → fm_named_92 k_4 k_49 σ x1 x2 x4 s0 s1 = some o → mGI p l e rmX12_named s m args below meth c D ca α A o H locs 92 ls [.int s0, .int s1] := by
  have hx := C.1
  have hb := C.2.1
  intro σ x1 x2 x4 s0 s1 H locs ls hM hl h
  unfold fm_named_92 at h
  refine lv_icmp_ne (tgt := 99) hx hb dX12_named_92 (by decide) (fun c_1 => ?_) (fun c_1 => ?_)
  · have h := br_F c_1 h
    refine lv_iconst (v := (0 : Int32)) hx hb dX12_named_99 (by decide) ?_
    exact gm_named_100 C hr hlk hk_4 hk_49 _ _ _ _ _ _ _ _ hM (lv_sub hl [0, 1, 2, 3] rfl) h
  · have h := br_T c_1 h
    refine lv_iconst (v := (1 : Int32)) hx hb dX12_named_95 (by decide) ?_
    refine lv_goto (tgt := 100) hx hb dX12_named_96 (by decide) ?_
    exact gm_named_100 C hr hlk hk_4 hk_49 _ _ _ _ _ _ _ _ hM (lv_sub hl [0, 1, 2, 3] rfl) h
def fm_named_116 (k_4 : mS → Int32 → Int32 → Option (Int32 × mS)) (σ : mS) (x2 : Int32) (s0 : Int32) : Option (Int32 × mS) :=
  k_4 σ s0 (x2 + (1 : Int32))
set_option maxHeartbeats 4000000 in
set_option maxRecDepth 100000 in
theorem gm_named_116 {p : Program} {l : Launch} {e : Env} {s : State} {m : MethodId} {args : Array Value} {below : List Frame} {meth : Method} {c : Code} {D : va_G} {ca : Nat → ClassId} {α : Nat → Nat} {A : Nat → Prop} {o : Int32 × mS} {k_4 : mS → Int32 → Int32 → Option (Int32 × mS)} (C : mC p s m args c cX12_named 5 D ca) (hr : meth.sig.returnType = some .int) (hlk : meth.locks = false) (hk_4 : ∀ (σ : mS) (x1 : Int32) (x2 : Int32) (H : Heap) (locs : List Loc) (ls : Array Slot), mM D ca α A s.heap σ H locs → lv_has ls 5 [(0, .ref (α 0)), (1, .int x1), (2, .int x2)] → k_4 σ x1 x2 = some o → mGI p l e rmX12_named s m args below meth c D ca α A o H locs 4 ls []) : ∀ (σ : mS) (x2 : Int32) (s0 : Int32) (H : Heap) (locs : List Loc) (ls : Array Slot), mM D ca α A s.heap σ H locs → lv_has ls 5 [(0, .ref (α 0)), (2, .int x2)] → fm_named_116 k_4 σ x2 s0 = some o → mGI p l e rmX12_named s m args below meth c D ca α A o H locs 116 ls [.int s0] := by
  have hx := C.1
  have hb := C.2.1
  intro σ x2 s0 H locs ls hM hl h
  unfold fm_named_116 at h
  refine lv_istore_n (lv' := [(1, .int s0), (0, .ref (α 0)), (2, .int x2)]) hx hb dX12_named_116 rfl hl (by decide) rfl (fun ls hl => ?_)
  refine lv_iinc (v := (x2 + (1 : Int32))) (lv' := [(2, .int (x2 + (1 : Int32))), (1, .int s0), (0, .ref (α 0))]) hx hb dX12_named_117 hl (k := 2) rfl rfl (by decide) rfl (fun ls hl => ?_)
  refine lv_goto (tgt := 4) hx hb dX12_named_120 (by decide) ?_
  exact hk_4 _ _ _ _ _ _ hM (lv_sub hl [2, 1, 0] rfl) h
def fm_named_107 (k_4 : mS → Int32 → Int32 → Option (Int32 × mS)) (σ : mS) (x1 : Int32) (x2 : Int32) (x3 : Int32) : Option (Int32 × mS) :=
  if x3 = 0 then
    fm_named_116 k_4 σ x2 x1
  else
    fm_named_116 k_4 σ x2 x2
set_option maxHeartbeats 4000000 in
set_option maxRecDepth 100000 in
theorem gm_named_107 {p : Program} {l : Launch} {e : Env} {s : State} {m : MethodId} {args : Array Value} {below : List Frame} {meth : Method} {c : Code} {D : va_G} {ca : Nat → ClassId} {α : Nat → Nat} {A : Nat → Prop} {o : Int32 × mS} {k_4 : mS → Int32 → Int32 → Option (Int32 × mS)} (C : mC p s m args c cX12_named 5 D ca) (hr : meth.sig.returnType = some .int) (hlk : meth.locks = false) (hk_4 : ∀ (σ : mS) (x1 : Int32) (x2 : Int32) (H : Heap) (locs : List Loc) (ls : Array Slot), mM D ca α A s.heap σ H locs → lv_has ls 5 [(0, .ref (α 0)), (1, .int x1), (2, .int x2)] → k_4 σ x1 x2 = some o → mGI p l e rmX12_named s m args below meth c D ca α A o H locs 4 ls []) : ∀ (σ : mS) (x1 : Int32) (x2 : Int32) (x3 : Int32) (H : Heap) (locs : List Loc) (ls : Array Slot), mM D ca α A s.heap σ H locs → lv_has ls 5 [(0, .ref (α 0)), (1, .int x1), (2, .int x2), (3, .int x3)] → fm_named_107 k_4 σ x1 x2 x3 = some o → mGI p l e rmX12_named s m args below meth c D ca α A o H locs 107 ls [] := by
  have hx := C.1
  have hb := C.2.1
  intro σ x1 x2 x3 H locs ls hM hl h
  unfold fm_named_107 at h
  refine lv_iload_n hx hb dX12_named_107 rfl (lv_at hl 3 rfl) ?_
  refine lv_if_eq (tgt := 115) hx hb dX12_named_108 (by decide) (fun c_1 => ?_) (fun c_1 => ?_)
  · have h := br_T c_1 h
    refine lv_iload_n hx hb dX12_named_115 rfl (lv_at hl 1 rfl) ?_
    exact gm_named_116 C hr hlk hk_4 _ _ _ _ _ _ hM (lv_sub hl [0, 2] rfl) h
  · have h := br_F c_1 h
    refine lv_iload_n hx hb dX12_named_111 rfl (lv_at hl 2 rfl) ?_
    refine lv_goto (tgt := 116) hx hb dX12_named_112 (by decide) ?_
    exact gm_named_116 C hr hlk hk_4 _ _ _ _ _ _ hM (lv_sub hl [0, 2] rfl) h
def fm_named_49 (k_4 : mS → Int32 → Int32 → Option (Int32 × mS)) : Nat → mS → Int32 → Int32 → Int32 → Int32 → Option (Int32 × mS)
  | 0, _, _, _, _, _ => none
  | n + 1, σ, x1, x2, x3, x4 =>
    if (8 : Int32) ≤ x4 then
      fm_named_107 k_4 σ x1 x2 x3
    else
      if x3 = 0 then
        fm_named_107 k_4 σ x1 x2 x3
      else
        if (((8 : Int32) * x2) + x4) < 0 ∨ 640 ≤ (((8 : Int32) * x2) + x4).toNatClampNeg then none else
        if (σ.1 2) ≤ x4 then
          fm_named_92 k_4 (fm_named_49 k_4 n) σ x1 x2 x4 (0 : Int32) (σ.2.2.1 31 (((8 : Int32) * x2) + x4).toNatClampNeg)
        else
          if x4 < 0 ∨ 30 ≤ x4.toNatClampNeg then none else
          fm_named_92 k_4 (fm_named_49 k_4 n) σ x1 x2 x4 (σ.2.2.1 1 x4.toNatClampNeg) (σ.2.2.1 31 (((8 : Int32) * x2) + x4).toNatClampNeg)
set_option maxHeartbeats 4000000 in
set_option maxRecDepth 100000 in
theorem gm_named_49 {p : Program} {l : Launch} {e : Env} {s : State} {m : MethodId} {args : Array Value} {below : List Frame} {meth : Method} {c : Code} {D : va_G} {ca : Nat → ClassId} {α : Nat → Nat} {A : Nat → Prop} {o : Int32 × mS} {k_4 : mS → Int32 → Int32 → Option (Int32 × mS)} (C : mC p s m args c cX12_named 5 D ca) (hr : meth.sig.returnType = some .int) (hlk : meth.locks = false) (hk_4 : ∀ (σ : mS) (x1 : Int32) (x2 : Int32) (H : Heap) (locs : List Loc) (ls : Array Slot), mM D ca α A s.heap σ H locs → lv_has ls 5 [(0, .ref (α 0)), (1, .int x1), (2, .int x2)] → k_4 σ x1 x2 = some o → mGI p l e rmX12_named s m args below meth c D ca α A o H locs 4 ls []) : ∀ (n : Nat) (σ : mS) (x1 : Int32) (x2 : Int32) (x3 : Int32) (x4 : Int32) (H : Heap) (locs : List Loc) (ls : Array Slot), mM D ca α A s.heap σ H locs → lv_has ls 5 [(0, .ref (α 0)), (1, .int x1), (2, .int x2), (3, .int x3), (4, .int x4)] → fm_named_49 k_4 n σ x1 x2 x3 x4 = some o → mGI p l e rmX12_named s m args below meth c D ca α A o H locs 49 ls [] := by
  have hx := C.1
  have hb := C.2.1
  intro n
  induction n with
  | zero =>
    intro σ x1 x2 x3 x4 H locs ls hM hl h
    cases h
  | succ n ih =>
    intro σ x1 x2 x3 x4 H locs ls hM hl h
    rw [fm_named_49] at h
    refine lv_iload hx hb dX12_named_49 (lv_at hl 4 rfl) ?_
    refine lv_bipush (v := (8 : Int32)) hx hb dX12_named_51 (by decide) ?_
    refine lv_icmp_ge (tgt := 107) hx hb dX12_named_53 (by decide) (fun c_1 => ?_) (fun c_1 => ?_)
    · have h := br_T c_1 h
      exact gm_named_107 C hr hlk hk_4 _ _ _ _ _ _ _ hM (lv_sub hl [0, 1, 2, 3] rfl) h
    · have h := br_F c_1 h
      refine lv_iload_n hx hb dX12_named_56 rfl (lv_at hl 3 rfl) ?_
      refine lv_if_eq (tgt := 107) hx hb dX12_named_57 (by decide) (fun c_2 => ?_) (fun c_2 => ?_)
      · have h := br_T c_2 h
        exact gm_named_107 C hr hlk hk_4 _ _ _ _ _ _ _ hM (lv_sub hl [0, 1, 2, 3] rfl) h
      · have h := br_F c_2 h
        refine lv_aload_n hx hb dX12_named_60 rfl (lv_at hl 0 rfl) ?_
        refine m_geta C hM (k := 31) (by decide) rfl dX12_named_61 ?_
        refine lv_bipush (v := (8 : Int32)) hx hb dX12_named_64 (by decide) ?_
        refine lv_iload_n hx hb dX12_named_66 rfl (lv_at hl 2 rfl) ?_
        refine lv_imul hx hb dX12_named_67 ?_
        refine lv_iload hx hb dX12_named_68 (lv_at hl 4 rfl) ?_
        refine lv_iadd hx hb dX12_named_70 ?_
        obtain ⟨c_3, h⟩ := ko_of h
        refine m_iald C hM (k := 31) rfl c_3 dX12_named_71 ?_
        refine lv_iload hx hb dX12_named_72 (lv_at hl 4 rfl) ?_
        refine lv_aload_n hx hb dX12_named_74 rfl (lv_at hl 0 rfl) ?_
        refine m_geti C hM (k := 2) (Or.inl rfl) rfl dX12_named_75 ?_
        refine lv_icmp_ge (tgt := 91) hx hb dX12_named_78 (by decide) (fun c_4 => ?_) (fun c_4 => ?_)
        · have h := br_T c_4 h
          refine lv_iconst (v := (0 : Int32)) hx hb dX12_named_91 (by decide) ?_
          exact gm_named_92 C hr hlk hk_4 ih _ _ _ _ _ _ _ _ _ hM (lv_sub hl [0, 1, 2, 4] rfl) h
        · have h := br_F c_4 h
          refine lv_aload_n hx hb dX12_named_81 rfl (lv_at hl 0 rfl) ?_
          refine m_geta C hM (k := 1) (by decide) rfl dX12_named_82 ?_
          refine lv_iload hx hb dX12_named_85 (lv_at hl 4 rfl) ?_
          obtain ⟨c_5, h⟩ := ko_of h
          refine m_iald C hM (k := 1) rfl c_5 dX12_named_87 ?_
          refine lv_goto (tgt := 92) hx hb dX12_named_88 (by decide) ?_
          exact gm_named_92 C hr hlk hk_4 ih _ _ _ _ _ _ _ _ _ hM (lv_sub hl [0, 1, 2, 4] rfl) h
def fm_named_45 (k_4 : mS → Int32 → Int32 → Option (Int32 × mS)) (σ : mS) (x1 : Int32) (x2 : Int32) (s0 : Int32) : Option (Int32 × mS) :=
  fm_named_49 k_4 3000 σ x1 x2 s0 (0 : Int32)
set_option maxHeartbeats 4000000 in
set_option maxRecDepth 100000 in
theorem gm_named_45 {p : Program} {l : Launch} {e : Env} {s : State} {m : MethodId} {args : Array Value} {below : List Frame} {meth : Method} {c : Code} {D : va_G} {ca : Nat → ClassId} {α : Nat → Nat} {A : Nat → Prop} {o : Int32 × mS} {k_4 : mS → Int32 → Int32 → Option (Int32 × mS)} (C : mC p s m args c cX12_named 5 D ca) (hr : meth.sig.returnType = some .int) (hlk : meth.locks = false) (hk_4 : ∀ (σ : mS) (x1 : Int32) (x2 : Int32) (H : Heap) (locs : List Loc) (ls : Array Slot), mM D ca α A s.heap σ H locs → lv_has ls 5 [(0, .ref (α 0)), (1, .int x1), (2, .int x2)] → k_4 σ x1 x2 = some o → mGI p l e rmX12_named s m args below meth c D ca α A o H locs 4 ls []) : ∀ (σ : mS) (x1 : Int32) (x2 : Int32) (s0 : Int32) (H : Heap) (locs : List Loc) (ls : Array Slot), mM D ca α A s.heap σ H locs → lv_has ls 5 [(0, .ref (α 0)), (1, .int x1), (2, .int x2)] → fm_named_45 k_4 σ x1 x2 s0 = some o → mGI p l e rmX12_named s m args below meth c D ca α A o H locs 45 ls [.int s0] := by
  have hx := C.1
  have hb := C.2.1
  intro σ x1 x2 s0 H locs ls hM hl h
  unfold fm_named_45 at h
  refine lv_istore_n (lv' := [(3, .int s0), (0, .ref (α 0)), (1, .int x1), (2, .int x2)]) hx hb dX12_named_45 rfl hl (by decide) rfl (fun ls hl => ?_)
  refine lv_iconst (v := (0 : Int32)) hx hb dX12_named_46 (by decide) ?_
  refine lv_istore (lv' := [(4, .int (0 : Int32)), (3, .int s0), (0, .ref (α 0)), (1, .int x1), (2, .int x2)]) hx hb dX12_named_47 hl (by decide) rfl (fun ls hl => ?_)
  exact gm_named_49 C hr hlk hk_4 _ _ _ _ _ _ _ _ _ hM (lv_sub hl [2, 3, 4, 1, 0] rfl) h
def fm_named_44 (k_4 : mS → Int32 → Int32 → Option (Int32 × mS)) (σ : mS) (x1 : Int32) (x2 : Int32) : Option (Int32 × mS) :=
  fm_named_45 k_4 σ x1 x2 (0 : Int32)
set_option maxHeartbeats 4000000 in
set_option maxRecDepth 100000 in
theorem gm_named_44 {p : Program} {l : Launch} {e : Env} {s : State} {m : MethodId} {args : Array Value} {below : List Frame} {meth : Method} {c : Code} {D : va_G} {ca : Nat → ClassId} {α : Nat → Nat} {A : Nat → Prop} {o : Int32 × mS} {k_4 : mS → Int32 → Int32 → Option (Int32 × mS)} (C : mC p s m args c cX12_named 5 D ca) (hr : meth.sig.returnType = some .int) (hlk : meth.locks = false) (hk_4 : ∀ (σ : mS) (x1 : Int32) (x2 : Int32) (H : Heap) (locs : List Loc) (ls : Array Slot), mM D ca α A s.heap σ H locs → lv_has ls 5 [(0, .ref (α 0)), (1, .int x1), (2, .int x2)] → k_4 σ x1 x2 = some o → mGI p l e rmX12_named s m args below meth c D ca α A o H locs 4 ls []) : ∀ (σ : mS) (x1 : Int32) (x2 : Int32) (H : Heap) (locs : List Loc) (ls : Array Slot), mM D ca α A s.heap σ H locs → lv_has ls 5 [(0, .ref (α 0)), (1, .int x1), (2, .int x2)] → fm_named_44 k_4 σ x1 x2 = some o → mGI p l e rmX12_named s m args below meth c D ca α A o H locs 44 ls [] := by
  have hx := C.1
  have hb := C.2.1
  intro σ x1 x2 H locs ls hM hl h
  unfold fm_named_44 at h
  refine lv_iconst (v := (0 : Int32)) hx hb dX12_named_44 (by decide) ?_
  exact gm_named_45 C hr hlk hk_4 _ _ _ _ _ _ _ hM (lv_sub hl [0, 1, 2] rfl) h
def fm_named_4 : Nat → mS → Int32 → Int32 → Option (Int32 × mS)
  | 0, _, _, _ => none
  | n + 1, σ, x1, x2 =>
    if (σ.1 33) ≤ x2 then
      some (x1, σ)
    else
      if (σ.1 2) ≤ 0 then
        fm_named_44 (fm_named_4 n) σ x1 x2
      else
        if (8 : Int32) < (σ.1 2) then
          fm_named_44 (fm_named_4 n) σ x1 x2
        else
          if ((8 : Int32) * x2) < 0 ∨ 640 ≤ ((8 : Int32) * x2).toNatClampNeg then none else
          if (σ.2.2.1 31 ((8 : Int32) * x2).toNatClampNeg) = 0 then
            fm_named_44 (fm_named_4 n) σ x1 x2
          else
            fm_named_45 (fm_named_4 n) σ x1 x2 (1 : Int32)
set_option maxHeartbeats 4000000 in
set_option maxRecDepth 100000 in
theorem gm_named_4 {p : Program} {l : Launch} {e : Env} {s : State} {m : MethodId} {args : Array Value} {below : List Frame} {meth : Method} {c : Code} {D : va_G} {ca : Nat → ClassId} {α : Nat → Nat} {A : Nat → Prop} {o : Int32 × mS} (C : mC p s m args c cX12_named 5 D ca) (hr : meth.sig.returnType = some .int) (hlk : meth.locks = false) : ∀ (n : Nat) (σ : mS) (x1 : Int32) (x2 : Int32) (H : Heap) (locs : List Loc) (ls : Array Slot), mM D ca α A s.heap σ H locs → lv_has ls 5 [(0, .ref (α 0)), (1, .int x1), (2, .int x2)] → fm_named_4 n σ x1 x2 = some o → mGI p l e rmX12_named s m args below meth c D ca α A o H locs 4 ls [] := by
  have hx := C.1
  have hb := C.2.1
  intro n
  induction n with
  | zero =>
    intro σ x1 x2 H locs ls hM hl h
    cases h
  | succ n ih =>
    intro σ x1 x2 H locs ls hM hl h
    rw [fm_named_4] at h
    refine lv_iload_n hx hb dX12_named_4 rfl (lv_at hl 2 rfl) ?_
    refine lv_aload_n hx hb dX12_named_5 rfl (lv_at hl 0 rfl) ?_
    refine m_geti C hM (k := 33) (Or.inl rfl) rfl dX12_named_6 ?_
    refine lv_icmp_ge (tgt := 123) hx hb dX12_named_9 (by decide) (fun c_1 => ?_) (fun c_1 => ?_)
    · have h := br_T c_1 h
      refine lv_iload_n hx hb dX12_named_123 rfl (lv_at hl 1 rfl) ?_
      exact m_ri C hM hr hlk dX12_named_124 h
    · have h := br_F c_1 h
      refine lv_aload_n hx hb dX12_named_12 rfl (lv_at hl 0 rfl) ?_
      refine m_geti C hM (k := 2) (Or.inl rfl) rfl dX12_named_13 ?_
      refine lv_if_le (tgt := 44) hx hb dX12_named_16 (by decide) (fun c_2 => ?_) (fun c_2 => ?_)
      · have h := br_T c_2 h
        exact gm_named_44 C hr hlk ih _ _ _ _ _ _ hM (lv_sub hl [0, 1, 2] rfl) h
      · have h := br_F c_2 h
        refine lv_aload_n hx hb dX12_named_19 rfl (lv_at hl 0 rfl) ?_
        refine m_geti C hM (k := 2) (Or.inl rfl) rfl dX12_named_20 ?_
        refine lv_bipush (v := (8 : Int32)) hx hb dX12_named_23 (by decide) ?_
        refine lv_icmp_gt (tgt := 44) hx hb dX12_named_25 (by decide) (fun c_3 => ?_) (fun c_3 => ?_)
        · have h := br_T c_3 h
          exact gm_named_44 C hr hlk ih _ _ _ _ _ _ hM (lv_sub hl [0, 1, 2] rfl) h
        · have h := br_F c_3 h
          refine lv_aload_n hx hb dX12_named_28 rfl (lv_at hl 0 rfl) ?_
          refine m_geta C hM (k := 31) (by decide) rfl dX12_named_29 ?_
          refine lv_bipush (v := (8 : Int32)) hx hb dX12_named_32 (by decide) ?_
          refine lv_iload_n hx hb dX12_named_34 rfl (lv_at hl 2 rfl) ?_
          refine lv_imul hx hb dX12_named_35 ?_
          obtain ⟨c_4, h⟩ := ko_of h
          refine m_iald C hM (k := 31) rfl c_4 dX12_named_36 ?_
          refine lv_if_eq (tgt := 44) hx hb dX12_named_37 (by decide) (fun c_5 => ?_) (fun c_5 => ?_)
          · have h := br_T c_5 h
            exact gm_named_44 C hr hlk ih _ _ _ _ _ _ hM (lv_sub hl [0, 1, 2] rfl) h
          · have h := br_F c_5 h
            refine lv_iconst (v := (1 : Int32)) hx hb dX12_named_40 (by decide) ?_
            refine lv_goto (tgt := 45) hx hb dX12_named_41 (by decide) ?_
            exact gm_named_45 C hr hlk ih _ _ _ _ _ _ _ hM (lv_sub hl [0, 1, 2] rfl) h
def fm_named (σ : mS) : Option (Int32 × mS) :=
  fm_named_4 3000 σ (-1 : Int32) (0 : Int32)
set_option maxHeartbeats 4000000 in
set_option maxRecDepth 100000 in
theorem cm_named (l : Launch) (D : va_G) (ca : Nat → ClassId) (α : Nat → Nat) (A : Nat → Prop) (σ : mS) (o : Int32 × mS) (h : fm_named σ  = some o) : mMetI l yX12_named cX12_named 5 (some .int) rmX12_named D ca α A σ [] o := by
  refine Met.ofW (cc := cX12_named) (maxL := 5) (ret := some .int) (by decide) rfl ?_
  intro p e s m args below meth c s₁ B hml hv
  obtain ⟨rfl, hP, hK, hD0⟩ := hv
  have C : mC p s m _ c cX12_named 5 D ca := ⟨B.exec, B.bytes, hml, findClass_of_methodNamed B.named, fun w hw => atoms_spec (ws := mWs yX12_named cX12_named 5 (some .int)) B.pre w (List.mem_cons_of_mem _ hw), hK⟩
  have hM : mM D ca α A s.heap σ s.heap [] := ⟨hP, hD0, va_S.rf⟩
  have hr := B.returns
  have hlk := B.notSynchronized
  have hx := C.1
  have hb := C.2.1
  have hl := lv_entry ([.ref (α 0)]) (n := 5) (Nat.le_of_ble_eq_true rfl)
  rw [lg_entry_eq]
  generalize (lg_sl ([.ref (α 0)]) ++ List.replicate (5 - (lg_sl ([.ref (α 0)])).length) Slot.unset).toArray = ls at hl ⊢
  have hl : lv_has ls 5 [(0, .ref (α 0))] := hl
  unfold fm_named at h
  refine lv_iconst (v := (-1 : Int32)) hx hb dX12_named_0 (by decide) ?_
  refine lv_istore_n (lv' := [(1, .int (-1 : Int32)), (0, .ref (α 0))]) hx hb dX12_named_1 rfl hl (by decide) rfl (fun ls hl => ?_)
  refine lv_iconst (v := (0 : Int32)) hx hb dX12_named_2 (by decide) ?_
  refine lv_istore_n (lv' := [(2, .int (0 : Int32)), (1, .int (-1 : Int32)), (0, .ref (α 0))]) hx hb dX12_named_3 rfl hl (by decide) rfl (fun ls hl => ?_)
  exact gm_named_4 C hr hlk  _ _ _ _ _ _ _ hM (lv_sub hl [2, 1, 0] rfl) h
theorem mwy_named : mCallV RX12 300 yX12_named cX12_named 5 (some .int) 0 := ⟨⟨wl_in (i := 2269) (by decide +kernel), wl_in (i := 2271) (by decide +kernel), wl_inp (i := 59) (by decide +kernel), wl_in (i := 16) (by decide +kernel), wl_in (i := 2272) (by decide +kernel)⟩, rfl, by decide, by decide, by decide +kernel⟩
/-! name()I -/
abbrev rmX12_name : Room := { frames := 1, cells := 0, slots := 0, locals := 24 }
def fm_name_108 (k_71 : mS → Int32 → Option (Int32 × mS)) (σ : mS) (x2 : Int32) (s0 : Int32) (s1 : Int32) : Option (Int32 × mS) :=
  if s1 < 0 ∨ 640 ≤ s1.toNatClampNeg then none else
  k_71 (mA σ 31 s1.toNatClampNeg s0) (x2 + (1 : Int32))
set_option maxHeartbeats 4000000 in
set_option maxRecDepth 100000 in
theorem gm_name_108 {p : Program} {l : Launch} {e : Env} {s : State} {m : MethodId} {args : Array Value} {below : List Frame} {meth : Method} {c : Code} {D : va_G} {ca : Nat → ClassId} {α : Nat → Nat} {A : Nat → Prop} {o : Int32 × mS} {k_71 : mS → Int32 → Option (Int32 × mS)} (C : mC p s m args c cX12_name 4 D ca) (hr : meth.sig.returnType = some .int) (hlk : meth.locks = false) (hk_71 : ∀ (σ : mS) (x2 : Int32) (H : Heap) (locs : List Loc) (ls : Array Slot), mM D ca α A s.heap σ H locs → lv_has ls 4 [(0, .ref (α 0)), (2, .int x2)] → k_71 σ x2 = some o → mGI p l e rmX12_name s m args below meth c D ca α A o H locs 71 ls []) : ∀ (σ : mS) (x2 : Int32) (s0 : Int32) (s1 : Int32) (H : Heap) (locs : List Loc) (ls : Array Slot), mM D ca α A s.heap σ H locs → lv_has ls 4 [(0, .ref (α 0)), (2, .int x2)] → fm_name_108 k_71 σ x2 s0 s1 = some o → mGI p l e rmX12_name s m args below meth c D ca α A o H locs 108 ls [.int s0, .int s1, .ref (α 32)] := by
  have hx := C.1
  have hb := C.2.1
  intro σ x2 s0 s1 H locs ls hM hl h
  unfold fm_name_108 at h
  obtain ⟨c_1, h⟩ := ko_of h
  refine m_iast C hM (k := 31) rfl c_1 dX12_name_108 (fun H locs hM => ?_)
  refine lv_iinc (v := (x2 + (1 : Int32))) (lv' := [(2, .int (x2 + (1 : Int32))), (0, .ref (α 0))]) hx hb dX12_name_109 hl (k := 1) rfl rfl (by decide) rfl (fun ls hl => ?_)
  refine lv_goto (tgt := 71) hx hb dX12_name_112 (by decide) ?_
  exact hk_71 _ _ _ _ _ hM (lv_sub hl [1, 0] rfl) h
def fm_name_150 (k_124 : mS → Int32 → Int32 → Option (Int32 × mS)) (σ : mS) (x3 : Int32) (s0 : Int32) (s1 : Int32) : Option (Int32 × mS) :=
  k_124 σ (s1 + s0) (x3 + (1 : Int32))
set_option maxHeartbeats 4000000 in
set_option maxRecDepth 100000 in
theorem gm_name_150 {p : Program} {l : Launch} {e : Env} {s : State} {m : MethodId} {args : Array Value} {below : List Frame} {meth : Method} {c : Code} {D : va_G} {ca : Nat → ClassId} {α : Nat → Nat} {A : Nat → Prop} {o : Int32 × mS} {k_124 : mS → Int32 → Int32 → Option (Int32 × mS)} (C : mC p s m args c cX12_name 4 D ca) (hr : meth.sig.returnType = some .int) (hlk : meth.locks = false) (hk_124 : ∀ (σ : mS) (x2 : Int32) (x3 : Int32) (H : Heap) (locs : List Loc) (ls : Array Slot), mM D ca α A s.heap σ H locs → lv_has ls 4 [(0, .ref (α 0)), (2, .int x2), (3, .int x3)] → k_124 σ x2 x3 = some o → mGI p l e rmX12_name s m args below meth c D ca α A o H locs 124 ls []) : ∀ (σ : mS) (x3 : Int32) (s0 : Int32) (s1 : Int32) (H : Heap) (locs : List Loc) (ls : Array Slot), mM D ca α A s.heap σ H locs → lv_has ls 4 [(0, .ref (α 0)), (3, .int x3)] → fm_name_150 k_124 σ x3 s0 s1 = some o → mGI p l e rmX12_name s m args below meth c D ca α A o H locs 150 ls [.int s0, .int s1] := by
  have hx := C.1
  have hb := C.2.1
  intro σ x3 s0 s1 H locs ls hM hl h
  unfold fm_name_150 at h
  refine lv_iadd hx hb dX12_name_150 ?_
  refine lv_istore_n (lv' := [(2, .int (s1 + s0)), (0, .ref (α 0)), (3, .int x3)]) hx hb dX12_name_151 rfl hl (by decide) rfl (fun ls hl => ?_)
  refine lv_iinc (v := (x3 + (1 : Int32))) (lv' := [(3, .int (x3 + (1 : Int32))), (2, .int (s1 + s0)), (0, .ref (α 0))]) hx hb dX12_name_152 hl (k := 2) rfl rfl (by decide) rfl (fun ls hl => ?_)
  refine lv_goto (tgt := 124) hx hb dX12_name_155 (by decide) ?_
  exact hk_124 _ _ _ _ _ _ hM (lv_sub hl [2, 1, 0] rfl) h
def fm_name_124 : Nat → mS → Int32 → Int32 → Option (Int32 × mS)
  | 0, _, _, _ => none
  | n + 1, σ, x2, x3 =>
    if (σ.1 33) ≤ x3 then
      some (x2, σ)
    else
      if ((8 : Int32) * x3) < 0 ∨ 640 ≤ ((8 : Int32) * x3).toNatClampNeg then none else
      if (σ.2.2.1 31 ((8 : Int32) * x3).toNatClampNeg) = 0 then
        fm_name_150 (fm_name_124 n) σ x3 (0 : Int32) x2
      else
        fm_name_150 (fm_name_124 n) σ x3 (1 : Int32) x2
set_option maxHeartbeats 4000000 in
set_option maxRecDepth 100000 in
theorem gm_name_124 {p : Program} {l : Launch} {e : Env} {s : State} {m : MethodId} {args : Array Value} {below : List Frame} {meth : Method} {c : Code} {D : va_G} {ca : Nat → ClassId} {α : Nat → Nat} {A : Nat → Prop} {o : Int32 × mS} (C : mC p s m args c cX12_name 4 D ca) (hr : meth.sig.returnType = some .int) (hlk : meth.locks = false) : ∀ (n : Nat) (σ : mS) (x2 : Int32) (x3 : Int32) (H : Heap) (locs : List Loc) (ls : Array Slot), mM D ca α A s.heap σ H locs → lv_has ls 4 [(0, .ref (α 0)), (2, .int x2), (3, .int x3)] → fm_name_124 n σ x2 x3 = some o → mGI p l e rmX12_name s m args below meth c D ca α A o H locs 124 ls [] := by
  have hx := C.1
  have hb := C.2.1
  intro n
  induction n with
  | zero =>
    intro σ x2 x3 H locs ls hM hl h
    cases h
  | succ n ih =>
    intro σ x2 x3 H locs ls hM hl h
    rw [fm_name_124] at h
    refine lv_iload_n hx hb dX12_name_124 rfl (lv_at hl 2 rfl) ?_
    refine lv_aload_n hx hb dX12_name_125 rfl (lv_at hl 0 rfl) ?_
    refine m_geti C hM (k := 33) (Or.inl rfl) rfl dX12_name_126 ?_
    refine lv_icmp_ge (tgt := 158) hx hb dX12_name_129 (by decide) (fun c_1 => ?_) (fun c_1 => ?_)
    · have h := br_T c_1 h
      refine lv_iload_n hx hb dX12_name_158 rfl (lv_at hl 1 rfl) ?_
      exact m_ri C hM hr hlk dX12_name_159 h
    · have h := br_F c_1 h
      refine lv_iload_n hx hb dX12_name_132 rfl (lv_at hl 1 rfl) ?_
      refine lv_aload_n hx hb dX12_name_133 rfl (lv_at hl 0 rfl) ?_
      refine m_geta C hM (k := 31) (by decide) rfl dX12_name_134 ?_
      refine lv_bipush (v := (8 : Int32)) hx hb dX12_name_137 (by decide) ?_
      refine lv_iload_n hx hb dX12_name_139 rfl (lv_at hl 2 rfl) ?_
      refine lv_imul hx hb dX12_name_140 ?_
      obtain ⟨c_2, h⟩ := ko_of h
      refine m_iald C hM (k := 31) rfl c_2 dX12_name_141 ?_
      refine lv_if_eq (tgt := 149) hx hb dX12_name_142 (by decide) (fun c_3 => ?_) (fun c_3 => ?_)
      · have h := br_T c_3 h
        refine lv_iconst (v := (0 : Int32)) hx hb dX12_name_149 (by decide) ?_
        exact gm_name_150 C hr hlk ih _ _ _ _ _ _ _ hM (lv_sub hl [0, 2] rfl) h
      · have h := br_F c_3 h
        refine lv_iconst (v := (1 : Int32)) hx hb dX12_name_145 (by decide) ?_
        refine lv_goto (tgt := 150) hx hb dX12_name_146 (by decide) ?_
        exact gm_name_150 C hr hlk ih _ _ _ _ _ _ _ hM (lv_sub hl [0, 2] rfl) h
def fm_name_71 : Nat → mS → Int32 → Option (Int32 × mS)
  | 0, _, _ => none
  | n + 1, σ, x2 =>
    if (8 : Int32) ≤ x2 then
      fm_name_124 3000 (mI σ 2 (0 : Int32)) (0 : Int32) (0 : Int32)
    else
      if (σ.1 2) ≤ x2 then
        fm_name_108 (fm_name_71 n) σ x2 (0 : Int32) (((8 : Int32) * (σ.1 34)) + x2)
      else
        if x2 < 0 ∨ 30 ≤ x2.toNatClampNeg then none else
        fm_name_108 (fm_name_71 n) σ x2 (σ.2.2.1 1 x2.toNatClampNeg) (((8 : Int32) * (σ.1 34)) + x2)
set_option maxHeartbeats 4000000 in
set_option maxRecDepth 100000 in
theorem gm_name_71 {p : Program} {l : Launch} {e : Env} {s : State} {m : MethodId} {args : Array Value} {below : List Frame} {meth : Method} {c : Code} {D : va_G} {ca : Nat → ClassId} {α : Nat → Nat} {A : Nat → Prop} {o : Int32 × mS} (C : mC p s m args c cX12_name 4 D ca) (hr : meth.sig.returnType = some .int) (hlk : meth.locks = false) : ∀ (n : Nat) (σ : mS) (x2 : Int32) (H : Heap) (locs : List Loc) (ls : Array Slot), mM D ca α A s.heap σ H locs → lv_has ls 4 [(0, .ref (α 0)), (2, .int x2)] → fm_name_71 n σ x2 = some o → mGI p l e rmX12_name s m args below meth c D ca α A o H locs 71 ls [] := by
  have hx := C.1
  have hb := C.2.1
  intro n
  induction n with
  | zero =>
    intro σ x2 H locs ls hM hl h
    cases h
  | succ n ih =>
    intro σ x2 H locs ls hM hl h
    rw [fm_name_71] at h
    refine lv_iload_n hx hb dX12_name_71 rfl (lv_at hl 1 rfl) ?_
    refine lv_bipush (v := (8 : Int32)) hx hb dX12_name_72 (by decide) ?_
    refine lv_icmp_ge (tgt := 115) hx hb dX12_name_74 (by decide) (fun c_1 => ?_) (fun c_1 => ?_)
    · have h := br_T c_1 h
      refine lv_aload_n hx hb dX12_name_115 rfl (lv_at hl 0 rfl) ?_
      refine lv_iconst (v := (0 : Int32)) hx hb dX12_name_116 (by decide) ?_
      refine m_puti C hM (k := 2) rfl rfl dX12_name_117 (fun H locs hM => ?_)
      refine lv_iconst (v := (0 : Int32)) hx hb dX12_name_120 (by decide) ?_
      refine lv_istore_n (lv' := [(2, .int (0 : Int32)), (0, .ref (α 0))]) hx hb dX12_name_121 rfl hl (by decide) rfl (fun ls hl => ?_)
      refine lv_iconst (v := (0 : Int32)) hx hb dX12_name_122 (by decide) ?_
      refine lv_istore_n (lv' := [(3, .int (0 : Int32)), (2, .int (0 : Int32)), (0, .ref (α 0))]) hx hb dX12_name_123 rfl hl (by decide) rfl (fun ls hl => ?_)
      exact gm_name_124 C hr hlk  _ _ _ _ _ _ _ hM (lv_sub hl [2, 1, 0] rfl) h
    · have h := br_F c_1 h
      refine lv_aload_n hx hb dX12_name_77 rfl (lv_at hl 0 rfl) ?_
      refine m_geta C hM (k := 31) (by decide) rfl dX12_name_78 ?_
      refine lv_bipush (v := (8 : Int32)) hx hb dX12_name_81 (by decide) ?_
      refine lv_aload_n hx hb dX12_name_83 rfl (lv_at hl 0 rfl) ?_
      refine m_geti C hM (k := 34) (Or.inl rfl) rfl dX12_name_84 ?_
      refine lv_imul hx hb dX12_name_87 ?_
      refine lv_iload_n hx hb dX12_name_88 rfl (lv_at hl 1 rfl) ?_
      refine lv_iadd hx hb dX12_name_89 ?_
      refine lv_iload_n hx hb dX12_name_90 rfl (lv_at hl 1 rfl) ?_
      refine lv_aload_n hx hb dX12_name_91 rfl (lv_at hl 0 rfl) ?_
      refine m_geti C hM (k := 2) (Or.inl rfl) rfl dX12_name_92 ?_
      refine lv_icmp_ge (tgt := 107) hx hb dX12_name_95 (by decide) (fun c_2 => ?_) (fun c_2 => ?_)
      · have h := br_T c_2 h
        refine lv_iconst (v := (0 : Int32)) hx hb dX12_name_107 (by decide) ?_
        exact gm_name_108 C hr hlk ih _ _ _ _ _ _ _ hM (lv_sub hl [0, 1] rfl) h
      · have h := br_F c_2 h
        refine lv_aload_n hx hb dX12_name_98 rfl (lv_at hl 0 rfl) ?_
        refine m_geta C hM (k := 1) (by decide) rfl dX12_name_99 ?_
        refine lv_iload_n hx hb dX12_name_102 rfl (lv_at hl 1 rfl) ?_
        obtain ⟨c_3, h⟩ := ko_of h
        refine m_iald C hM (k := 1) rfl c_3 dX12_name_103 ?_
        refine lv_goto (tgt := 108) hx hb dX12_name_104 (by decide) ?_
        exact gm_name_108 C hr hlk ih _ _ _ _ _ _ _ hM (lv_sub hl [0, 1] rfl) h
def fm_name_61 (σ : mS) (s0 : Int32) : Option (Int32 × mS) :=
  (fm_isWrong σ s0).bind fun r_1 =>
  if r_1.1 = 0 then
    fm_name_71 3000 r_1.2 (0 : Int32)
  else
    some ((0 : Int32), r_1.2)
set_option maxHeartbeats 4000000 in
set_option maxRecDepth 100000 in
theorem gm_name_61 {p : Program} {l : Launch} {e : Env} {s : State} {m : MethodId} {args : Array Value} {below : List Frame} {meth : Method} {c : Code} {D : va_G} {ca : Nat → ClassId} {α : Nat → Nat} {A : Nat → Prop} {o : Int32 × mS} (C : mC p s m args c cX12_name 4 D ca) (hr : meth.sig.returnType = some .int) (hlk : meth.locks = false) : ∀ (σ : mS) (s0 : Int32) (H : Heap) (locs : List Loc) (ls : Array Slot), mM D ca α A s.heap σ H locs → lv_has ls 4 [(0, .ref (α 0))] → fm_name_61 σ s0 = some o → mGI p l e rmX12_name s m args below meth c D ca α A o H locs 61 ls [.int s0, .ref (α 0)] := by
  have hx := C.1
  have hb := C.2.1
  intro σ s0 H locs ls hM hl h
  unfold fm_name_61 at h
  obtain ⟨r_1, hr_1, h⟩ := bd_of h
  refine m_cVi (As := [.int s0]) (rest := []) C hM (cm_isWrong l D ca α A σ s0 r_1 hr_1) mwy_isWrong ⟨rfl, rfl⟩ ⟨Nat.le_of_ble_eq_true rfl, Nat.le_of_ble_eq_true rfl⟩ rfl rfl (Nat.le_of_ble_eq_true rfl) hl.1 dX12_name_61 ⟨rfl, rfl⟩ (fun H locs hM => ?_)
  refine lv_if_eq (tgt := 69) hx hb dX12_name_64 (by decide) (fun c_1 => ?_) (fun c_1 => ?_)
  · have h := br_T c_1 h
    refine lv_iconst (v := (0 : Int32)) hx hb dX12_name_69 (by decide) ?_
    refine lv_istore_n (lv' := [(2, .int (0 : Int32)), (0, .ref (α 0))]) hx hb dX12_name_70 rfl hl (by decide) rfl (fun ls hl => ?_)
    exact gm_name_71 C hr hlk  _ _ _ _ _ _ hM (lv_sub hl [1, 0] rfl) h
  · have h := br_F c_1 h
    refine lv_iconst (v := (0 : Int32)) hx hb dX12_name_67 (by decide) ?_
    exact m_ri C hM hr hlk dX12_name_68 h
def fm_name_60 (σ : mS) : Option (Int32 × mS) :=
  fm_name_61 σ (0 : Int32)
set_option maxHeartbeats 4000000 in
set_option maxRecDepth 100000 in
theorem gm_name_60 {p : Program} {l : Launch} {e : Env} {s : State} {m : MethodId} {args : Array Value} {below : List Frame} {meth : Method} {c : Code} {D : va_G} {ca : Nat → ClassId} {α : Nat → Nat} {A : Nat → Prop} {o : Int32 × mS} (C : mC p s m args c cX12_name 4 D ca) (hr : meth.sig.returnType = some .int) (hlk : meth.locks = false) : ∀ (σ : mS) (H : Heap) (locs : List Loc) (ls : Array Slot), mM D ca α A s.heap σ H locs → lv_has ls 4 [(0, .ref (α 0))] → fm_name_60 σ = some o → mGI p l e rmX12_name s m args below meth c D ca α A o H locs 60 ls [.ref (α 0)] := by
  have hx := C.1
  have hb := C.2.1
  intro σ H locs ls hM hl h
  unfold fm_name_60 at h
  refine lv_iconst (v := (0 : Int32)) hx hb dX12_name_60 (by decide) ?_
  exact gm_name_61 C hr hlk  _ _ _ _ _ hM (lv_sub hl [0] rfl) h
def fm_name_29 (σ : mS) (s0 : Int32) : Option (Int32 × mS) :=
  (fm_isWrong σ s0).bind fun r_1 =>
  if r_1.1 = 0 then
    (fm_named r_1.2).bind fun r_2 =>
    if r_2.1 = (-1 : Int32) then
      fm_name_60 r_2.2
    else
      if r_2.1 = (r_2.2.1 34) then
        fm_name_60 r_2.2
      else
        fm_name_61 r_2.2 (3 : Int32)
  else
    some ((0 : Int32), r_1.2)
set_option maxHeartbeats 4000000 in
set_option maxRecDepth 100000 in
theorem gm_name_29 {p : Program} {l : Launch} {e : Env} {s : State} {m : MethodId} {args : Array Value} {below : List Frame} {meth : Method} {c : Code} {D : va_G} {ca : Nat → ClassId} {α : Nat → Nat} {A : Nat → Prop} {o : Int32 × mS} (C : mC p s m args c cX12_name 4 D ca) (hr : meth.sig.returnType = some .int) (hlk : meth.locks = false) : ∀ (σ : mS) (s0 : Int32) (H : Heap) (locs : List Loc) (ls : Array Slot), mM D ca α A s.heap σ H locs → lv_has ls 4 [(0, .ref (α 0))] → fm_name_29 σ s0 = some o → mGI p l e rmX12_name s m args below meth c D ca α A o H locs 29 ls [.int s0, .ref (α 0)] := by
  have hx := C.1
  have hb := C.2.1
  intro σ s0 H locs ls hM hl h
  unfold fm_name_29 at h
  obtain ⟨r_1, hr_1, h⟩ := bd_of h
  refine m_cVi (As := [.int s0]) (rest := []) C hM (cm_isWrong l D ca α A σ s0 r_1 hr_1) mwy_isWrong ⟨rfl, rfl⟩ ⟨Nat.le_of_ble_eq_true rfl, Nat.le_of_ble_eq_true rfl⟩ rfl rfl (Nat.le_of_ble_eq_true rfl) hl.1 dX12_name_29 ⟨rfl, rfl⟩ (fun H locs hM => ?_)
  refine lv_if_eq (tgt := 37) hx hb dX12_name_32 (by decide) (fun c_1 => ?_) (fun c_1 => ?_)
  · have h := br_T c_1 h
    refine lv_aload_n hx hb dX12_name_37 rfl (lv_at hl 0 rfl) ?_
    obtain ⟨r_2, hr_2, h⟩ := bd_of h
    refine m_cVi (As := []) (rest := []) C hM (cm_named l D ca α A r_1.2  r_2 hr_2) mwy_named ⟨rfl, rfl⟩ ⟨Nat.le_of_ble_eq_true rfl, Nat.le_of_ble_eq_true rfl⟩ rfl rfl (Nat.le_of_ble_eq_true rfl) hl.1 dX12_name_38 ⟨rfl, rfl⟩ (fun H locs hM => ?_)
    refine lv_istore_n (lv' := [(1, .int r_2.1), (0, .ref (α 0))]) hx hb dX12_name_41 rfl hl (by decide) rfl (fun ls hl => ?_)
    refine lv_aload_n hx hb dX12_name_42 rfl (lv_at hl 1 rfl) ?_
    refine lv_iload_n hx hb dX12_name_43 rfl (lv_at hl 0 rfl) ?_
    refine lv_iconst (v := (-1 : Int32)) hx hb dX12_name_44 (by decide) ?_
    refine lv_icmp_eq (tgt := 60) hx hb dX12_name_45 (by decide) (fun c_2 => ?_) (fun c_2 => ?_)
    · have h := br_T c_2 h
      exact gm_name_60 C hr hlk  _ _ _ _ hM (lv_sub hl [1] rfl) h
    · have h := br_F c_2 h
      refine lv_iload_n hx hb dX12_name_48 rfl (lv_at hl 0 rfl) ?_
      refine lv_aload_n hx hb dX12_name_49 rfl (lv_at hl 1 rfl) ?_
      refine m_geti C hM (k := 34) (Or.inl rfl) rfl dX12_name_50 ?_
      refine lv_icmp_eq (tgt := 60) hx hb dX12_name_53 (by decide) (fun c_3 => ?_) (fun c_3 => ?_)
      · have h := br_T c_3 h
        exact gm_name_60 C hr hlk  _ _ _ _ hM (lv_sub hl [1] rfl) h
      · have h := br_F c_3 h
        refine lv_iconst (v := (3 : Int32)) hx hb dX12_name_56 (by decide) ?_
        refine lv_goto (tgt := 61) hx hb dX12_name_57 (by decide) ?_
        exact gm_name_61 C hr hlk  _ _ _ _ _ hM (lv_sub hl [1] rfl) h
  · have h := br_F c_1 h
    refine lv_iconst (v := (0 : Int32)) hx hb dX12_name_35 (by decide) ?_
    exact m_ri C hM hr hlk dX12_name_36 h
def fm_name (σ : mS) : Option (Int32 × mS) :=
  if (σ.1 20) = 0 then
    fm_name_29 σ (1 : Int32)
  else
    (fm_isRowOfLetters σ (0 : Int32) (σ.1 2)).bind fun r_1 =>
    if r_1.1 = 0 then
      fm_name_29 r_1.2 (2 : Int32)
    else
      fm_name_29 r_1.2 (0 : Int32)
set_option maxHeartbeats 4000000 in
set_option maxRecDepth 100000 in
theorem cm_name (l : Launch) (D : va_G) (ca : Nat → ClassId) (α : Nat → Nat) (A : Nat → Prop) (σ : mS) (o : Int32 × mS) (h : fm_name σ  = some o) : mMetI l yX12_name cX12_name 4 (some .int) rmX12_name D ca α A σ [] o := by
  refine Met.ofW (cc := cX12_name) (maxL := 4) (ret := some .int) (by decide) rfl ?_
  intro p e s m args below meth c s₁ B hml hv
  obtain ⟨rfl, hP, hK, hD0⟩ := hv
  have C : mC p s m _ c cX12_name 4 D ca := ⟨B.exec, B.bytes, hml, findClass_of_methodNamed B.named, fun w hw => atoms_spec (ws := mWs yX12_name cX12_name 4 (some .int)) B.pre w (List.mem_cons_of_mem _ hw), hK⟩
  have hM : mM D ca α A s.heap σ s.heap [] := ⟨hP, hD0, va_S.rf⟩
  have hr := B.returns
  have hlk := B.notSynchronized
  have hx := C.1
  have hb := C.2.1
  have hl := lv_entry ([.ref (α 0)]) (n := 4) (Nat.le_of_ble_eq_true rfl)
  rw [lg_entry_eq]
  generalize (lg_sl ([.ref (α 0)]) ++ List.replicate (4 - (lg_sl ([.ref (α 0)])).length) Slot.unset).toArray = ls at hl ⊢
  have hl : lv_has ls 4 [(0, .ref (α 0))] := hl
  unfold fm_name at h
  refine lv_aload_n hx hb dX12_name_0 rfl (lv_at hl 0 rfl) ?_
  refine lv_aload_n hx hb dX12_name_1 rfl (lv_at hl 0 rfl) ?_
  refine m_geti C hM (k := 20) (Or.inr rfl) rfl dX12_name_2 ?_
  refine lv_if_ne (tgt := 12) hx hb dX12_name_5 (by decide) (fun c_1 => ?_) (fun c_1 => ?_)
  · have h := br_F c_1 h
    refine lv_aload_n hx hb dX12_name_12 rfl (lv_at hl 0 rfl) ?_
    refine lv_iconst (v := (0 : Int32)) hx hb dX12_name_13 (by decide) ?_
    refine lv_aload_n hx hb dX12_name_14 rfl (lv_at hl 0 rfl) ?_
    refine m_geti C hM (k := 2) (Or.inl rfl) rfl dX12_name_15 ?_
    obtain ⟨r_1, hr_1, h⟩ := bd_of h
    refine m_cVi (As := [.int (0 : Int32), .int (σ.1 2)]) (rest := [.ref (α 0)]) C hM (cm_isRowOfLetters l D ca α A σ (0 : Int32) (σ.1 2) r_1 hr_1) mwy_isRowOfLetters ⟨rfl, rfl⟩ ⟨Nat.le_of_ble_eq_true rfl, Nat.le_of_ble_eq_true rfl⟩ rfl rfl (Nat.le_of_ble_eq_true rfl) hl.1 dX12_name_18 ⟨rfl, rfl⟩ (fun H locs hM => ?_)
    refine lv_if_ne (tgt := 28) hx hb dX12_name_21 (by decide) (fun c_2 => ?_) (fun c_2 => ?_)
    · have h := br_F c_2 h
      refine lv_iconst (v := (0 : Int32)) hx hb dX12_name_28 (by decide) ?_
      exact gm_name_29 C hr hlk  _ _ _ _ _ hM (lv_sub hl [0] rfl) h
    · have h := br_T c_2 h
      refine lv_iconst (v := (2 : Int32)) hx hb dX12_name_24 (by decide) ?_
      refine lv_goto (tgt := 29) hx hb dX12_name_25 (by decide) ?_
      exact gm_name_29 C hr hlk  _ _ _ _ _ hM (lv_sub hl [0] rfl) h
  · have h := br_T c_1 h
    refine lv_iconst (v := (1 : Int32)) hx hb dX12_name_8 (by decide) ?_
    refine lv_goto (tgt := 29) hx hb dX12_name_9 (by decide) ?_
    exact gm_name_29 C hr hlk  _ _ _ _ _ hM (lv_sub hl [0] rfl) h
/-! jump()I -/
abbrev rmX12_jump : Room := { frames := 1, cells := 0, slots := 0, locals := 24 }
def fm_jump_25 (σ : mS) (s0 : Int32) : Option (Int32 × mS) :=
  (fm_isWrong σ s0).bind fun r_1 =>
  if r_1.1 = 0 then
    (fm_named r_1.2).bind fun r_2 =>
    some (((mI (mI r_2.2 34 r_2.1) 2 (0 : Int32)).1 34), (mI (mI r_2.2 34 r_2.1) 2 (0 : Int32)))
  else
    some ((0 : Int32), r_1.2)
set_option maxHeartbeats 4000000 in
set_option maxRecDepth 100000 in
theorem gm_jump_25 {p : Program} {l : Launch} {e : Env} {s : State} {m : MethodId} {args : Array Value} {below : List Frame} {meth : Method} {c : Code} {D : va_G} {ca : Nat → ClassId} {α : Nat → Nat} {A : Nat → Prop} {o : Int32 × mS} (C : mC p s m args c cX12_jump 1 D ca) (hr : meth.sig.returnType = some .int) (hlk : meth.locks = false) : ∀ (σ : mS) (s0 : Int32) (H : Heap) (locs : List Loc) (ls : Array Slot), mM D ca α A s.heap σ H locs → lv_has ls 1 [(0, .ref (α 0))] → fm_jump_25 σ s0 = some o → mGI p l e rmX12_jump s m args below meth c D ca α A o H locs 25 ls [.int s0, .ref (α 0)] := by
  have hx := C.1
  have hb := C.2.1
  intro σ s0 H locs ls hM hl h
  unfold fm_jump_25 at h
  obtain ⟨r_1, hr_1, h⟩ := bd_of h
  refine m_cVi (As := [.int s0]) (rest := []) C hM (cm_isWrong l D ca α A σ s0 r_1 hr_1) mwy_isWrong ⟨rfl, rfl⟩ ⟨Nat.le_of_ble_eq_true rfl, Nat.le_of_ble_eq_true rfl⟩ rfl rfl (Nat.le_of_ble_eq_true rfl) hl.1 dX12_jump_25 ⟨rfl, rfl⟩ (fun H locs hM => ?_)
  refine lv_if_eq (tgt := 33) hx hb dX12_jump_28 (by decide) (fun c_1 => ?_) (fun c_1 => ?_)
  · have h := br_T c_1 h
    refine lv_aload_n hx hb dX12_jump_33 rfl (lv_at hl 0 rfl) ?_
    refine lv_aload_n hx hb dX12_jump_34 rfl (lv_at hl 0 rfl) ?_
    obtain ⟨r_2, hr_2, h⟩ := bd_of h
    refine m_cVi (As := []) (rest := [.ref (α 0)]) C hM (cm_named l D ca α A r_1.2  r_2 hr_2) mwy_named ⟨rfl, rfl⟩ ⟨Nat.le_of_ble_eq_true rfl, Nat.le_of_ble_eq_true rfl⟩ rfl rfl (Nat.le_of_ble_eq_true rfl) hl.1 dX12_jump_35 ⟨rfl, rfl⟩ (fun H locs hM => ?_)
    refine m_puti C hM (k := 34) rfl rfl dX12_jump_38 (fun H locs hM => ?_)
    refine lv_aload_n hx hb dX12_jump_41 rfl (lv_at hl 0 rfl) ?_
    refine lv_iconst (v := (0 : Int32)) hx hb dX12_jump_42 (by decide) ?_
    refine m_puti C hM (k := 2) rfl rfl dX12_jump_43 (fun H locs hM => ?_)
    refine lv_aload_n hx hb dX12_jump_46 rfl (lv_at hl 0 rfl) ?_
    refine m_geti C hM (k := 34) (Or.inl rfl) rfl dX12_jump_47 ?_
    exact m_ri C hM hr hlk dX12_jump_50 h
  · have h := br_F c_1 h
    refine lv_iconst (v := (0 : Int32)) hx hb dX12_jump_31 (by decide) ?_
    exact m_ri C hM hr hlk dX12_jump_32 h
def fm_jump (σ : mS) : Option (Int32 × mS) :=
  if (σ.1 20) = 0 then
    fm_jump_25 σ (1 : Int32)
  else
    (fm_named σ).bind fun r_1 =>
    if r_1.1 = (-1 : Int32) then
      fm_jump_25 r_1.2 (2 : Int32)
    else
      fm_jump_25 r_1.2 (0 : Int32)
set_option maxHeartbeats 4000000 in
set_option maxRecDepth 100000 in
theorem cm_jump (l : Launch) (D : va_G) (ca : Nat → ClassId) (α : Nat → Nat) (A : Nat → Prop) (σ : mS) (o : Int32 × mS) (h : fm_jump σ  = some o) : mMetI l yX12_jump cX12_jump 1 (some .int) rmX12_jump D ca α A σ [] o := by
  refine Met.ofW (cc := cX12_jump) (maxL := 1) (ret := some .int) (by decide) rfl ?_
  intro p e s m args below meth c s₁ B hml hv
  obtain ⟨rfl, hP, hK, hD0⟩ := hv
  have C : mC p s m _ c cX12_jump 1 D ca := ⟨B.exec, B.bytes, hml, findClass_of_methodNamed B.named, fun w hw => atoms_spec (ws := mWs yX12_jump cX12_jump 1 (some .int)) B.pre w (List.mem_cons_of_mem _ hw), hK⟩
  have hM : mM D ca α A s.heap σ s.heap [] := ⟨hP, hD0, va_S.rf⟩
  have hr := B.returns
  have hlk := B.notSynchronized
  have hx := C.1
  have hb := C.2.1
  have hl := lv_entry ([.ref (α 0)]) (n := 1) (Nat.le_of_ble_eq_true rfl)
  rw [lg_entry_eq]
  generalize (lg_sl ([.ref (α 0)]) ++ List.replicate (1 - (lg_sl ([.ref (α 0)])).length) Slot.unset).toArray = ls at hl ⊢
  have hl : lv_has ls 1 [(0, .ref (α 0))] := hl
  unfold fm_jump at h
  refine lv_aload_n hx hb dX12_jump_0 rfl (lv_at hl 0 rfl) ?_
  refine lv_aload_n hx hb dX12_jump_1 rfl (lv_at hl 0 rfl) ?_
  refine m_geti C hM (k := 20) (Or.inr rfl) rfl dX12_jump_2 ?_
  refine lv_if_ne (tgt := 12) hx hb dX12_jump_5 (by decide) (fun c_1 => ?_) (fun c_1 => ?_)
  · have h := br_F c_1 h
    refine lv_aload_n hx hb dX12_jump_12 rfl (lv_at hl 0 rfl) ?_
    obtain ⟨r_1, hr_1, h⟩ := bd_of h
    refine m_cVi (As := []) (rest := [.ref (α 0)]) C hM (cm_named l D ca α A σ  r_1 hr_1) mwy_named ⟨rfl, rfl⟩ ⟨Nat.le_of_ble_eq_true rfl, Nat.le_of_ble_eq_true rfl⟩ rfl rfl (Nat.le_of_ble_eq_true rfl) hl.1 dX12_jump_13 ⟨rfl, rfl⟩ (fun H locs hM => ?_)
    refine lv_iconst (v := (-1 : Int32)) hx hb dX12_jump_16 (by decide) ?_
    refine lv_icmp_ne (tgt := 24) hx hb dX12_jump_17 (by decide) (fun c_2 => ?_) (fun c_2 => ?_)
    · have h := br_F c_2 h
      refine lv_iconst (v := (0 : Int32)) hx hb dX12_jump_24 (by decide) ?_
      exact gm_jump_25 C hr hlk  _ _ _ _ _ hM (lv_sub hl [0] rfl) h
    · have h := br_T c_2 h
      refine lv_iconst (v := (2 : Int32)) hx hb dX12_jump_20 (by decide) ?_
      refine lv_goto (tgt := 25) hx hb dX12_jump_21 (by decide) ?_
      exact gm_jump_25 C hr hlk  _ _ _ _ _ hM (lv_sub hl [0] rfl) h
  · have h := br_T c_1 h
    refine lv_iconst (v := (1 : Int32)) hx hb dX12_jump_8 (by decide) ?_
    refine lv_goto (tgt := 25) hx hb dX12_jump_9 (by decide) ?_
    exact gm_jump_25 C hr hlk  _ _ _ _ _ hM (lv_sub hl [0] rfl) h
/-! isNoWord(I)Z -/
abbrev rmX12_isNoWord : Room := { frames := 2, cells := 0, slots := 0, locals := 43 }
def fm_isNoWord_25 (σ : mS) (s0 : Int32) : Option (Int32 × mS) :=
  (fm_isWrong σ s0).bind fun r_1 =>
  if r_1.1 &&& 1 = r_1.1 then some (r_1.1, r_1.2) else none
set_option maxHeartbeats 4000000 in
set_option maxRecDepth 100000 in
theorem gm_isNoWord_25 {p : Program} {l : Launch} {e : Env} {s : State} {m : MethodId} {args : Array Value} {below : List Frame} {meth : Method} {c : Code} {D : va_G} {ca : Nat → ClassId} {α : Nat → Nat} {A : Nat → Prop} {o : Int32 × mS} (C : mC p s m args c cX12_isNoWord 2 D ca) (hr : meth.sig.returnType = some .boolean) (hlk : meth.locks = false) : ∀ (σ : mS) (s0 : Int32) (H : Heap) (locs : List Loc) (ls : Array Slot), mM D ca α A s.heap σ H locs → lv_has ls 2 [(0, .ref (α 0))] → fm_isNoWord_25 σ s0 = some o → mGI p l e rmX12_isNoWord s m args below meth c D ca α A o H locs 25 ls [.int s0, .ref (α 0)] := by
  have hx := C.1
  have hb := C.2.1
  intro σ s0 H locs ls hM hl h
  unfold fm_isNoWord_25 at h
  obtain ⟨r_1, hr_1, h⟩ := bd_of h
  refine m_cVi (As := [.int s0]) (rest := []) C hM (cm_isWrong l D ca α A σ s0 r_1 hr_1) mwy_isWrong ⟨rfl, rfl⟩ ⟨Nat.le_of_ble_eq_true rfl, Nat.le_of_ble_eq_true rfl⟩ rfl rfl (Nat.le_of_ble_eq_true rfl) hl.1 dX12_isNoWord_25 ⟨rfl, rfl⟩ (fun H locs hM => ?_)
  exact m_rz C hM hr hlk dX12_isNoWord_28 h
def fm_isNoWord (σ : mS) (x1 : Int32) : Option (Int32 × mS) :=
  (fm_isWord σ x1).bind fun r_1 =>
  if r_1.1 = 0 then
    fm_isNoWord_25 r_1.2 (1 : Int32)
  else
    if (r_1.2.1 20) = 0 then
      fm_isNoWord_25 r_1.2 (2 : Int32)
    else
      fm_isNoWord_25 r_1.2 (0 : Int32)
set_option maxHeartbeats 4000000 in
set_option maxRecDepth 100000 in
theorem cm_isNoWord (l : Launch) (D : va_G) (ca : Nat → ClassId) (α : Nat → Nat) (A : Nat → Prop) (σ : mS) (x1 : Int32) (o : Int32 × mS) (h : fm_isNoWord σ x1 = some o) : mMetI l yX12_isNoWord cX12_isNoWord 2 (some .boolean) rmX12_isNoWord D ca α A σ [.int x1] o := by
  refine Met.ofW (cc := cX12_isNoWord) (maxL := 2) (ret := some .boolean) (by decide) rfl ?_
  intro p e s m args below meth c s₁ B hml hv
  obtain ⟨rfl, hP, hK, hD0⟩ := hv
  have C : mC p s m _ c cX12_isNoWord 2 D ca := ⟨B.exec, B.bytes, hml, findClass_of_methodNamed B.named, fun w hw => atoms_spec (ws := mWs yX12_isNoWord cX12_isNoWord 2 (some .boolean)) B.pre w (List.mem_cons_of_mem _ hw), hK⟩
  have hM : mM D ca α A s.heap σ s.heap [] := ⟨hP, hD0, va_S.rf⟩
  have hr := B.returns
  have hlk := B.notSynchronized
  have hx := C.1
  have hb := C.2.1
  have hl := lv_entry ([.ref (α 0), .int x1]) (n := 2) (Nat.le_of_ble_eq_true rfl)
  rw [lg_entry_eq]
  generalize (lg_sl ([.ref (α 0), .int x1]) ++ List.replicate (2 - (lg_sl ([.ref (α 0), .int x1])).length) Slot.unset).toArray = ls at hl ⊢
  have hl : lv_has ls 2 [(0, .ref (α 0)), (1, .int x1)] := hl
  unfold fm_isNoWord at h
  refine lv_aload_n hx hb dX12_isNoWord_0 rfl (lv_at hl 0 rfl) ?_
  refine lv_aload_n hx hb dX12_isNoWord_1 rfl (lv_at hl 0 rfl) ?_
  refine lv_iload_n hx hb dX12_isNoWord_2 rfl (lv_at hl 1 rfl) ?_
  obtain ⟨r_1, hr_1, h⟩ := bd_of h
  refine m_cVi (As := [.int x1]) (rest := [.ref (α 0)]) C hM (cm_isWord l D ca α A σ x1 r_1 hr_1) mwy_isWord ⟨rfl, rfl⟩ ⟨Nat.le_of_ble_eq_true rfl, Nat.le_of_ble_eq_true rfl⟩ rfl rfl (Nat.le_of_ble_eq_true rfl) hl.1 dX12_isNoWord_3 ⟨rfl, rfl⟩ (fun H locs hM => ?_)
  refine lv_if_ne (tgt := 13) hx hb dX12_isNoWord_6 (by decide) (fun c_1 => ?_) (fun c_1 => ?_)
  · have h := br_F c_1 h
    refine lv_aload_n hx hb dX12_isNoWord_13 rfl (lv_at hl 0 rfl) ?_
    refine m_geti C hM (k := 20) (Or.inr rfl) rfl dX12_isNoWord_14 ?_
    refine lv_if_ne (tgt := 24) hx hb dX12_isNoWord_17 (by decide) (fun c_2 => ?_) (fun c_2 => ?_)
    · have h := br_F c_2 h
      refine lv_iconst (v := (0 : Int32)) hx hb dX12_isNoWord_24 (by decide) ?_
      exact gm_isNoWord_25 C hr hlk  _ _ _ _ _ hM (lv_sub hl [0] rfl) h
    · have h := br_T c_2 h
      refine lv_iconst (v := (2 : Int32)) hx hb dX12_isNoWord_20 (by decide) ?_
      refine lv_goto (tgt := 25) hx hb dX12_isNoWord_21 (by decide) ?_
      exact gm_isNoWord_25 C hr hlk  _ _ _ _ _ hM (lv_sub hl [0] rfl) h
  · have h := br_T c_1 h
    refine lv_iconst (v := (1 : Int32)) hx hb dX12_isNoWord_9 (by decide) ?_
    refine lv_goto (tgt := 25) hx hb dX12_isNoWord_10 (by decide) ?_
    exact gm_isNoWord_25 C hr hlk  _ _ _ _ _ hM (lv_sub hl [0] rfl) h
theorem mwy_isNoWord : mCallV RX12 303 yX12_isNoWord cX12_isNoWord 2 (some .boolean) 1 := ⟨⟨wl_in (i := 2281) (by decide +kernel), wl_in (i := 2283) (by decide +kernel), wl_inp (i := 60) (by decide +kernel), wl_in (i := 16) (by decide +kernel), wl_in (i := 2284) (by decide +kernel)⟩, rfl, by decide, by decide, by decide +kernel⟩
/-! postingsOf(I)I -/
abbrev rmX12_postingsOf : Room := { frames := 1, cells := 0, slots := 0, locals := 22 }
def fm_postingsOf_31 (k_4 : mS → Int32 → Int32 → Int32 → Option (Int32 × mS)) (σ : mS) (x1 : Int32) (x3 : Int32) (s0 : Int32) (s1 : Int32) : Option (Int32 × mS) :=
  k_4 σ x1 (s1 + s0) (x3 + (1 : Int32))
set_option maxHeartbeats 4000000 in
set_option maxRecDepth 100000 in
theorem gm_postingsOf_31 {p : Program} {l : Launch} {e : Env} {s : State} {m : MethodId} {args : Array Value} {below : List Frame} {meth : Method} {c : Code} {D : va_G} {ca : Nat → ClassId} {α : Nat → Nat} {A : Nat → Prop} {o : Int32 × mS} {k_4 : mS → Int32 → Int32 → Int32 → Option (Int32 × mS)} (C : mC p s m args c cX12_postingsOf 4 D ca) (hr : meth.sig.returnType = some .int) (hlk : meth.locks = false) (hk_4 : ∀ (σ : mS) (x1 : Int32) (x2 : Int32) (x3 : Int32) (H : Heap) (locs : List Loc) (ls : Array Slot), mM D ca α A s.heap σ H locs → lv_has ls 4 [(0, .ref (α 0)), (1, .int x1), (2, .int x2), (3, .int x3)] → k_4 σ x1 x2 x3 = some o → mGI p l e rmX12_postingsOf s m args below meth c D ca α A o H locs 4 ls []) : ∀ (σ : mS) (x1 : Int32) (x3 : Int32) (s0 : Int32) (s1 : Int32) (H : Heap) (locs : List Loc) (ls : Array Slot), mM D ca α A s.heap σ H locs → lv_has ls 4 [(0, .ref (α 0)), (1, .int x1), (3, .int x3)] → fm_postingsOf_31 k_4 σ x1 x3 s0 s1 = some o → mGI p l e rmX12_postingsOf s m args below meth c D ca α A o H locs 31 ls [.int s0, .int s1] := by
  have hx := C.1
  have hb := C.2.1
  intro σ x1 x3 s0 s1 H locs ls hM hl h
  unfold fm_postingsOf_31 at h
  refine lv_iadd hx hb dX12_postingsOf_31 ?_
  refine lv_istore_n (lv' := [(2, .int (s1 + s0)), (0, .ref (α 0)), (1, .int x1), (3, .int x3)]) hx hb dX12_postingsOf_32 rfl hl (by decide) rfl (fun ls hl => ?_)
  refine lv_iinc (v := (x3 + (1 : Int32))) (lv' := [(3, .int (x3 + (1 : Int32))), (2, .int (s1 + s0)), (0, .ref (α 0)), (1, .int x1)]) hx hb dX12_postingsOf_33 hl (k := 3) rfl rfl (by decide) rfl (fun ls hl => ?_)
  refine lv_goto (tgt := 4) hx hb dX12_postingsOf_36 (by decide) ?_
  exact hk_4 _ _ _ _ _ _ _ hM (lv_sub hl [2, 3, 1, 0] rfl) h
def fm_postingsOf_4 : Nat → mS → Int32 → Int32 → Int32 → Option (Int32 × mS)
  | 0, _, _, _, _ => none
  | n + 1, σ, x1, x2, x3 =>
    if (σ.1 33) ≤ x3 then
      some (x2, σ)
    else
      if x3 < 0 ∨ 80 ≤ x3.toNatClampNeg then none else
      (fm_has (σ.2.2.2 30 x3.toNatClampNeg) x1).bind fun r_1 =>
      if r_1 = 0 then
        fm_postingsOf_31 (fm_postingsOf_4 n) σ x1 x3 (0 : Int32) x2
      else
        fm_postingsOf_31 (fm_postingsOf_4 n) σ x1 x3 (1 : Int32) x2
set_option maxHeartbeats 4000000 in
set_option maxRecDepth 100000 in
theorem gm_postingsOf_4 {p : Program} {l : Launch} {e : Env} {s : State} {m : MethodId} {args : Array Value} {below : List Frame} {meth : Method} {c : Code} {D : va_G} {ca : Nat → ClassId} {α : Nat → Nat} {A : Nat → Prop} {o : Int32 × mS} (C : mC p s m args c cX12_postingsOf 4 D ca) (hr : meth.sig.returnType = some .int) (hlk : meth.locks = false) : ∀ (n : Nat) (σ : mS) (x1 : Int32) (x2 : Int32) (x3 : Int32) (H : Heap) (locs : List Loc) (ls : Array Slot), mM D ca α A s.heap σ H locs → lv_has ls 4 [(0, .ref (α 0)), (1, .int x1), (2, .int x2), (3, .int x3)] → fm_postingsOf_4 n σ x1 x2 x3 = some o → mGI p l e rmX12_postingsOf s m args below meth c D ca α A o H locs 4 ls [] := by
  have hx := C.1
  have hb := C.2.1
  intro n
  induction n with
  | zero =>
    intro σ x1 x2 x3 H locs ls hM hl h
    cases h
  | succ n ih =>
    intro σ x1 x2 x3 H locs ls hM hl h
    rw [fm_postingsOf_4] at h
    refine lv_iload_n hx hb dX12_postingsOf_4 rfl (lv_at hl 3 rfl) ?_
    refine lv_aload_n hx hb dX12_postingsOf_5 rfl (lv_at hl 0 rfl) ?_
    refine m_geti C hM (k := 33) (Or.inl rfl) rfl dX12_postingsOf_6 ?_
    refine lv_icmp_ge (tgt := 39) hx hb dX12_postingsOf_9 (by decide) (fun c_1 => ?_) (fun c_1 => ?_)
    · have h := br_T c_1 h
      refine lv_iload_n hx hb dX12_postingsOf_39 rfl (lv_at hl 2 rfl) ?_
      exact m_ri C hM hr hlk dX12_postingsOf_40 h
    · have h := br_F c_1 h
      refine lv_iload_n hx hb dX12_postingsOf_12 rfl (lv_at hl 2 rfl) ?_
      refine lv_aload_n hx hb dX12_postingsOf_13 rfl (lv_at hl 0 rfl) ?_
      refine m_geta C hM (k := 30) (by decide) rfl dX12_postingsOf_14 ?_
      refine lv_iload_n hx hb dX12_postingsOf_17 rfl (lv_at hl 3 rfl) ?_
      obtain ⟨c_2, h⟩ := ko_of h
      refine m_lald C hM (k := 30) rfl c_2 dX12_postingsOf_18 ?_
      refine lv_iload_n hx hb dX12_postingsOf_19 rfl (lv_at hl 1 rfl) ?_
      obtain ⟨r_1, hr_1, h⟩ := bd_of h
      refine m_cSi (As := [.long (σ.2.2.2 30 x3.toNatClampNeg), .int x1]) (rest := [.int x2]) C hM (cm_has l D ca α A σ (σ.2.2.2 30 x3.toNatClampNeg) x1 r_1 hr_1) mwy_has ⟨rfl, rfl⟩ ⟨Nat.le_of_ble_eq_true rfl, Nat.le_of_ble_eq_true rfl⟩ rfl rfl (Nat.le_of_ble_eq_true rfl) hl.1 dX12_postingsOf_20 ⟨rfl, rfl⟩ (fun H locs hM => ?_)
      refine lv_if_eq (tgt := 30) hx hb dX12_postingsOf_23 (by decide) (fun c_3 => ?_) (fun c_3 => ?_)
      · have h := br_T c_3 h
        refine lv_iconst (v := (0 : Int32)) hx hb dX12_postingsOf_30 (by decide) ?_
        exact gm_postingsOf_31 C hr hlk ih _ _ _ _ _ _ _ _ hM (lv_sub hl [0, 1, 3] rfl) h
      · have h := br_F c_3 h
        refine lv_iconst (v := (1 : Int32)) hx hb dX12_postingsOf_26 (by decide) ?_
        refine lv_goto (tgt := 31) hx hb dX12_postingsOf_27 (by decide) ?_
        exact gm_postingsOf_31 C hr hlk ih _ _ _ _ _ _ _ _ hM (lv_sub hl [0, 1, 3] rfl) h
def fm_postingsOf (σ : mS) (x1 : Int32) : Option (Int32 × mS) :=
  fm_postingsOf_4 3000 σ x1 (0 : Int32) (0 : Int32)
set_option maxHeartbeats 4000000 in
set_option maxRecDepth 100000 in
theorem cm_postingsOf (l : Launch) (D : va_G) (ca : Nat → ClassId) (α : Nat → Nat) (A : Nat → Prop) (σ : mS) (x1 : Int32) (o : Int32 × mS) (h : fm_postingsOf σ x1 = some o) : mMetI l yX12_postingsOf cX12_postingsOf 4 (some .int) rmX12_postingsOf D ca α A σ [.int x1] o := by
  refine Met.ofW (cc := cX12_postingsOf) (maxL := 4) (ret := some .int) (by decide) rfl ?_
  intro p e s m args below meth c s₁ B hml hv
  obtain ⟨rfl, hP, hK, hD0⟩ := hv
  have C : mC p s m _ c cX12_postingsOf 4 D ca := ⟨B.exec, B.bytes, hml, findClass_of_methodNamed B.named, fun w hw => atoms_spec (ws := mWs yX12_postingsOf cX12_postingsOf 4 (some .int)) B.pre w (List.mem_cons_of_mem _ hw), hK⟩
  have hM : mM D ca α A s.heap σ s.heap [] := ⟨hP, hD0, va_S.rf⟩
  have hr := B.returns
  have hlk := B.notSynchronized
  have hx := C.1
  have hb := C.2.1
  have hl := lv_entry ([.ref (α 0), .int x1]) (n := 4) (Nat.le_of_ble_eq_true rfl)
  rw [lg_entry_eq]
  generalize (lg_sl ([.ref (α 0), .int x1]) ++ List.replicate (4 - (lg_sl ([.ref (α 0), .int x1])).length) Slot.unset).toArray = ls at hl ⊢
  have hl : lv_has ls 4 [(0, .ref (α 0)), (1, .int x1)] := hl
  unfold fm_postingsOf at h
  refine lv_iconst (v := (0 : Int32)) hx hb dX12_postingsOf_0 (by decide) ?_
  refine lv_istore_n (lv' := [(2, .int (0 : Int32)), (0, .ref (α 0)), (1, .int x1)]) hx hb dX12_postingsOf_1 rfl hl (by decide) rfl (fun ls hl => ?_)
  refine lv_iconst (v := (0 : Int32)) hx hb dX12_postingsOf_2 (by decide) ?_
  refine lv_istore_n (lv' := [(3, .int (0 : Int32)), (2, .int (0 : Int32)), (0, .ref (α 0)), (1, .int x1)]) hx hb dX12_postingsOf_3 rfl hl (by decide) rfl (fun ls hl => ?_)
  exact gm_postingsOf_4 C hr hlk  _ _ _ _ _ _ _ _ hM (lv_sub hl [2, 3, 1, 0] rfl) h
theorem mwy_postingsOf : mCallV RX12 306 yX12_postingsOf cX12_postingsOf 4 (some .int) 1 := ⟨⟨wl_in (i := 2297) (by decide +kernel), wl_in (i := 2299) (by decide +kernel), wl_inp (i := 61) (by decide +kernel), wl_in (i := 16) (by decide +kernel), wl_in (i := 2300) (by decide +kernel)⟩, rfl, by decide, by decide, by decide +kernel⟩
/-! isKnown(I)Z -/
abbrev rmX12_isKnown : Room := { frames := 3, cells := 0, slots := 0, locals := 64 }
def fm_isKnown_28 (σ : mS) (s0 : Int32) : Option (Int32 × mS) :=
  if s0 &&& 1 = s0 then some (s0, σ) else none
set_option maxHeartbeats 4000000 in
set_option maxRecDepth 100000 in
theorem gm_isKnown_28 {p : Program} {l : Launch} {e : Env} {s : State} {m : MethodId} {args : Array Value} {below : List Frame} {meth : Method} {c : Code} {D : va_G} {ca : Nat → ClassId} {α : Nat → Nat} {A : Nat → Prop} {o : Int32 × mS} (C : mC p s m args c cX12_isKnown 2 D ca) (hr : meth.sig.returnType = some .boolean) (hlk : meth.locks = false) : ∀ (σ : mS) (s0 : Int32) (H : Heap) (locs : List Loc) (ls : Array Slot), mM D ca α A s.heap σ H locs → lv_has ls 2 [(0, .ref (α 0))] → fm_isKnown_28 σ s0 = some o → mGI p l e rmX12_isKnown s m args below meth c D ca α A o H locs 28 ls [.int s0] := by
  have hx := C.1
  have hb := C.2.1
  intro σ s0 H locs ls hM hl h
  unfold fm_isKnown_28 at h
  exact m_rz C hM hr hlk dX12_isKnown_28 h
def fm_isKnown_27 (σ : mS) : Option (Int32 × mS) :=
  fm_isKnown_28 σ (0 : Int32)
set_option maxHeartbeats 4000000 in
set_option maxRecDepth 100000 in
theorem gm_isKnown_27 {p : Program} {l : Launch} {e : Env} {s : State} {m : MethodId} {args : Array Value} {below : List Frame} {meth : Method} {c : Code} {D : va_G} {ca : Nat → ClassId} {α : Nat → Nat} {A : Nat → Prop} {o : Int32 × mS} (C : mC p s m args c cX12_isKnown 2 D ca) (hr : meth.sig.returnType = some .boolean) (hlk : meth.locks = false) : ∀ (σ : mS) (H : Heap) (locs : List Loc) (ls : Array Slot), mM D ca α A s.heap σ H locs → lv_has ls 2 [(0, .ref (α 0))] → fm_isKnown_27 σ = some o → mGI p l e rmX12_isKnown s m args below meth c D ca α A o H locs 27 ls [] := by
  have hx := C.1
  have hb := C.2.1
  intro σ H locs ls hM hl h
  unfold fm_isKnown_27 at h
  refine lv_iconst (v := (0 : Int32)) hx hb dX12_isKnown_27 (by decide) ?_
  exact gm_isKnown_28 C hr hlk  _ _ _ _ _ hM (lv_sub hl [0] rfl) h
def fm_isKnown (σ : mS) (x1 : Int32) : Option (Int32 × mS) :=
  (fm_isNoWord σ x1).bind fun r_1 =>
  if r_1.1 = 0 then
    (fm_knownAt r_1.2 (r_1.2.1 34)).bind fun r_2 =>
    (fm_has r_2.1 x1).bind fun r_3 =>
    if r_3 = 0 then
      fm_isKnown_27 r_2.2
    else
      fm_isKnown_28 r_2.2 (1 : Int32)
  else
    fm_isKnown_27 r_1.2
set_option maxHeartbeats 4000000 in
set_option maxRecDepth 100000 in
theorem cm_isKnown (l : Launch) (D : va_G) (ca : Nat → ClassId) (α : Nat → Nat) (A : Nat → Prop) (σ : mS) (x1 : Int32) (o : Int32 × mS) (h : fm_isKnown σ x1 = some o) : mMetI l yX12_isKnown cX12_isKnown 2 (some .boolean) rmX12_isKnown D ca α A σ [.int x1] o := by
  refine Met.ofW (cc := cX12_isKnown) (maxL := 2) (ret := some .boolean) (by decide) rfl ?_
  intro p e s m args below meth c s₁ B hml hv
  obtain ⟨rfl, hP, hK, hD0⟩ := hv
  have C : mC p s m _ c cX12_isKnown 2 D ca := ⟨B.exec, B.bytes, hml, findClass_of_methodNamed B.named, fun w hw => atoms_spec (ws := mWs yX12_isKnown cX12_isKnown 2 (some .boolean)) B.pre w (List.mem_cons_of_mem _ hw), hK⟩
  have hM : mM D ca α A s.heap σ s.heap [] := ⟨hP, hD0, va_S.rf⟩
  have hr := B.returns
  have hlk := B.notSynchronized
  have hx := C.1
  have hb := C.2.1
  have hl := lv_entry ([.ref (α 0), .int x1]) (n := 2) (Nat.le_of_ble_eq_true rfl)
  rw [lg_entry_eq]
  generalize (lg_sl ([.ref (α 0), .int x1]) ++ List.replicate (2 - (lg_sl ([.ref (α 0), .int x1])).length) Slot.unset).toArray = ls at hl ⊢
  have hl : lv_has ls 2 [(0, .ref (α 0)), (1, .int x1)] := hl
  unfold fm_isKnown at h
  refine lv_aload_n hx hb dX12_isKnown_0 rfl (lv_at hl 0 rfl) ?_
  refine lv_iload_n hx hb dX12_isKnown_1 rfl (lv_at hl 1 rfl) ?_
  obtain ⟨r_1, hr_1, h⟩ := bd_of h
  refine m_cVi (As := [.int x1]) (rest := []) C hM (cm_isNoWord l D ca α A σ x1 r_1 hr_1) mwy_isNoWord ⟨rfl, rfl⟩ ⟨Nat.le_of_ble_eq_true rfl, Nat.le_of_ble_eq_true rfl⟩ rfl rfl (Nat.le_of_ble_eq_true rfl) hl.1 dX12_isKnown_2 ⟨rfl, rfl⟩ (fun H locs hM => ?_)
  refine lv_if_ne (tgt := 27) hx hb dX12_isKnown_5 (by decide) (fun c_1 => ?_) (fun c_1 => ?_)
  · have h := br_F c_1 h
    exact gm_isKnown_27 C hr hlk  _ _ _ _ hM (lv_sub hl [0] rfl) h
  · have h := br_T c_1 h
    refine lv_aload_n hx hb dX12_isKnown_8 rfl (lv_at hl 0 rfl) ?_
    refine lv_aload_n hx hb dX12_isKnown_9 rfl (lv_at hl 0 rfl) ?_
    refine m_geti C hM (k := 34) (Or.inl rfl) rfl dX12_isKnown_10 ?_
    obtain ⟨r_2, hr_2, h⟩ := bd_of h
    refine m_cVl (As := [.int (r_1.2.1 34)]) (rest := []) C hM (cm_knownAt l D ca α A r_1.2 (r_1.2.1 34) r_2 hr_2) mwy_knownAt ⟨rfl, rfl⟩ ⟨Nat.le_of_ble_eq_true rfl, Nat.le_of_ble_eq_true rfl⟩ rfl rfl (Nat.le_of_ble_eq_true rfl) hl.1 dX12_isKnown_13 ⟨rfl, rfl⟩ (fun H locs hM => ?_)
    refine lv_iload_n hx hb dX12_isKnown_16 rfl (lv_at hl 1 rfl) ?_
    obtain ⟨r_3, hr_3, h⟩ := bd_of h
    refine m_cSi (As := [.long r_2.1, .int x1]) (rest := []) C hM (cm_has l D ca α A r_2.2 r_2.1 x1 r_3 hr_3) mwy_has ⟨rfl, rfl⟩ ⟨Nat.le_of_ble_eq_true rfl, Nat.le_of_ble_eq_true rfl⟩ rfl rfl (Nat.le_of_ble_eq_true rfl) hl.1 dX12_isKnown_17 ⟨rfl, rfl⟩ (fun H locs hM => ?_)
    refine lv_if_eq (tgt := 27) hx hb dX12_isKnown_20 (by decide) (fun c_2 => ?_) (fun c_2 => ?_)
    · have h := br_T c_2 h
      exact gm_isKnown_27 C hr hlk  _ _ _ _ hM (lv_sub hl [0] rfl) h
    · have h := br_F c_2 h
      refine lv_iconst (v := (1 : Int32)) hx hb dX12_isKnown_23 (by decide) ?_
      refine lv_goto (tgt := 28) hx hb dX12_isKnown_24 (by decide) ?_
      exact gm_isKnown_28 C hr hlk  _ _ _ _ _ hM (lv_sub hl [0] rfl) h
/-! known()I -/
abbrev rmX12_known : Room := { frames := 3, cells := 0, slots := 0, locals := 65 }
def fm_known_15 (σ : mS) (s0 : Int32) : Option (Int32 × mS) :=
  some (s0, σ)
set_option maxHeartbeats 4000000 in
set_option maxRecDepth 100000 in
theorem gm_known_15 {p : Program} {l : Launch} {e : Env} {s : State} {m : MethodId} {args : Array Value} {below : List Frame} {meth : Method} {c : Code} {D : va_G} {ca : Nat → ClassId} {α : Nat → Nat} {A : Nat → Prop} {o : Int32 × mS} (C : mC p s m args c cX12_known 1 D ca) (hr : meth.sig.returnType = some .int) (hlk : meth.locks = false) : ∀ (σ : mS) (s0 : Int32) (H : Heap) (locs : List Loc) (ls : Array Slot), mM D ca α A s.heap σ H locs → lv_has ls 1 [(0, .ref (α 0))] → fm_known_15 σ s0 = some o → mGI p l e rmX12_known s m args below meth c D ca α A o H locs 15 ls [.int s0] := by
  have hx := C.1
  have hb := C.2.1
  intro σ s0 H locs ls hM hl h
  unfold fm_known_15 at h
  exact m_ri C hM hr hlk dX12_known_15 h
def fm_known (σ : mS) : Option (Int32 × mS) :=
  (fm_isNotBegun σ).bind fun r_1 =>
  if r_1.1 = 0 then
    (fm_knownMany r_1.2).bind fun r_2 =>
    fm_known_15 r_2.2 r_2.1
  else
    fm_known_15 r_1.2 (0 : Int32)
set_option maxHeartbeats 4000000 in
set_option maxRecDepth 100000 in
theorem cm_known (l : Launch) (D : va_G) (ca : Nat → ClassId) (α : Nat → Nat) (A : Nat → Prop) (σ : mS) (o : Int32 × mS) (h : fm_known σ  = some o) : mMetI l yX12_known cX12_known 1 (some .int) rmX12_known D ca α A σ [] o := by
  refine Met.ofW (cc := cX12_known) (maxL := 1) (ret := some .int) (by decide) rfl ?_
  intro p e s m args below meth c s₁ B hml hv
  obtain ⟨rfl, hP, hK, hD0⟩ := hv
  have C : mC p s m _ c cX12_known 1 D ca := ⟨B.exec, B.bytes, hml, findClass_of_methodNamed B.named, fun w hw => atoms_spec (ws := mWs yX12_known cX12_known 1 (some .int)) B.pre w (List.mem_cons_of_mem _ hw), hK⟩
  have hM : mM D ca α A s.heap σ s.heap [] := ⟨hP, hD0, va_S.rf⟩
  have hr := B.returns
  have hlk := B.notSynchronized
  have hx := C.1
  have hb := C.2.1
  have hl := lv_entry ([.ref (α 0)]) (n := 1) (Nat.le_of_ble_eq_true rfl)
  rw [lg_entry_eq]
  generalize (lg_sl ([.ref (α 0)]) ++ List.replicate (1 - (lg_sl ([.ref (α 0)])).length) Slot.unset).toArray = ls at hl ⊢
  have hl : lv_has ls 1 [(0, .ref (α 0))] := hl
  unfold fm_known at h
  refine lv_aload_n hx hb dX12_known_0 rfl (lv_at hl 0 rfl) ?_
  obtain ⟨r_1, hr_1, h⟩ := bd_of h
  refine m_cVi (As := []) (rest := []) C hM (cm_isNotBegun l D ca α A σ  r_1 hr_1) mwy_isNotBegun ⟨rfl, rfl⟩ ⟨Nat.le_of_ble_eq_true rfl, Nat.le_of_ble_eq_true rfl⟩ rfl rfl (Nat.le_of_ble_eq_true rfl) hl.1 dX12_known_1 ⟨rfl, rfl⟩ (fun H locs hM => ?_)
  refine lv_if_eq (tgt := 11) hx hb dX12_known_4 (by decide) (fun c_1 => ?_) (fun c_1 => ?_)
  · have h := br_T c_1 h
    refine lv_aload_n hx hb dX12_known_11 rfl (lv_at hl 0 rfl) ?_
    obtain ⟨r_2, hr_2, h⟩ := bd_of h
    refine m_cVi (As := []) (rest := []) C hM (cm_knownMany l D ca α A r_1.2  r_2 hr_2) mwy_knownMany ⟨rfl, rfl⟩ ⟨Nat.le_of_ble_eq_true rfl, Nat.le_of_ble_eq_true rfl⟩ rfl rfl (Nat.le_of_ble_eq_true rfl) hl.1 dX12_known_12 ⟨rfl, rfl⟩ (fun H locs hM => ?_)
    exact gm_known_15 C hr hlk  _ _ _ _ _ hM (lv_sub hl [0] rfl) h
  · have h := br_F c_1 h
    refine lv_iconst (v := (0 : Int32)) hx hb dX12_known_7 (by decide) ?_
    refine lv_goto (tgt := 15) hx hb dX12_known_8 (by decide) ?_
    exact gm_known_15 C hr hlk  _ _ _ _ _ hM (lv_sub hl [0] rfl) h
/-! learnt(I)I -/
abbrev rmX12_learnt : Room := { frames := 3, cells := 0, slots := 0, locals := 64 }
def fm_learnt_35 (σ : mS) : Option (Int32 × mS) :=
  some ((0 : Int32), σ)
set_option maxHeartbeats 4000000 in
set_option maxRecDepth 100000 in
theorem gm_learnt_35 {p : Program} {l : Launch} {e : Env} {s : State} {m : MethodId} {args : Array Value} {below : List Frame} {meth : Method} {c : Code} {D : va_G} {ca : Nat → ClassId} {α : Nat → Nat} {A : Nat → Prop} {o : Int32 × mS} (C : mC p s m args c cX12_learnt 4 D ca) (hr : meth.sig.returnType = some .int) (hlk : meth.locks = false) : ∀ (σ : mS) (H : Heap) (locs : List Loc) (ls : Array Slot), mM D ca α A s.heap σ H locs → lv_has ls 4 [(0, .ref (α 0))] → fm_learnt_35 σ = some o → mGI p l e rmX12_learnt s m args below meth c D ca α A o H locs 35 ls [] := by
  have hx := C.1
  have hb := C.2.1
  intro σ H locs ls hM hl h
  unfold fm_learnt_35 at h
  refine lv_iconst (v := (0 : Int32)) hx hb dX12_learnt_35 (by decide) ?_
  exact m_ri C hM hr hlk dX12_learnt_36 h
def fm_learnt_70 (k_47 : mS → Int32 → Int32 → Int32 → Option (Int32 × mS)) (σ : mS) (x1 : Int32) (x3 : Int32) (s0 : Int32) : Option (Int32 × mS) :=
  if x3 < 0 ∨ 80 ≤ x3.toNatClampNeg then none else
  k_47 σ x1 s0 (σ.2.2.1 25 x3.toNatClampNeg)
set_option maxHeartbeats 4000000 in
set_option maxRecDepth 100000 in
theorem gm_learnt_70 {p : Program} {l : Launch} {e : Env} {s : State} {m : MethodId} {args : Array Value} {below : List Frame} {meth : Method} {c : Code} {D : va_G} {ca : Nat → ClassId} {α : Nat → Nat} {A : Nat → Prop} {o : Int32 × mS} {k_47 : mS → Int32 → Int32 → Int32 → Option (Int32 × mS)} (C : mC p s m args c cX12_learnt 4 D ca) (hr : meth.sig.returnType = some .int) (hlk : meth.locks = false) (hk_47 : ∀ (σ : mS) (x1 : Int32) (x2 : Int32) (x3 : Int32) (H : Heap) (locs : List Loc) (ls : Array Slot), mM D ca α A s.heap σ H locs → lv_has ls 4 [(0, .ref (α 0)), (1, .int x1), (2, .int x2), (3, .int x3)] → k_47 σ x1 x2 x3 = some o → mGI p l e rmX12_learnt s m args below meth c D ca α A o H locs 47 ls []) : ∀ (σ : mS) (x1 : Int32) (x3 : Int32) (s0 : Int32) (H : Heap) (locs : List Loc) (ls : Array Slot), mM D ca α A s.heap σ H locs → lv_has ls 4 [(0, .ref (α 0)), (1, .int x1), (3, .int x3)] → fm_learnt_70 k_47 σ x1 x3 s0 = some o → mGI p l e rmX12_learnt s m args below meth c D ca α A o H locs 70 ls [.int s0] := by
  have hx := C.1
  have hb := C.2.1
  intro σ x1 x3 s0 H locs ls hM hl h
  unfold fm_learnt_70 at h
  refine lv_istore_n (lv' := [(2, .int s0), (0, .ref (α 0)), (1, .int x1), (3, .int x3)]) hx hb dX12_learnt_70 rfl hl (by decide) rfl (fun ls hl => ?_)
  refine lv_aload_n hx hb dX12_learnt_71 rfl (lv_at hl 1 rfl) ?_
  refine m_geta C hM (k := 25) (by decide) rfl dX12_learnt_72 ?_
  refine lv_iload_n hx hb dX12_learnt_75 rfl (lv_at hl 3 rfl) ?_
  obtain ⟨c_1, h⟩ := ko_of h
  refine m_iald C hM (k := 25) rfl c_1 dX12_learnt_76 ?_
  refine lv_istore_n (lv' := [(3, .int (σ.2.2.1 25 x3.toNatClampNeg)), (2, .int s0), (0, .ref (α 0)), (1, .int x1)]) hx hb dX12_learnt_77 rfl hl (by decide) rfl (fun ls hl => ?_)
  refine lv_goto (tgt := 47) hx hb dX12_learnt_78 (by decide) ?_
  exact hk_47 _ _ _ _ _ _ _ hM (lv_sub hl [2, 3, 1, 0] rfl) h
def fm_learnt_47 : Nat → mS → Int32 → Int32 → Int32 → Option (Int32 × mS)
  | 0, _, _, _, _ => none
  | n + 1, σ, x1, x2, x3 =>
    if x3 = (-1 : Int32) then
      some (x2, σ)
    else
      if x3 < 0 ∨ 80 ≤ x3.toNatClampNeg then none else
      (fm_has (σ.2.2.2 30 x3.toNatClampNeg) x1).bind fun r_1 =>
      if r_1 = 0 then
        fm_learnt_70 (fm_learnt_47 n) σ x1 x3 x2
      else
        fm_learnt_70 (fm_learnt_47 n) σ x1 x3 x3
set_option maxHeartbeats 4000000 in
set_option maxRecDepth 100000 in
theorem gm_learnt_47 {p : Program} {l : Launch} {e : Env} {s : State} {m : MethodId} {args : Array Value} {below : List Frame} {meth : Method} {c : Code} {D : va_G} {ca : Nat → ClassId} {α : Nat → Nat} {A : Nat → Prop} {o : Int32 × mS} (C : mC p s m args c cX12_learnt 4 D ca) (hr : meth.sig.returnType = some .int) (hlk : meth.locks = false) : ∀ (n : Nat) (σ : mS) (x1 : Int32) (x2 : Int32) (x3 : Int32) (H : Heap) (locs : List Loc) (ls : Array Slot), mM D ca α A s.heap σ H locs → lv_has ls 4 [(0, .ref (α 0)), (1, .int x1), (2, .int x2), (3, .int x3)] → fm_learnt_47 n σ x1 x2 x3 = some o → mGI p l e rmX12_learnt s m args below meth c D ca α A o H locs 47 ls [] := by
  have hx := C.1
  have hb := C.2.1
  intro n
  induction n with
  | zero =>
    intro σ x1 x2 x3 H locs ls hM hl h
    cases h
  | succ n ih =>
    intro σ x1 x2 x3 H locs ls hM hl h
    rw [fm_learnt_47] at h
    refine lv_iload_n hx hb dX12_learnt_47 rfl (lv_at hl 3 rfl) ?_
    refine lv_iconst (v := (-1 : Int32)) hx hb dX12_learnt_48 (by decide) ?_
    refine lv_icmp_eq (tgt := 81) hx hb dX12_learnt_49 (by decide) (fun c_1 => ?_) (fun c_1 => ?_)
    · have h := br_T c_1 h
      refine lv_iload_n hx hb dX12_learnt_81 rfl (lv_at hl 2 rfl) ?_
      exact m_ri C hM hr hlk dX12_learnt_82 h
    · have h := br_F c_1 h
      refine lv_aload_n hx hb dX12_learnt_52 rfl (lv_at hl 0 rfl) ?_
      refine m_geta C hM (k := 30) (by decide) rfl dX12_learnt_53 ?_
      refine lv_iload_n hx hb dX12_learnt_56 rfl (lv_at hl 3 rfl) ?_
      obtain ⟨c_2, h⟩ := ko_of h
      refine m_lald C hM (k := 30) rfl c_2 dX12_learnt_57 ?_
      refine lv_iload_n hx hb dX12_learnt_58 rfl (lv_at hl 1 rfl) ?_
      obtain ⟨r_1, hr_1, h⟩ := bd_of h
      refine m_cSi (As := [.long (σ.2.2.2 30 x3.toNatClampNeg), .int x1]) (rest := []) C hM (cm_has l D ca α A σ (σ.2.2.2 30 x3.toNatClampNeg) x1 r_1 hr_1) mwy_has ⟨rfl, rfl⟩ ⟨Nat.le_of_ble_eq_true rfl, Nat.le_of_ble_eq_true rfl⟩ rfl rfl (Nat.le_of_ble_eq_true rfl) hl.1 dX12_learnt_59 ⟨rfl, rfl⟩ (fun H locs hM => ?_)
      refine lv_if_eq (tgt := 69) hx hb dX12_learnt_62 (by decide) (fun c_3 => ?_) (fun c_3 => ?_)
      · have h := br_T c_3 h
        refine lv_iload_n hx hb dX12_learnt_69 rfl (lv_at hl 2 rfl) ?_
        exact gm_learnt_70 C hr hlk ih _ _ _ _ _ _ _ hM (lv_sub hl [0, 1, 3] rfl) h
      · have h := br_F c_3 h
        refine lv_iload_n hx hb dX12_learnt_65 rfl (lv_at hl 3 rfl) ?_
        refine lv_goto (tgt := 70) hx hb dX12_learnt_66 (by decide) ?_
        exact gm_learnt_70 C hr hlk ih _ _ _ _ _ _ _ hM (lv_sub hl [0, 1, 3] rfl) h
def fm_learnt_29 (σ : mS) (x1 : Int32) (s0 : Int32) : Option (Int32 × mS) :=
  (fm_isWrong σ s0).bind fun r_1 =>
  if r_1.1 = 0 then
    fm_learnt_47 3000 r_1.2 x1 (r_1.2.1 34) (r_1.2.1 34)
  else
    fm_learnt_35 r_1.2
set_option maxHeartbeats 4000000 in
set_option maxRecDepth 100000 in
theorem gm_learnt_29 {p : Program} {l : Launch} {e : Env} {s : State} {m : MethodId} {args : Array Value} {below : List Frame} {meth : Method} {c : Code} {D : va_G} {ca : Nat → ClassId} {α : Nat → Nat} {A : Nat → Prop} {o : Int32 × mS} (C : mC p s m args c cX12_learnt 4 D ca) (hr : meth.sig.returnType = some .int) (hlk : meth.locks = false) : ∀ (σ : mS) (x1 : Int32) (s0 : Int32) (H : Heap) (locs : List Loc) (ls : Array Slot), mM D ca α A s.heap σ H locs → lv_has ls 4 [(0, .ref (α 0)), (1, .int x1)] → fm_learnt_29 σ x1 s0 = some o → mGI p l e rmX12_learnt s m args below meth c D ca α A o H locs 29 ls [.int s0, .ref (α 0)] := by
  have hx := C.1
  have hb := C.2.1
  intro σ x1 s0 H locs ls hM hl h
  unfold fm_learnt_29 at h
  obtain ⟨r_1, hr_1, h⟩ := bd_of h
  refine m_cVi (As := [.int s0]) (rest := []) C hM (cm_isWrong l D ca α A σ s0 r_1 hr_1) mwy_isWrong ⟨rfl, rfl⟩ ⟨Nat.le_of_ble_eq_true rfl, Nat.le_of_ble_eq_true rfl⟩ rfl rfl (Nat.le_of_ble_eq_true rfl) hl.1 dX12_learnt_29 ⟨rfl, rfl⟩ (fun H locs hM => ?_)
  refine lv_if_eq (tgt := 37) hx hb dX12_learnt_32 (by decide) (fun c_1 => ?_) (fun c_1 => ?_)
  · have h := br_T c_1 h
    refine lv_aload_n hx hb dX12_learnt_37 rfl (lv_at hl 0 rfl) ?_
    refine m_geti C hM (k := 34) (Or.inl rfl) rfl dX12_learnt_38 ?_
    refine lv_istore_n (lv' := [(2, .int (r_1.2.1 34)), (0, .ref (α 0)), (1, .int x1)]) hx hb dX12_learnt_41 rfl hl (by decide) rfl (fun ls hl => ?_)
    refine lv_aload_n hx hb dX12_learnt_42 rfl (lv_at hl 1 rfl) ?_
    refine m_geti C hM (k := 34) (Or.inl rfl) rfl dX12_learnt_43 ?_
    refine lv_istore_n (lv' := [(3, .int (r_1.2.1 34)), (2, .int (r_1.2.1 34)), (0, .ref (α 0)), (1, .int x1)]) hx hb dX12_learnt_46 rfl hl (by decide) rfl (fun ls hl => ?_)
    exact gm_learnt_47 C hr hlk  _ _ _ _ _ _ _ _ hM (lv_sub hl [2, 3, 1, 0] rfl) h
  · have h := br_F c_1 h
    exact gm_learnt_35 C hr hlk  _ _ _ _ hM (lv_sub hl [0] rfl) h
def fm_learnt (σ : mS) (x1 : Int32) : Option (Int32 × mS) :=
  (fm_isNoWord σ x1).bind fun r_1 =>
  if r_1.1 = 0 then
    (fm_knownAt r_1.2 (r_1.2.1 34)).bind fun r_2 =>
    (fm_has r_2.1 x1).bind fun r_3 =>
    if r_3 = 0 then
      fm_learnt_29 r_2.2 x1 (3 : Int32)
    else
      fm_learnt_29 r_2.2 x1 (0 : Int32)
  else
    fm_learnt_35 r_1.2
set_option maxHeartbeats 4000000 in
set_option maxRecDepth 100000 in
theorem cm_learnt (l : Launch) (D : va_G) (ca : Nat → ClassId) (α : Nat → Nat) (A : Nat → Prop) (σ : mS) (x1 : Int32) (o : Int32 × mS) (h : fm_learnt σ x1 = some o) : mMetI l yX12_learnt cX12_learnt 4 (some .int) rmX12_learnt D ca α A σ [.int x1] o := by
  refine Met.ofW (cc := cX12_learnt) (maxL := 4) (ret := some .int) (by decide) rfl ?_
  intro p e s m args below meth c s₁ B hml hv
  obtain ⟨rfl, hP, hK, hD0⟩ := hv
  have C : mC p s m _ c cX12_learnt 4 D ca := ⟨B.exec, B.bytes, hml, findClass_of_methodNamed B.named, fun w hw => atoms_spec (ws := mWs yX12_learnt cX12_learnt 4 (some .int)) B.pre w (List.mem_cons_of_mem _ hw), hK⟩
  have hM : mM D ca α A s.heap σ s.heap [] := ⟨hP, hD0, va_S.rf⟩
  have hr := B.returns
  have hlk := B.notSynchronized
  have hx := C.1
  have hb := C.2.1
  have hl := lv_entry ([.ref (α 0), .int x1]) (n := 4) (Nat.le_of_ble_eq_true rfl)
  rw [lg_entry_eq]
  generalize (lg_sl ([.ref (α 0), .int x1]) ++ List.replicate (4 - (lg_sl ([.ref (α 0), .int x1])).length) Slot.unset).toArray = ls at hl ⊢
  have hl : lv_has ls 4 [(0, .ref (α 0)), (1, .int x1)] := hl
  unfold fm_learnt at h
  refine lv_aload_n hx hb dX12_learnt_0 rfl (lv_at hl 0 rfl) ?_
  refine lv_iload_n hx hb dX12_learnt_1 rfl (lv_at hl 1 rfl) ?_
  obtain ⟨r_1, hr_1, h⟩ := bd_of h
  refine m_cVi (As := [.int x1]) (rest := []) C hM (cm_isNoWord l D ca α A σ x1 r_1 hr_1) mwy_isNoWord ⟨rfl, rfl⟩ ⟨Nat.le_of_ble_eq_true rfl, Nat.le_of_ble_eq_true rfl⟩ rfl rfl (Nat.le_of_ble_eq_true rfl) hl.1 dX12_learnt_2 ⟨rfl, rfl⟩ (fun H locs hM => ?_)
  refine lv_if_ne (tgt := 35) hx hb dX12_learnt_5 (by decide) (fun c_1 => ?_) (fun c_1 => ?_)
  · have h := br_F c_1 h
    exact gm_learnt_35 C hr hlk  _ _ _ _ hM (lv_sub hl [0] rfl) h
  · have h := br_T c_1 h
    refine lv_aload_n hx hb dX12_learnt_8 rfl (lv_at hl 0 rfl) ?_
    refine lv_aload_n hx hb dX12_learnt_9 rfl (lv_at hl 0 rfl) ?_
    refine lv_aload_n hx hb dX12_learnt_10 rfl (lv_at hl 0 rfl) ?_
    refine m_geti C hM (k := 34) (Or.inl rfl) rfl dX12_learnt_11 ?_
    obtain ⟨r_2, hr_2, h⟩ := bd_of h
    refine m_cVl (As := [.int (r_1.2.1 34)]) (rest := [.ref (α 0)]) C hM (cm_knownAt l D ca α A r_1.2 (r_1.2.1 34) r_2 hr_2) mwy_knownAt ⟨rfl, rfl⟩ ⟨Nat.le_of_ble_eq_true rfl, Nat.le_of_ble_eq_true rfl⟩ rfl rfl (Nat.le_of_ble_eq_true rfl) hl.1 dX12_learnt_14 ⟨rfl, rfl⟩ (fun H locs hM => ?_)
    refine lv_iload_n hx hb dX12_learnt_17 rfl (lv_at hl 1 rfl) ?_
    obtain ⟨r_3, hr_3, h⟩ := bd_of h
    refine m_cSi (As := [.long r_2.1, .int x1]) (rest := [.ref (α 0)]) C hM (cm_has l D ca α A r_2.2 r_2.1 x1 r_3 hr_3) mwy_has ⟨rfl, rfl⟩ ⟨Nat.le_of_ble_eq_true rfl, Nat.le_of_ble_eq_true rfl⟩ rfl rfl (Nat.le_of_ble_eq_true rfl) hl.1 dX12_learnt_18 ⟨rfl, rfl⟩ (fun H locs hM => ?_)
    refine lv_if_ne (tgt := 28) hx hb dX12_learnt_21 (by decide) (fun c_2 => ?_) (fun c_2 => ?_)
    · have h := br_F c_2 h
      refine lv_iconst (v := (0 : Int32)) hx hb dX12_learnt_28 (by decide) ?_
      exact gm_learnt_29 C hr hlk  _ _ _ _ _ _ hM (lv_sub hl [0, 1] rfl) h
    · have h := br_T c_2 h
      refine lv_iconst (v := (3 : Int32)) hx hb dX12_learnt_24 (by decide) ?_
      refine lv_goto (tgt := 29) hx hb dX12_learnt_25 (by decide) ?_
      exact gm_learnt_29 C hr hlk  _ _ _ _ _ _ hM (lv_sub hl [0, 1] rfl) h
/-! postings(I)I -/
abbrev rmX12_postings : Room := { frames := 2, cells := 0, slots := 0, locals := 45 }
def fm_postings_29 (σ : mS) (s0 : Int32) : Option (Int32 × mS) :=
  some (s0, σ)
set_option maxHeartbeats 4000000 in
set_option maxRecDepth 100000 in
theorem gm_postings_29 {p : Program} {l : Launch} {e : Env} {s : State} {m : MethodId} {args : Array Value} {below : List Frame} {meth : Method} {c : Code} {D : va_G} {ca : Nat → ClassId} {α : Nat → Nat} {A : Nat → Prop} {o : Int32 × mS} (C : mC p s m args c cX12_postings 2 D ca) (hr : meth.sig.returnType = some .int) (hlk : meth.locks = false) : ∀ (σ : mS) (s0 : Int32) (H : Heap) (locs : List Loc) (ls : Array Slot), mM D ca α A s.heap σ H locs → lv_has ls 2 [(0, .ref (α 0))] → fm_postings_29 σ s0 = some o → mGI p l e rmX12_postings s m args below meth c D ca α A o H locs 29 ls [.int s0] := by
  have hx := C.1
  have hb := C.2.1
  intro σ s0 H locs ls hM hl h
  unfold fm_postings_29 at h
  exact m_ri C hM hr hlk dX12_postings_29 h
def fm_postings_14 (σ : mS) (x1 : Int32) (s0 : Int32) : Option (Int32 × mS) :=
  (fm_isWrong σ s0).bind fun r_1 =>
  if r_1.1 = 0 then
    (fm_postingsOf r_1.2 x1).bind fun r_2 =>
    fm_postings_29 r_2.2 r_2.1
  else
    fm_postings_29 r_1.2 (0 : Int32)
set_option maxHeartbeats 4000000 in
set_option maxRecDepth 100000 in
theorem gm_postings_14 {p : Program} {l : Launch} {e : Env} {s : State} {m : MethodId} {args : Array Value} {below : List Frame} {meth : Method} {c : Code} {D : va_G} {ca : Nat → ClassId} {α : Nat → Nat} {A : Nat → Prop} {o : Int32 × mS} (C : mC p s m args c cX12_postings 2 D ca) (hr : meth.sig.returnType = some .int) (hlk : meth.locks = false) : ∀ (σ : mS) (x1 : Int32) (s0 : Int32) (H : Heap) (locs : List Loc) (ls : Array Slot), mM D ca α A s.heap σ H locs → lv_has ls 2 [(0, .ref (α 0)), (1, .int x1)] → fm_postings_14 σ x1 s0 = some o → mGI p l e rmX12_postings s m args below meth c D ca α A o H locs 14 ls [.int s0, .ref (α 0)] := by
  have hx := C.1
  have hb := C.2.1
  intro σ x1 s0 H locs ls hM hl h
  unfold fm_postings_14 at h
  obtain ⟨r_1, hr_1, h⟩ := bd_of h
  refine m_cVi (As := [.int s0]) (rest := []) C hM (cm_isWrong l D ca α A σ s0 r_1 hr_1) mwy_isWrong ⟨rfl, rfl⟩ ⟨Nat.le_of_ble_eq_true rfl, Nat.le_of_ble_eq_true rfl⟩ rfl rfl (Nat.le_of_ble_eq_true rfl) hl.1 dX12_postings_14 ⟨rfl, rfl⟩ (fun H locs hM => ?_)
  refine lv_if_eq (tgt := 24) hx hb dX12_postings_17 (by decide) (fun c_1 => ?_) (fun c_1 => ?_)
  · have h := br_T c_1 h
    refine lv_aload_n hx hb dX12_postings_24 rfl (lv_at hl 0 rfl) ?_
    refine lv_iload_n hx hb dX12_postings_25 rfl (lv_at hl 1 rfl) ?_
    obtain ⟨r_2, hr_2, h⟩ := bd_of h
    refine m_cVi (As := [.int x1]) (rest := []) C hM (cm_postingsOf l D ca α A r_1.2 x1 r_2 hr_2) mwy_postingsOf ⟨rfl, rfl⟩ ⟨Nat.le_of_ble_eq_true rfl, Nat.le_of_ble_eq_true rfl⟩ rfl rfl (Nat.le_of_ble_eq_true rfl) hl.1 dX12_postings_26 ⟨rfl, rfl⟩ (fun H locs hM => ?_)
    exact gm_postings_29 C hr hlk  _ _ _ _ _ hM (lv_sub hl [0] rfl) h
  · have h := br_F c_1 h
    refine lv_iconst (v := (0 : Int32)) hx hb dX12_postings_20 (by decide) ?_
    refine lv_goto (tgt := 29) hx hb dX12_postings_21 (by decide) ?_
    exact gm_postings_29 C hr hlk  _ _ _ _ _ hM (lv_sub hl [0] rfl) h
def fm_postings (σ : mS) (x1 : Int32) : Option (Int32 × mS) :=
  (fm_isWord σ x1).bind fun r_1 =>
  if r_1.1 = 0 then
    fm_postings_14 r_1.2 x1 (1 : Int32)
  else
    fm_postings_14 r_1.2 x1 (0 : Int32)
set_option maxHeartbeats 4000000 in
set_option maxRecDepth 100000 in
theorem cm_postings (l : Launch) (D : va_G) (ca : Nat → ClassId) (α : Nat → Nat) (A : Nat → Prop) (σ : mS) (x1 : Int32) (o : Int32 × mS) (h : fm_postings σ x1 = some o) : mMetI l yX12_postings cX12_postings 2 (some .int) rmX12_postings D ca α A σ [.int x1] o := by
  refine Met.ofW (cc := cX12_postings) (maxL := 2) (ret := some .int) (by decide) rfl ?_
  intro p e s m args below meth c s₁ B hml hv
  obtain ⟨rfl, hP, hK, hD0⟩ := hv
  have C : mC p s m _ c cX12_postings 2 D ca := ⟨B.exec, B.bytes, hml, findClass_of_methodNamed B.named, fun w hw => atoms_spec (ws := mWs yX12_postings cX12_postings 2 (some .int)) B.pre w (List.mem_cons_of_mem _ hw), hK⟩
  have hM : mM D ca α A s.heap σ s.heap [] := ⟨hP, hD0, va_S.rf⟩
  have hr := B.returns
  have hlk := B.notSynchronized
  have hx := C.1
  have hb := C.2.1
  have hl := lv_entry ([.ref (α 0), .int x1]) (n := 2) (Nat.le_of_ble_eq_true rfl)
  rw [lg_entry_eq]
  generalize (lg_sl ([.ref (α 0), .int x1]) ++ List.replicate (2 - (lg_sl ([.ref (α 0), .int x1])).length) Slot.unset).toArray = ls at hl ⊢
  have hl : lv_has ls 2 [(0, .ref (α 0)), (1, .int x1)] := hl
  unfold fm_postings at h
  refine lv_aload_n hx hb dX12_postings_0 rfl (lv_at hl 0 rfl) ?_
  refine lv_aload_n hx hb dX12_postings_1 rfl (lv_at hl 0 rfl) ?_
  refine lv_iload_n hx hb dX12_postings_2 rfl (lv_at hl 1 rfl) ?_
  obtain ⟨r_1, hr_1, h⟩ := bd_of h
  refine m_cVi (As := [.int x1]) (rest := [.ref (α 0)]) C hM (cm_isWord l D ca α A σ x1 r_1 hr_1) mwy_isWord ⟨rfl, rfl⟩ ⟨Nat.le_of_ble_eq_true rfl, Nat.le_of_ble_eq_true rfl⟩ rfl rfl (Nat.le_of_ble_eq_true rfl) hl.1 dX12_postings_3 ⟨rfl, rfl⟩ (fun H locs hM => ?_)
  refine lv_if_eq (tgt := 13) hx hb dX12_postings_6 (by decide) (fun c_1 => ?_) (fun c_1 => ?_)
  · have h := br_T c_1 h
    refine lv_iconst (v := (1 : Int32)) hx hb dX12_postings_13 (by decide) ?_
    exact gm_postings_14 C hr hlk  _ _ _ _ _ _ hM (lv_sub hl [0, 1] rfl) h
  · have h := br_F c_1 h
    refine lv_iconst (v := (0 : Int32)) hx hb dX12_postings_9 (by decide) ?_
    refine lv_goto (tgt := 14) hx hb dX12_postings_10 (by decide) ?_
    exact gm_postings_14 C hr hlk  _ _ _ _ _ _ hM (lv_sub hl [0, 1] rfl) h
/-! posting(II)I -/
abbrev rmX12_posting : Room := { frames := 2, cells := 0, slots := 0, locals := 43 }
def fm_posting_67 (k_27 : mS → Int32 → Int32 → Int32 → Int32 → Option (Int32 × mS)) (σ : mS) (x1 : Int32) (x2 : Int32) (x3 : Int32) (x4 : Int32) : Option (Int32 × mS) :=
  k_27 σ x1 x2 x3 (x4 + (1 : Int32))
set_option maxHeartbeats 4000000 in
set_option maxRecDepth 100000 in
theorem gm_posting_67 {p : Program} {l : Launch} {e : Env} {s : State} {m : MethodId} {args : Array Value} {below : List Frame} {meth : Method} {c : Code} {D : va_G} {ca : Nat → ClassId} {α : Nat → Nat} {A : Nat → Prop} {o : Int32 × mS} {k_27 : mS → Int32 → Int32 → Int32 → Int32 → Option (Int32 × mS)} (C : mC p s m args c cX12_posting 5 D ca) (hr : meth.sig.returnType = some .int) (hlk : meth.locks = false) (hk_27 : ∀ (σ : mS) (x1 : Int32) (x2 : Int32) (x3 : Int32) (x4 : Int32) (H : Heap) (locs : List Loc) (ls : Array Slot), mM D ca α A s.heap σ H locs → lv_has ls 5 [(0, .ref (α 0)), (1, .int x1), (2, .int x2), (3, .int x3), (4, .int x4)] → k_27 σ x1 x2 x3 x4 = some o → mGI p l e rmX12_posting s m args below meth c D ca α A o H locs 27 ls []) : ∀ (σ : mS) (x1 : Int32) (x2 : Int32) (x3 : Int32) (x4 : Int32) (H : Heap) (locs : List Loc) (ls : Array Slot), mM D ca α A s.heap σ H locs → lv_has ls 5 [(0, .ref (α 0)), (1, .int x1), (2, .int x2), (3, .int x3), (4, .int x4)] → fm_posting_67 k_27 σ x1 x2 x3 x4 = some o → mGI p l e rmX12_posting s m args below meth c D ca α A o H locs 67 ls [] := by
  have hx := C.1
  have hb := C.2.1
  intro σ x1 x2 x3 x4 H locs ls hM hl h
  unfold fm_posting_67 at h
  refine lv_iinc (v := (x4 + (1 : Int32))) (lv' := [(4, .int (x4 + (1 : Int32))), (0, .ref (α 0)), (1, .int x1), (2, .int x2), (3, .int x3)]) hx hb dX12_posting_67 hl (k := 4) rfl rfl (by decide) rfl (fun ls hl => ?_)
  refine lv_goto (tgt := 27) hx hb dX12_posting_70 (by decide) ?_
  exact hk_27 _ _ _ _ _ _ _ _ hM (lv_sub hl [1, 2, 3, 4, 0] rfl) h
def fm_posting_73 (σ : mS) : Option (Int32 × mS) :=
  some ((0 : Int32), (mI σ 0 (2 : Int32)))
set_option maxHeartbeats 4000000 in
set_option maxRecDepth 100000 in
theorem gm_posting_73 {p : Program} {l : Launch} {e : Env} {s : State} {m : MethodId} {args : Array Value} {below : List Frame} {meth : Method} {c : Code} {D : va_G} {ca : Nat → ClassId} {α : Nat → Nat} {A : Nat → Prop} {o : Int32 × mS} (C : mC p s m args c cX12_posting 5 D ca) (hr : meth.sig.returnType = some .int) (hlk : meth.locks = false) : ∀ (σ : mS) (H : Heap) (locs : List Loc) (ls : Array Slot), mM D ca α A s.heap σ H locs → lv_has ls 5 [(0, .ref (α 0))] → fm_posting_73 σ = some o → mGI p l e rmX12_posting s m args below meth c D ca α A o H locs 73 ls [] := by
  have hx := C.1
  have hb := C.2.1
  intro σ H locs ls hM hl h
  unfold fm_posting_73 at h
  refine lv_aload_n hx hb dX12_posting_73 rfl (lv_at hl 0 rfl) ?_
  refine lv_iconst (v := (2 : Int32)) hx hb dX12_posting_74 (by decide) ?_
  refine m_puti C hM (k := 0) rfl rfl dX12_posting_75 (fun H locs hM => ?_)
  refine lv_iconst (v := (0 : Int32)) hx hb dX12_posting_78 (by decide) ?_
  exact m_ri C hM hr hlk dX12_posting_79 h
def fm_posting_27 : Nat → mS → Int32 → Int32 → Int32 → Int32 → Option (Int32 × mS)
  | 0, _, _, _, _, _ => none
  | n + 1, σ, x1, x2, x3, x4 =>
    if (σ.1 33) ≤ x4 then
      fm_posting_73 σ
    else
      if x2 < 0 then
        fm_posting_73 σ
      else
        if x4 < 0 ∨ 80 ≤ x4.toNatClampNeg then none else
        (fm_has (σ.2.2.2 30 x4.toNatClampNeg) x1).bind fun r_1 =>
        if r_1 = 0 then
          fm_posting_67 (fm_posting_27 n) σ x1 x2 x3 x4
        else
          if x3 = 0 then
            some (x4, σ)
          else
            fm_posting_67 (fm_posting_27 n) σ x1 x2 (x3 + (-1 : Int32)) x4
set_option maxHeartbeats 4000000 in
set_option maxRecDepth 100000 in
theorem gm_posting_27 {p : Program} {l : Launch} {e : Env} {s : State} {m : MethodId} {args : Array Value} {below : List Frame} {meth : Method} {c : Code} {D : va_G} {ca : Nat → ClassId} {α : Nat → Nat} {A : Nat → Prop} {o : Int32 × mS} (C : mC p s m args c cX12_posting 5 D ca) (hr : meth.sig.returnType = some .int) (hlk : meth.locks = false) : ∀ (n : Nat) (σ : mS) (x1 : Int32) (x2 : Int32) (x3 : Int32) (x4 : Int32) (H : Heap) (locs : List Loc) (ls : Array Slot), mM D ca α A s.heap σ H locs → lv_has ls 5 [(0, .ref (α 0)), (1, .int x1), (2, .int x2), (3, .int x3), (4, .int x4)] → fm_posting_27 n σ x1 x2 x3 x4 = some o → mGI p l e rmX12_posting s m args below meth c D ca α A o H locs 27 ls [] := by
  have hx := C.1
  have hb := C.2.1
  intro n
  induction n with
  | zero =>
    intro σ x1 x2 x3 x4 H locs ls hM hl h
    cases h
  | succ n ih =>
    intro σ x1 x2 x3 x4 H locs ls hM hl h
    rw [fm_posting_27] at h
    refine lv_iload hx hb dX12_posting_27 (lv_at hl 4 rfl) ?_
    refine lv_aload_n hx hb dX12_posting_29 rfl (lv_at hl 0 rfl) ?_
    refine m_geti C hM (k := 33) (Or.inl rfl) rfl dX12_posting_30 ?_
    refine lv_icmp_ge (tgt := 73) hx hb dX12_posting_33 (by decide) (fun c_1 => ?_) (fun c_1 => ?_)
    · have h := br_T c_1 h
      exact gm_posting_73 C hr hlk  _ _ _ _ hM (lv_sub hl [0] rfl) h
    · have h := br_F c_1 h
      refine lv_iload_n hx hb dX12_posting_36 rfl (lv_at hl 2 rfl) ?_
      refine lv_if_lt (tgt := 73) hx hb dX12_posting_37 (by decide) (fun c_2 => ?_) (fun c_2 => ?_)
      · have h := br_T c_2 h
        exact gm_posting_73 C hr hlk  _ _ _ _ hM (lv_sub hl [0] rfl) h
      · have h := br_F c_2 h
        refine lv_aload_n hx hb dX12_posting_40 rfl (lv_at hl 0 rfl) ?_
        refine m_geta C hM (k := 30) (by decide) rfl dX12_posting_41 ?_
        refine lv_iload hx hb dX12_posting_44 (lv_at hl 4 rfl) ?_
        obtain ⟨c_3, h⟩ := ko_of h
        refine m_lald C hM (k := 30) rfl c_3 dX12_posting_46 ?_
        refine lv_iload_n hx hb dX12_posting_47 rfl (lv_at hl 1 rfl) ?_
        obtain ⟨r_1, hr_1, h⟩ := bd_of h
        refine m_cSi (As := [.long (σ.2.2.2 30 x4.toNatClampNeg), .int x1]) (rest := []) C hM (cm_has l D ca α A σ (σ.2.2.2 30 x4.toNatClampNeg) x1 r_1 hr_1) mwy_has ⟨rfl, rfl⟩ ⟨Nat.le_of_ble_eq_true rfl, Nat.le_of_ble_eq_true rfl⟩ rfl rfl (Nat.le_of_ble_eq_true rfl) hl.1 dX12_posting_48 ⟨rfl, rfl⟩ (fun H locs hM => ?_)
        refine lv_if_ne (tgt := 57) hx hb dX12_posting_51 (by decide) (fun c_4 => ?_) (fun c_4 => ?_)
        · have h := br_F c_4 h
          refine lv_iload_n hx hb dX12_posting_57 rfl (lv_at hl 3 rfl) ?_
          refine lv_if_ne (tgt := 64) hx hb dX12_posting_58 (by decide) (fun c_5 => ?_) (fun c_5 => ?_)
          · have h := br_F c_5 h
            refine lv_iinc (v := (x3 + (-1 : Int32))) (lv' := [(3, .int (x3 + (-1 : Int32))), (0, .ref (α 0)), (1, .int x1), (2, .int x2), (4, .int x4)]) hx hb dX12_posting_64 hl (k := 3) rfl rfl (by decide) rfl (fun ls hl => ?_)
            exact gm_posting_67 C hr hlk ih _ _ _ _ _ _ _ _ hM (lv_sub hl [1, 2, 3, 0, 4] rfl) h
          · have h := br_T c_5 h
            refine lv_iload hx hb dX12_posting_61 (lv_at hl 4 rfl) ?_
            exact m_ri C hM hr hlk dX12_posting_63 h
        · have h := br_T c_4 h
          refine lv_goto (tgt := 67) hx hb dX12_posting_54 (by decide) ?_
          exact gm_posting_67 C hr hlk ih _ _ _ _ _ _ _ _ hM (lv_sub hl [0, 1, 2, 3, 4] rfl) h
def fm_posting_14 (σ : mS) (x1 : Int32) (x2 : Int32) (s0 : Int32) : Option (Int32 × mS) :=
  (fm_isWrong σ s0).bind fun r_1 =>
  if r_1.1 = 0 then
    fm_posting_27 3000 r_1.2 x1 x2 x2 (0 : Int32)
  else
    some ((0 : Int32), r_1.2)
set_option maxHeartbeats 4000000 in
set_option maxRecDepth 100000 in
theorem gm_posting_14 {p : Program} {l : Launch} {e : Env} {s : State} {m : MethodId} {args : Array Value} {below : List Frame} {meth : Method} {c : Code} {D : va_G} {ca : Nat → ClassId} {α : Nat → Nat} {A : Nat → Prop} {o : Int32 × mS} (C : mC p s m args c cX12_posting 5 D ca) (hr : meth.sig.returnType = some .int) (hlk : meth.locks = false) : ∀ (σ : mS) (x1 : Int32) (x2 : Int32) (s0 : Int32) (H : Heap) (locs : List Loc) (ls : Array Slot), mM D ca α A s.heap σ H locs → lv_has ls 5 [(0, .ref (α 0)), (1, .int x1), (2, .int x2)] → fm_posting_14 σ x1 x2 s0 = some o → mGI p l e rmX12_posting s m args below meth c D ca α A o H locs 14 ls [.int s0, .ref (α 0)] := by
  have hx := C.1
  have hb := C.2.1
  intro σ x1 x2 s0 H locs ls hM hl h
  unfold fm_posting_14 at h
  obtain ⟨r_1, hr_1, h⟩ := bd_of h
  refine m_cVi (As := [.int s0]) (rest := []) C hM (cm_isWrong l D ca α A σ s0 r_1 hr_1) mwy_isWrong ⟨rfl, rfl⟩ ⟨Nat.le_of_ble_eq_true rfl, Nat.le_of_ble_eq_true rfl⟩ rfl rfl (Nat.le_of_ble_eq_true rfl) hl.1 dX12_posting_14 ⟨rfl, rfl⟩ (fun H locs hM => ?_)
  refine lv_if_eq (tgt := 22) hx hb dX12_posting_17 (by decide) (fun c_1 => ?_) (fun c_1 => ?_)
  · have h := br_T c_1 h
    refine lv_iload_n hx hb dX12_posting_22 rfl (lv_at hl 2 rfl) ?_
    refine lv_istore_n (lv' := [(3, .int x2), (0, .ref (α 0)), (1, .int x1), (2, .int x2)]) hx hb dX12_posting_23 rfl hl (by decide) rfl (fun ls hl => ?_)
    refine lv_iconst (v := (0 : Int32)) hx hb dX12_posting_24 (by decide) ?_
    refine lv_istore (lv' := [(4, .int (0 : Int32)), (3, .int x2), (0, .ref (α 0)), (1, .int x1), (2, .int x2)]) hx hb dX12_posting_25 hl (by decide) rfl (fun ls hl => ?_)
    exact gm_posting_27 C hr hlk  _ _ _ _ _ _ _ _ _ hM (lv_sub hl [2, 3, 4, 1, 0] rfl) h
  · have h := br_F c_1 h
    refine lv_iconst (v := (0 : Int32)) hx hb dX12_posting_20 (by decide) ?_
    exact m_ri C hM hr hlk dX12_posting_21 h
def fm_posting (σ : mS) (x1 : Int32) (x2 : Int32) : Option (Int32 × mS) :=
  (fm_isWord σ x1).bind fun r_1 =>
  if r_1.1 = 0 then
    fm_posting_14 r_1.2 x1 x2 (1 : Int32)
  else
    fm_posting_14 r_1.2 x1 x2 (0 : Int32)
set_option maxHeartbeats 4000000 in
set_option maxRecDepth 100000 in
theorem cm_posting (l : Launch) (D : va_G) (ca : Nat → ClassId) (α : Nat → Nat) (A : Nat → Prop) (σ : mS) (x1 : Int32) (x2 : Int32) (o : Int32 × mS) (h : fm_posting σ x1 x2 = some o) : mMetI l yX12_posting cX12_posting 5 (some .int) rmX12_posting D ca α A σ [.int x1, .int x2] o := by
  refine Met.ofW (cc := cX12_posting) (maxL := 5) (ret := some .int) (by decide) rfl ?_
  intro p e s m args below meth c s₁ B hml hv
  obtain ⟨rfl, hP, hK, hD0⟩ := hv
  have C : mC p s m _ c cX12_posting 5 D ca := ⟨B.exec, B.bytes, hml, findClass_of_methodNamed B.named, fun w hw => atoms_spec (ws := mWs yX12_posting cX12_posting 5 (some .int)) B.pre w (List.mem_cons_of_mem _ hw), hK⟩
  have hM : mM D ca α A s.heap σ s.heap [] := ⟨hP, hD0, va_S.rf⟩
  have hr := B.returns
  have hlk := B.notSynchronized
  have hx := C.1
  have hb := C.2.1
  have hl := lv_entry ([.ref (α 0), .int x1, .int x2]) (n := 5) (Nat.le_of_ble_eq_true rfl)
  rw [lg_entry_eq]
  generalize (lg_sl ([.ref (α 0), .int x1, .int x2]) ++ List.replicate (5 - (lg_sl ([.ref (α 0), .int x1, .int x2])).length) Slot.unset).toArray = ls at hl ⊢
  have hl : lv_has ls 5 [(0, .ref (α 0)), (1, .int x1), (2, .int x2)] := hl
  unfold fm_posting at h
  refine lv_aload_n hx hb dX12_posting_0 rfl (lv_at hl 0 rfl) ?_
  refine lv_aload_n hx hb dX12_posting_1 rfl (lv_at hl 0 rfl) ?_
  refine lv_iload_n hx hb dX12_posting_2 rfl (lv_at hl 1 rfl) ?_
  obtain ⟨r_1, hr_1, h⟩ := bd_of h
  refine m_cVi (As := [.int x1]) (rest := [.ref (α 0)]) C hM (cm_isWord l D ca α A σ x1 r_1 hr_1) mwy_isWord ⟨rfl, rfl⟩ ⟨Nat.le_of_ble_eq_true rfl, Nat.le_of_ble_eq_true rfl⟩ rfl rfl (Nat.le_of_ble_eq_true rfl) hl.1 dX12_posting_3 ⟨rfl, rfl⟩ (fun H locs hM => ?_)
  refine lv_if_eq (tgt := 13) hx hb dX12_posting_6 (by decide) (fun c_1 => ?_) (fun c_1 => ?_)
  · have h := br_T c_1 h
    refine lv_iconst (v := (1 : Int32)) hx hb dX12_posting_13 (by decide) ?_
    exact gm_posting_14 C hr hlk  _ _ _ _ _ _ _ hM (lv_sub hl [0, 1, 2] rfl) h
  · have h := br_F c_1 h
    refine lv_iconst (v := (0 : Int32)) hx hb dX12_posting_9 (by decide) ?_
    refine lv_goto (tgt := 14) hx hb dX12_posting_10 (by decide) ?_
    exact gm_posting_14 C hr hlk  _ _ _ _ _ _ _ hM (lv_sub hl [0, 1, 2] rfl) h
