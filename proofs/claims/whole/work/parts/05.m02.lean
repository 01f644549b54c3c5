/-! The reference's methods: what each makes of the state (fm_..), as the bytecode has it; and that it does (cm_..). -/

/-! lock(ICI)I -/
abbrev rmX12_lock : Room := { frames := 2, cells := 0, slots := 0, locals := 43 }
def fm_lock_81 (σ : mS) (x3 : Int32) (x4 : Int32) (s0 : Int32) : Option (Int32 × mS) :=
  (fm_isWrong σ s0).bind fun r_1 =>
  if r_1.1 = 0 then
    if x4 < 0 ∨ 72 ≤ x4.toNatClampNeg then none else
    if x4 < 0 ∨ 72 ≤ x4.toNatClampNeg then none else
    some ((r_1.2.2.2.1 8 x4.toNatClampNeg), (mA r_1.2 8 x4.toNatClampNeg x3))
  else
    some ((0 : Int32), r_1.2)
set_option maxHeartbeats 4000000 in
set_option maxRecDepth 100000 in
theorem gm_lock_81 {p : Program} {l : Launch} {e : Env} {s : State} {m : MethodId} {args : Array Value} {below : List Frame} {meth : Method} {c : Code} {D : va_G} {ca : Nat → ClassId} {α : Nat → Nat} {A : Nat → Prop} {o : Int32 × mS} (C : mC p s m args c cX12_lock 6 D ca) (hr : meth.sig.returnType = some .int) (hlk : meth.locks = false) : ∀ (σ : mS) (x3 : Int32) (x4 : Int32) (s0 : Int32) (H : Heap) (locs : List Loc) (ls : Array Slot), mM D ca α A s.heap σ H locs → lv_has ls 6 [(0, .ref (α 0)), (3, .int x3), (4, .int x4)] → fm_lock_81 σ x3 x4 s0 = some o → mGI p l e rmX12_lock s m args below meth c D ca α A o H locs 81 ls [.int s0, .ref (α 0)] := by
  have hx := C.1
  have hb := C.2.1
  intro σ x3 x4 s0 H locs ls hM hl h
  unfold fm_lock_81 at h
  obtain ⟨r_1, hr_1, h⟩ := bd_of h
  refine m_cVi (As := [.int s0]) (rest := []) C hM (cm_isWrong l D ca α A σ s0 r_1 hr_1) mwy_isWrong ⟨rfl, rfl⟩ ⟨Nat.le_of_ble_eq_true rfl, Nat.le_of_ble_eq_true rfl⟩ rfl rfl (Nat.le_of_ble_eq_true rfl) hl.1 dX12_lock_81 ⟨rfl, rfl⟩ (fun H locs hM => ?_)
  refine lv_if_eq (tgt := 89) hx hb dX12_lock_84 (by decide) (fun c_1 => ?_) (fun c_1 => ?_)
  · have h := br_T c_1 h
    refine lv_aload_n hx hb dX12_lock_89 rfl (lv_at hl 0 rfl) ?_
    refine m_geta C hM (k := 8) (by decide) rfl dX12_lock_90 ?_
    refine lv_iload hx hb dX12_lock_93 (lv_at hl 2 rfl) ?_
    obtain ⟨c_2, h⟩ := ko_of h
    refine m_iald C hM (k := 8) rfl c_2 dX12_lock_95 ?_
    refine lv_istore (lv' := [(5, .int (r_1.2.2.2.1 8 x4.toNatClampNeg)), (0, .ref (α 0)), (3, .int x3), (4, .int x4)]) hx hb dX12_lock_96 hl (by decide) rfl (fun ls hl => ?_)
    refine lv_aload_n hx hb dX12_lock_98 rfl (lv_at hl 1 rfl) ?_
    refine m_geta C hM (k := 8) (by decide) rfl dX12_lock_99 ?_
    refine lv_iload hx hb dX12_lock_102 (lv_at hl 3 rfl) ?_
    refine lv_iload_n hx hb dX12_lock_104 rfl (lv_at hl 2 rfl) ?_
    obtain ⟨c_3, h⟩ := ko_of h
    refine m_iast C hM (k := 8) rfl c_3 dX12_lock_105 (fun H locs hM => ?_)
    refine lv_iload hx hb dX12_lock_106 (lv_at hl 0 rfl) ?_
    exact m_ri C hM hr hlk dX12_lock_108 h
  · have h := br_F c_1 h
    refine lv_iconst (v := (0 : Int32)) hx hb dX12_lock_87 (by decide) ?_
    exact m_ri C hM hr hlk dX12_lock_88 h
def fm_lock_34 (σ : mS) (x1 : Int32) (x2 : Int32) (x3 : Int32) (s0 : Int32) : Option (Int32 × mS) :=
  (fm_isWrong σ s0).bind fun r_1 =>
  if r_1.1 = 0 then
    (fm_directionOf x2).bind fun r_2 =>
    if (((6 : Int32) * x1) + r_2) < 0 ∨ 72 ≤ (((6 : Int32) * x1) + r_2).toNatClampNeg then none else
    if (r_1.2.2.2.1 7 (((6 : Int32) * x1) + r_2).toNatClampNeg) = (-1 : Int32) then
      fm_lock_81 r_1.2 x3 (((6 : Int32) * x1) + r_2) (3 : Int32)
    else
      if (r_1.2.1 20) = 0 then
        fm_lock_81 r_1.2 x3 (((6 : Int32) * x1) + r_2) (0 : Int32)
      else
        fm_lock_81 r_1.2 x3 (((6 : Int32) * x1) + r_2) (4 : Int32)
  else
    some ((0 : Int32), r_1.2)
set_option maxHeartbeats 4000000 in
set_option maxRecDepth 100000 in
theorem gm_lock_34 {p : Program} {l : Launch} {e : Env} {s : State} {m : MethodId} {args : Array Value} {below : List Frame} {meth : Method} {c : Code} {D : va_G} {ca : Nat → ClassId} {α : Nat → Nat} {A : Nat → Prop} {o : Int32 × mS} (C : mC p s m args c cX12_lock 6 D ca) (hr : meth.sig.returnType = some .int) (hlk : meth.locks = false) : ∀ (σ : mS) (x1 : Int32) (x2 : Int32) (x3 : Int32) (s0 : Int32) (H : Heap) (locs : List Loc) (ls : Array Slot), mM D ca α A s.heap σ H locs → lv_has ls 6 [(0, .ref (α 0)), (1, .int x1), (2, .int x2), (3, .int x3)] → fm_lock_34 σ x1 x2 x3 s0 = some o → mGI p l e rmX12_lock s m args below meth c D ca α A o H locs 34 ls [.int s0, .ref (α 0)] := by
  have hx := C.1
  have hb := C.2.1
  intro σ x1 x2 x3 s0 H locs ls hM hl h
  unfold fm_lock_34 at h
  obtain ⟨r_1, hr_1, h⟩ := bd_of h
  refine m_cVi (As := [.int s0]) (rest := []) C hM (cm_isWrong l D ca α A σ s0 r_1 hr_1) mwy_isWrong ⟨rfl, rfl⟩ ⟨Nat.le_of_ble_eq_true rfl, Nat.le_of_ble_eq_true rfl⟩ rfl rfl (Nat.le_of_ble_eq_true rfl) hl.1 dX12_lock_34 ⟨rfl, rfl⟩ (fun H locs hM => ?_)
  refine lv_if_eq (tgt := 42) hx hb dX12_lock_37 (by decide) (fun c_1 => ?_) (fun c_1 => ?_)
  · have h := br_T c_1 h
    refine lv_bipush (v := (6 : Int32)) hx hb dX12_lock_42 (by decide) ?_
    refine lv_iload_n hx hb dX12_lock_44 rfl (lv_at hl 1 rfl) ?_
    refine lv_imul hx hb dX12_lock_45 ?_
    refine lv_iload_n hx hb dX12_lock_46 rfl (lv_at hl 2 rfl) ?_
    obtain ⟨r_2, hr_2, h⟩ := bd_of h
    refine m_cSi (As := [.int x2]) (rest := [.int ((6 : Int32) * x1)]) C hM (cm_directionOf l D ca α A r_1.2 x2 r_2 hr_2) mwy_directionOf ⟨rfl, rfl⟩ ⟨Nat.le_of_ble_eq_true rfl, Nat.le_of_ble_eq_true rfl⟩ rfl rfl (Nat.le_of_ble_eq_true rfl) hl.1 dX12_lock_47 ⟨rfl, rfl⟩ (fun H locs hM => ?_)
    refine lv_iadd hx hb dX12_lock_50 ?_
    refine lv_istore (lv' := [(4, .int (((6 : Int32) * x1) + r_2)), (0, .ref (α 0)), (1, .int x1), (2, .int x2), (3, .int x3)]) hx hb dX12_lock_51 hl (by decide) rfl (fun ls hl => ?_)
    refine lv_aload_n hx hb dX12_lock_53 rfl (lv_at hl 1 rfl) ?_
    refine lv_aload_n hx hb dX12_lock_54 rfl (lv_at hl 1 rfl) ?_
    refine m_geta C hM (k := 7) (by decide) rfl dX12_lock_55 ?_
    refine lv_iload hx hb dX12_lock_58 (lv_at hl 0 rfl) ?_
    obtain ⟨c_2, h⟩ := ko_of h
    refine m_iald C hM (k := 7) rfl c_2 dX12_lock_60 ?_
    refine lv_iconst (v := (-1 : Int32)) hx hb dX12_lock_61 (by decide) ?_
    refine lv_icmp_ne (tgt := 69) hx hb dX12_lock_62 (by decide) (fun c_3 => ?_) (fun c_3 => ?_)
    · have h := br_F c_3 h
      refine lv_aload_n hx hb dX12_lock_69 rfl (lv_at hl 1 rfl) ?_
      refine m_geti C hM (k := 20) (Or.inr rfl) rfl dX12_lock_70 ?_
      refine lv_if_eq (tgt := 80) hx hb dX12_lock_73 (by decide) (fun c_4 => ?_) (fun c_4 => ?_)
      · have h := br_T c_4 h
        refine lv_iconst (v := (0 : Int32)) hx hb dX12_lock_80 (by decide) ?_
        exact gm_lock_81 C hr hlk  _ _ _ _ _ _ _ hM (lv_sub hl [1, 4, 0] rfl) h
      · have h := br_F c_4 h
        refine lv_iconst (v := (4 : Int32)) hx hb dX12_lock_76 (by decide) ?_
        refine lv_goto (tgt := 81) hx hb dX12_lock_77 (by decide) ?_
        exact gm_lock_81 C hr hlk  _ _ _ _ _ _ _ hM (lv_sub hl [1, 4, 0] rfl) h
    · have h := br_T c_3 h
      refine lv_iconst (v := (3 : Int32)) hx hb dX12_lock_65 (by decide) ?_
      refine lv_goto (tgt := 81) hx hb dX12_lock_66 (by decide) ?_
      exact gm_lock_81 C hr hlk  _ _ _ _ _ _ _ hM (lv_sub hl [1, 4, 0] rfl) h
  · have h := br_F c_1 h
    refine lv_iconst (v := (0 : Int32)) hx hb dX12_lock_40 (by decide) ?_
    exact m_ri C hM hr hlk dX12_lock_41 h
def fm_lock_17 (σ : mS) (x1 : Int32) (x2 : Int32) (x3 : Int32) : Option (Int32 × mS) :=
  fm_lock_34 σ x1 x2 x3 (1 : Int32)
set_option maxHeartbeats 4000000 in
set_option maxRecDepth 100000 in
theorem gm_lock_17 {p : Program} {l : Launch} {e : Env} {s : State} {m : MethodId} {args : Array Value} {below : List Frame} {meth : Method} {c : Code} {D : va_G} {ca : Nat → ClassId} {α : Nat → Nat} {A : Nat → Prop} {o : Int32 × mS} (C : mC p s m args c cX12_lock 6 D ca) (hr : meth.sig.returnType = some .int) (hlk : meth.locks = false) : ∀ (σ : mS) (x1 : Int32) (x2 : Int32) (x3 : Int32) (H : Heap) (locs : List Loc) (ls : Array Slot), mM D ca α A s.heap σ H locs → lv_has ls 6 [(0, .ref (α 0)), (1, .int x1), (2, .int x2), (3, .int x3)] → fm_lock_17 σ x1 x2 x3 = some o → mGI p l e rmX12_lock s m args below meth c D ca α A o H locs 17 ls [.ref (α 0)] := by
  have hx := C.1
  have hb := C.2.1
  intro σ x1 x2 x3 H locs ls hM hl h
  unfold fm_lock_17 at h
  refine lv_iconst (v := (1 : Int32)) hx hb dX12_lock_17 (by decide) ?_
  refine lv_goto (tgt := 34) hx hb dX12_lock_18 (by decide) ?_
  exact gm_lock_34 C hr hlk  _ _ _ _ _ _ _ _ hM (lv_sub hl [0, 1, 2, 3] rfl) h
def fm_lock (σ : mS) (x1 : Int32) (x2 : Int32) (x3 : Int32) : Option (Int32 × mS) :=
  (fm_isRoom σ x1).bind fun r_1 =>
  if r_1.1 = 0 then
    fm_lock_17 r_1.2 x1 x2 x3
  else
    (fm_isThing r_1.2 x3).bind fun r_2 =>
    if r_2.1 = 0 then
      fm_lock_17 r_2.2 x1 x2 x3
    else
      (fm_directionOf x2).bind fun r_3 =>
      if r_3 = (-1 : Int32) then
        fm_lock_34 r_2.2 x1 x2 x3 (2 : Int32)
      else
        fm_lock_34 r_2.2 x1 x2 x3 (0 : Int32)
set_option maxHeartbeats 4000000 in
set_option maxRecDepth 100000 in
theorem cm_lock (l : Launch) (D : va_G) (ca : Nat → ClassId) (α : Nat → Nat) (A : Nat → Prop) (σ : mS) (x1 : Int32) (x2 : Int32) (x3 : Int32) (o : Int32 × mS) (h : fm_lock σ x1 x2 x3 = some o) : mMetI l yX12_lock cX12_lock 6 (some .int) rmX12_lock D ca α A σ [.int x1, .int x2, .int x3] o := by
  refine Met.ofW (cc := cX12_lock) (maxL := 6) (ret := some .int) (by decide) rfl ?_
  intro p e s m args below meth c s₁ B hml hv
  obtain ⟨rfl, hP, hK, hD0⟩ := hv
  have C : mC p s m _ c cX12_lock 6 D ca := ⟨B.exec, B.bytes, hml, findClass_of_methodNamed B.named, fun w hw => atoms_spec (ws := mWs yX12_lock cX12_lock 6 (some .int)) B.pre w (List.mem_cons_of_mem _ hw), hK⟩
  have hM : mM D ca α A s.heap σ s.heap [] := ⟨hP, hD0, va_S.rf⟩
  have hr := B.returns
  have hlk := B.notSynchronized
  have hx := C.1
  have hb := C.2.1
  have hl := lv_entry ([.ref (α 0), .int x1, .int x2, .int x3]) (n := 6) (Nat.le_of_ble_eq_true rfl)
  rw [lg_entry_eq]
  generalize (lg_sl ([.ref (α 0), .int x1, .int x2, .int x3]) ++ List.replicate (6 - (lg_sl ([.ref (α 0), .int x1, .int x2, .int x3])).length) Slot.unset).toArray = ls at hl ⊢
  have hl : lv_has ls 6 [(0, .ref (α 0)), (1, .int x1), (2, .int x2), (3, .int x3)] := hl
  unfold fm_lock at h
  refine lv_aload_n hx hb dX12_lock_0 rfl (lv_at hl 0 rfl) ?_
  refine lv_aload_n hx hb dX12_lock_1 rfl (lv_at hl 0 rfl) ?_
  refine lv_iload_n hx hb dX12_lock_2 rfl (lv_at hl 1 rfl) ?_
  obtain ⟨r_1, hr_1, h⟩ := bd_of h
  refine m_cVi (As := [.int x1]) (rest := [.ref (α 0)]) C hM (cm_isRoom l D ca α A σ x1 r_1 hr_1) mwy_isRoom ⟨rfl, rfl⟩ ⟨Nat.le_of_ble_eq_true rfl, Nat.le_of_ble_eq_true rfl⟩ rfl rfl (Nat.le_of_ble_eq_true rfl) hl.1 dX12_lock_3 ⟨rfl, rfl⟩ (fun H locs hM => ?_)
  refine lv_if_eq (tgt := 17) hx hb dX12_lock_6 (by decide) (fun c_1 => ?_) (fun c_1 => ?_)
  · have h := br_T c_1 h
    exact gm_lock_17 C hr hlk  _ _ _ _ _ _ _ hM (lv_sub hl [0, 1, 2, 3] rfl) h
  · have h := br_F c_1 h
    refine lv_aload_n hx hb dX12_lock_9 rfl (lv_at hl 0 rfl) ?_
    refine lv_iload_n hx hb dX12_lock_10 rfl (lv_at hl 3 rfl) ?_
    obtain ⟨r_2, hr_2, h⟩ := bd_of h
    refine m_cVi (As := [.int x3]) (rest := [.ref (α 0)]) C hM (cm_isThing l D ca α A r_1.2 x3 r_2 hr_2) mwy_isThing ⟨rfl, rfl⟩ ⟨Nat.le_of_ble_eq_true rfl, Nat.le_of_ble_eq_true rfl⟩ rfl rfl (Nat.le_of_ble_eq_true rfl) hl.1 dX12_lock_11 ⟨rfl, rfl⟩ (fun H locs hM => ?_)
    refine lv_if_ne (tgt := 21) hx hb dX12_lock_14 (by decide) (fun c_2 => ?_) (fun c_2 => ?_)
    · have h := br_F c_2 h
      refine lv_iload_n hx hb dX12_lock_21 rfl (lv_at hl 2 rfl) ?_
      obtain ⟨r_3, hr_3, h⟩ := bd_of h
      refine m_cSi (As := [.int x2]) (rest := [.ref (α 0)]) C hM (cm_directionOf l D ca α A r_2.2 x2 r_3 hr_3) mwy_directionOf ⟨rfl, rfl⟩ ⟨Nat.le_of_ble_eq_true rfl, Nat.le_of_ble_eq_true rfl⟩ rfl rfl (Nat.le_of_ble_eq_true rfl) hl.1 dX12_lock_22 ⟨rfl, rfl⟩ (fun H locs hM => ?_)
      refine lv_iconst (v := (-1 : Int32)) hx hb dX12_lock_25 (by decide) ?_
      refine lv_icmp_ne (tgt := 33) hx hb dX12_lock_26 (by decide) (fun c_3 => ?_) (fun c_3 => ?_)
      · have h := br_F c_3 h
        refine lv_iconst (v := (0 : Int32)) hx hb dX12_lock_33 (by decide) ?_
        exact gm_lock_34 C hr hlk  _ _ _ _ _ _ _ _ hM (lv_sub hl [0, 1, 2, 3] rfl) h
      · have h := br_T c_3 h
        refine lv_iconst (v := (2 : Int32)) hx hb dX12_lock_29 (by decide) ?_
        refine lv_goto (tgt := 34) hx hb dX12_lock_30 (by decide) ?_
        exact gm_lock_34 C hr hlk  _ _ _ _ _ _ _ _ hM (lv_sub hl [0, 1, 2, 3] rfl) h
    · have h := br_T c_2 h
      exact gm_lock_17 C hr hlk  _ _ _ _ _ _ _ hM (lv_sub hl [0, 1, 2, 3] rfl) h
/-! thingOf(I)I -/
abbrev rmX12_thingOf : Room := { frames := 0, cells := 0, slots := 0, locals := 0 }
def fm_thingOf_27 (k_4 : mS → Int32 → Int32 → Int32 → Option (Int32 × mS)) (σ : mS) (x1 : Int32) (x3 : Int32) (s0 : Int32) : Option (Int32 × mS) :=
  k_4 σ x1 s0 (x3 + (1 : Int32))
set_option maxHeartbeats 4000000 in
set_option maxRecDepth 100000 in
theorem gm_thingOf_27 {p : Program} {l : Launch} {e : Env} {s : State} {m : MethodId} {args : Array Value} {below : List Frame} {meth : Method} {c : Code} {D : va_G} {ca : Nat → ClassId} {α : Nat → Nat} {A : Nat → Prop} {o : Int32 × mS} {k_4 : mS → Int32 → Int32 → Int32 → Option (Int32 × mS)} (C : mC p s m args c cX12_thingOf 4 D ca) (hr : meth.sig.returnType = some .int) (hlk : meth.locks = false) (hk_4 : ∀ (σ : mS) (x1 : Int32) (x2 : Int32) (x3 : Int32) (H : Heap) (locs : List Loc) (ls : Array Slot), mM D ca α A s.heap σ H locs → lv_has ls 4 [(0, .ref (α 0)), (1, .int x1), (2, .int x2), (3, .int x3)] → k_4 σ x1 x2 x3 = some o → mGI p l e rmX12_thingOf s m args below meth c D ca α A o H locs 4 ls []) : ∀ (σ : mS) (x1 : Int32) (x3 : Int32) (s0 : Int32) (H : Heap) (locs : List Loc) (ls : Array Slot), mM D ca α A s.heap σ H locs → lv_has ls 4 [(0, .ref (α 0)), (1, .int x1), (3, .int x3)] → fm_thingOf_27 k_4 σ x1 x3 s0 = some o → mGI p l e rmX12_thingOf s m args below meth c D ca α A o H locs 27 ls [.int s0] := by
  have hx := C.1
  have hb := C.2.1
  intro σ x1 x3 s0 H locs ls hM hl h
  unfold fm_thingOf_27 at h
  refine lv_istore_n (lv' := [(2, .int s0), (0, .ref (α 0)), (1, .int x1), (3, .int x3)]) hx hb dX12_thingOf_27 rfl hl (by decide) rfl (fun ls hl => ?_)
  refine lv_iinc (v := (x3 + (1 : Int32))) (lv' := [(3, .int (x3 + (1 : Int32))), (2, .int s0), (0, .ref (α 0)), (1, .int x1)]) hx hb dX12_thingOf_28 hl (k := 3) rfl rfl (by decide) rfl (fun ls hl => ?_)
  refine lv_goto (tgt := 4) hx hb dX12_thingOf_31 (by decide) ?_
  exact hk_4 _ _ _ _ _ _ _ hM (lv_sub hl [2, 3, 1, 0] rfl) h
def fm_thingOf_4 : Nat → mS → Int32 → Int32 → Int32 → Option (Int32 × mS)
  | 0, _, _, _, _ => none
  | n + 1, σ, x1, x2, x3 =>
    if (σ.1 16) ≤ x3 then
      some (x2, σ)
    else
      if x3 < 0 ∨ 12 ≤ x3.toNatClampNeg then none else
      if (σ.2.2.1 10 x3.toNatClampNeg) = x1 then
        fm_thingOf_27 (fm_thingOf_4 n) σ x1 x3 x3
      else
        fm_thingOf_27 (fm_thingOf_4 n) σ x1 x3 x2
set_option maxHeartbeats 4000000 in
set_option maxRecDepth 100000 in
theorem gm_thingOf_4 {p : Program} {l : Launch} {e : Env} {s : State} {m : MethodId} {args : Array Value} {below : List Frame} {meth : Method} {c : Code} {D : va_G} {ca : Nat → ClassId} {α : Nat → Nat} {A : Nat → Prop} {o : Int32 × mS} (C : mC p s m args c cX12_thingOf 4 D ca) (hr : meth.sig.returnType = some .int) (hlk : meth.locks = false) : ∀ (n : Nat) (σ : mS) (x1 : Int32) (x2 : Int32) (x3 : Int32) (H : Heap) (locs : List Loc) (ls : Array Slot), mM D ca α A s.heap σ H locs → lv_has ls 4 [(0, .ref (α 0)), (1, .int x1), (2, .int x2), (3, .int x3)] → fm_thingOf_4 n σ x1 x2 x3 = some o → mGI p l e rmX12_thingOf s m args below meth c D ca α A o H locs 4 ls [] := by
  have hx := C.1
  have hb := C.2.1
  intro n
  induction n with
  | zero =>
    intro σ x1 x2 x3 H locs ls hM hl h
    cases h
  | succ n ih =>
    intro σ x1 x2 x3 H locs ls hM hl h
    rw [fm_thingOf_4] at h
    refine lv_iload_n hx hb dX12_thingOf_4 rfl (lv_at hl 3 rfl) ?_
    refine lv_aload_n hx hb dX12_thingOf_5 rfl (lv_at hl 0 rfl) ?_
    refine m_geti C hM (k := 16) (Or.inl rfl) rfl dX12_thingOf_6 ?_
    refine lv_icmp_ge (tgt := 34) hx hb dX12_thingOf_9 (by decide) (fun c_1 => ?_) (fun c_1 => ?_)
    · have h := br_T c_1 h
      refine lv_iload_n hx hb dX12_thingOf_34 rfl (lv_at hl 2 rfl) ?_
      exact m_ri C hM hr hlk dX12_thingOf_35 h
    · have h := br_F c_1 h
      refine lv_aload_n hx hb dX12_thingOf_12 rfl (lv_at hl 0 rfl) ?_
      refine m_geta C hM (k := 10) (by decide) rfl dX12_thingOf_13 ?_
      refine lv_iload_n hx hb dX12_thingOf_16 rfl (lv_at hl 3 rfl) ?_
      obtain ⟨c_2, h⟩ := ko_of h
      refine m_iald C hM (k := 10) rfl c_2 dX12_thingOf_17 ?_
      refine lv_iload_n hx hb dX12_thingOf_18 rfl (lv_at hl 1 rfl) ?_
      refine lv_icmp_ne (tgt := 26) hx hb dX12_thingOf_19 (by decide) (fun c_3 => ?_) (fun c_3 => ?_)
      · have h := br_F c_3 h
        refine lv_iload_n hx hb dX12_thingOf_26 rfl (lv_at hl 2 rfl) ?_
        exact gm_thingOf_27 C hr hlk ih _ _ _ _ _ _ _ hM (lv_sub hl [0, 1, 3] rfl) h
      · have h := br_T c_3 h
        refine lv_iload_n hx hb dX12_thingOf_22 rfl (lv_at hl 3 rfl) ?_
        refine lv_goto (tgt := 27) hx hb dX12_thingOf_23 (by decide) ?_
        exact gm_thingOf_27 C hr hlk ih _ _ _ _ _ _ _ hM (lv_sub hl [0, 1, 3] rfl) h
def fm_thingOf (σ : mS) (x1 : Int32) : Option (Int32 × mS) :=
  fm_thingOf_4 3000 σ x1 (-1 : Int32) (0 : Int32)
set_option maxHeartbeats 4000000 in
set_option maxRecDepth 100000 in
theorem cm_thingOf (l : Launch) (D : va_G) (ca : Nat → ClassId) (α : Nat → Nat) (A : Nat → Prop) (σ : mS) (x1 : Int32) (o : Int32 × mS) (h : fm_thingOf σ x1 = some o) : mMetI l yX12_thingOf cX12_thingOf 4 (some .int) rmX12_thingOf D ca α A σ [.int x1] o := by
  refine Met.ofW (cc := cX12_thingOf) (maxL := 4) (ret := some .int) (by decide) rfl ?_
  intro p e s m args below meth c s₁ B hml hv
  obtain ⟨rfl, hP, hK, hD0⟩ := hv
  have C : mC p s m _ c cX12_thingOf 4 D ca := ⟨B.exec, B.bytes, hml, findClass_of_methodNamed B.named, fun w hw => atoms_spec (ws := mWs yX12_thingOf cX12_thingOf 4 (some .int)) B.pre w (List.mem_cons_of_mem _ hw), hK⟩
  have hM : mM D ca α A s.heap σ s.heap [] := ⟨hP, hD0, va_S.rf⟩
  have hr := B.returns
  have hlk := B.notSynchronized
  have hx := C.1
  have hb := C.2.1
  have hl := lv_entry ([.ref (α 0), .int x1]) (n := 4) (Nat.le_of_ble_eq_true rfl)
  rw [lg_entry_eq]
  generalize (lg_sl ([.ref (α 0), .int x1]) ++ List.replicate (4 - (lg_sl ([.ref (α 0), .int x1])).length) Slot.unset).toArray = ls at hl ⊢
  have hl : lv_has ls 4 [(0, .ref (α 0)), (1, .int x1)] := hl
  unfold fm_thingOf at h
  refine lv_iconst (v := (-1 : Int32)) hx hb dX12_thingOf_0 (by decide) ?_
  refine lv_istore_n (lv' := [(2, .int (-1 : Int32)), (0, .ref (α 0)), (1, .int x1)]) hx hb dX12_thingOf_1 rfl hl (by decide) rfl (fun ls hl => ?_)
  refine lv_iconst (v := (0 : Int32)) hx hb dX12_thingOf_2 (by decide) ?_
  refine lv_istore_n (lv' := [(3, .int (0 : Int32)), (2, .int (-1 : Int32)), (0, .ref (α 0)), (1, .int x1)]) hx hb dX12_thingOf_3 rfl hl (by decide) rfl (fun ls hl => ?_)
  exact gm_thingOf_4 C hr hlk  _ _ _ _ _ _ _ _ hM (lv_sub hl [2, 3, 1, 0] rfl) h
theorem mwy_thingOf : mCallV RX12 184 yX12_thingOf cX12_thingOf 4 (some .int) 1 := ⟨⟨wl_in (i := 2078) (by decide +kernel), wl_in (i := 2080) (by decide +kernel), wl_inp (i := 33) (by decide +kernel), wl_in (i := 16) (by decide +kernel), wl_in (i := 2081) (by decide +kernel)⟩, rfl, by decide, by decide, by decide +kernel⟩
/-! thing(IIIC)I -/
abbrev rmX12_thing : Room := { frames := 2, cells := 0, slots := 0, locals := 43 }
def fm_thing_170 (σ : mS) (s0 : Int32) (s1 : Int32) : Option (Int32 × mS) :=
  if s1 < 0 ∨ 12 ≤ s1.toNatClampNeg then none else
  some ((((mI (mA σ 14 s1.toNatClampNeg s0) 16 (((mA σ 14 s1.toNatClampNeg s0).1 16) + (1 : Int32))).1 16) - (1 : Int32)), (mI (mA σ 14 s1.toNatClampNeg s0) 16 (((mA σ 14 s1.toNatClampNeg s0).1 16) + (1 : Int32))))
set_option maxHeartbeats 4000000 in
set_option maxRecDepth 100000 in
theorem gm_thing_170 {p : Program} {l : Launch} {e : Env} {s : State} {m : MethodId} {args : Array Value} {below : List Frame} {meth : Method} {c : Code} {D : va_G} {ca : Nat → ClassId} {α : Nat → Nat} {A : Nat → Prop} {o : Int32 × mS} (C : mC p s m args c cX12_thing 5 D ca) (hr : meth.sig.returnType = some .int) (hlk : meth.locks = false) : ∀ (σ : mS) (s0 : Int32) (s1 : Int32) (H : Heap) (locs : List Loc) (ls : Array Slot), mM D ca α A s.heap σ H locs → lv_has ls 5 [(0, .ref (α 0))] → fm_thing_170 σ s0 s1 = some o → mGI p l e rmX12_thing s m args below meth c D ca α A o H locs 170 ls [.int s0, .int s1, .ref (α 15)] := by
  have hx := C.1
  have hb := C.2.1
  intro σ s0 s1 H locs ls hM hl h
  unfold fm_thing_170 at h
  obtain ⟨c_1, h⟩ := ko_of h
  refine m_iast C hM (k := 14) rfl c_1 dX12_thing_170 (fun H locs hM => ?_)
  refine lv_aload_n hx hb dX12_thing_171 rfl (lv_at hl 0 rfl) ?_
  refine lv_dup hx hb dX12_thing_172 rfl ?_
  refine m_geti C hM (k := 16) (Or.inl rfl) rfl dX12_thing_173 ?_
  refine lv_iconst (v := (1 : Int32)) hx hb dX12_thing_176 (by decide) ?_
  refine lv_iadd hx hb dX12_thing_177 ?_
  refine m_puti C hM (k := 16) rfl rfl dX12_thing_178 (fun H locs hM => ?_)
  refine lv_aload_n hx hb dX12_thing_181 rfl (lv_at hl 0 rfl) ?_
  refine m_geti C hM (k := 16) (Or.inl rfl) rfl dX12_thing_182 ?_
  refine lv_iconst (v := (1 : Int32)) hx hb dX12_thing_185 (by decide) ?_
  refine lv_isub hx hb dX12_thing_186 ?_
  exact m_ri C hM hr hlk dX12_thing_187 h
def fm_thing_100 (σ : mS) (x1 : Int32) (x2 : Int32) (x3 : Int32) (x4 : Int32) (s0 : Int32) : Option (Int32 × mS) :=
  (fm_isWrong σ s0).bind fun r_1 =>
  if r_1.1 = 0 then
    if (r_1.2.1 16) < 0 ∨ 12 ≤ (r_1.2.1 16).toNatClampNeg then none else
    if ((mA r_1.2 10 (r_1.2.1 16).toNatClampNeg x1).1 16) < 0 ∨ 12 ≤ ((mA r_1.2 10 (r_1.2.1 16).toNatClampNeg x1).1 16).toNatClampNeg then none else
    if ((mA (mA r_1.2 10 (r_1.2.1 16).toNatClampNeg x1) 11 ((mA r_1.2 10 (r_1.2.1 16).toNatClampNeg x1).1 16).toNatClampNeg x2).1 16) < 0 ∨ 12 ≤ ((mA (mA r_1.2 10 (r_1.2.1 16).toNatClampNeg x1) 11 ((mA r_1.2 10 (r_1.2.1 16).toNatClampNeg x1).1 16).toNatClampNeg x2).1 16).toNatClampNeg then none else
    if ((mA (mA (mA r_1.2 10 (r_1.2.1 16).toNatClampNeg x1) 11 ((mA r_1.2 10 (r_1.2.1 16).toNatClampNeg x1).1 16).toNatClampNeg x2) 12 ((mA (mA r_1.2 10 (r_1.2.1 16).toNatClampNeg x1) 11 ((mA r_1.2 10 (r_1.2.1 16).toNatClampNeg x1).1 16).toNatClampNeg x2).1 16).toNatClampNeg x3).1 16) < 0 ∨ 12 ≤ ((mA (mA (mA r_1.2 10 (r_1.2.1 16).toNatClampNeg x1) 11 ((mA r_1.2 10 (r_1.2.1 16).toNatClampNeg x1).1 16).toNatClampNeg x2) 12 ((mA (mA r_1.2 10 (r_1.2.1 16).toNatClampNeg x1) 11 ((mA r_1.2 10 (r_1.2.1 16).toNatClampNeg x1).1 16).toNatClampNeg x2).1 16).toNatClampNeg x3).1 16).toNatClampNeg then none else
    if x4 = (108 : Int32) then
      fm_thing_170 (mA (mA (mA (mA r_1.2 10 (r_1.2.1 16).toNatClampNeg x1) 11 ((mA r_1.2 10 (r_1.2.1 16).toNatClampNeg x1).1 16).toNatClampNeg x2) 12 ((mA (mA r_1.2 10 (r_1.2.1 16).toNatClampNeg x1) 11 ((mA r_1.2 10 (r_1.2.1 16).toNatClampNeg x1).1 16).toNatClampNeg x2).1 16).toNatClampNeg x3) 13 ((mA (mA (mA r_1.2 10 (r_1.2.1 16).toNatClampNeg x1) 11 ((mA r_1.2 10 (r_1.2.1 16).toNatClampNeg x1).1 16).toNatClampNeg x2) 12 ((mA (mA r_1.2 10 (r_1.2.1 16).toNatClampNeg x1) 11 ((mA r_1.2 10 (r_1.2.1 16).toNatClampNeg x1).1 16).toNatClampNeg x2).1 16).toNatClampNeg x3).1 16).toNatClampNeg x4.toUInt32.toUInt16.toUInt32.toInt32) (10 : Int32) ((mA (mA (mA (mA r_1.2 10 (r_1.2.1 16).toNatClampNeg x1) 11 ((mA r_1.2 10 (r_1.2.1 16).toNatClampNeg x1).1 16).toNatClampNeg x2) 12 ((mA (mA r_1.2 10 (r_1.2.1 16).toNatClampNeg x1) 11 ((mA r_1.2 10 (r_1.2.1 16).toNatClampNeg x1).1 16).toNatClampNeg x2).1 16).toNatClampNeg x3) 13 ((mA (mA (mA r_1.2 10 (r_1.2.1 16).toNatClampNeg x1) 11 ((mA r_1.2 10 (r_1.2.1 16).toNatClampNeg x1).1 16).toNatClampNeg x2) 12 ((mA (mA r_1.2 10 (r_1.2.1 16).toNatClampNeg x1) 11 ((mA r_1.2 10 (r_1.2.1 16).toNatClampNeg x1).1 16).toNatClampNeg x2).1 16).toNatClampNeg x3).1 16).toNatClampNeg x4.toUInt32.toUInt16.toUInt32.toInt32).1 16)
    else
      fm_thing_170 (mA (mA (mA (mA r_1.2 10 (r_1.2.1 16).toNatClampNeg x1) 11 ((mA r_1.2 10 (r_1.2.1 16).toNatClampNeg x1).1 16).toNatClampNeg x2) 12 ((mA (mA r_1.2 10 (r_1.2.1 16).toNatClampNeg x1) 11 ((mA r_1.2 10 (r_1.2.1 16).toNatClampNeg x1).1 16).toNatClampNeg x2).1 16).toNatClampNeg x3) 13 ((mA (mA (mA r_1.2 10 (r_1.2.1 16).toNatClampNeg x1) 11 ((mA r_1.2 10 (r_1.2.1 16).toNatClampNeg x1).1 16).toNatClampNeg x2) 12 ((mA (mA r_1.2 10 (r_1.2.1 16).toNatClampNeg x1) 11 ((mA r_1.2 10 (r_1.2.1 16).toNatClampNeg x1).1 16).toNatClampNeg x2).1 16).toNatClampNeg x3).1 16).toNatClampNeg x4.toUInt32.toUInt16.toUInt32.toInt32) (0 : Int32) ((mA (mA (mA (mA r_1.2 10 (r_1.2.1 16).toNatClampNeg x1) 11 ((mA r_1.2 10 (r_1.2.1 16).toNatClampNeg x1).1 16).toNatClampNeg x2) 12 ((mA (mA r_1.2 10 (r_1.2.1 16).toNatClampNeg x1) 11 ((mA r_1.2 10 (r_1.2.1 16).toNatClampNeg x1).1 16).toNatClampNeg x2).1 16).toNatClampNeg x3) 13 ((mA (mA (mA r_1.2 10 (r_1.2.1 16).toNatClampNeg x1) 11 ((mA r_1.2 10 (r_1.2.1 16).toNatClampNeg x1).1 16).toNatClampNeg x2) 12 ((mA (mA r_1.2 10 (r_1.2.1 16).toNatClampNeg x1) 11 ((mA r_1.2 10 (r_1.2.1 16).toNatClampNeg x1).1 16).toNatClampNeg x2).1 16).toNatClampNeg x3).1 16).toNatClampNeg x4.toUInt32.toUInt16.toUInt32.toInt32).1 16)
  else
    some ((0 : Int32), r_1.2)
set_option maxHeartbeats 4000000 in
set_option maxRecDepth 100000 in
theorem gm_thing_100 {p : Program} {l : Launch} {e : Env} {s : State} {m : MethodId} {args : Array Value} {below : List Frame} {meth : Method} {c : Code} {D : va_G} {ca : Nat → ClassId} {α : Nat → Nat} {A : Nat → Prop} {o : Int32 × mS} (C : mC p s m args c cX12_thing 5 D ca) (hr : meth.sig.returnType = some .int) (hlk : meth.locks = false) : ∀ (σ : mS) (x1 : Int32) (x2 : Int32) (x3 : Int32) (x4 : Int32) (s0 : Int32) (H : Heap) (locs : List Loc) (ls : Array Slot), mM D ca α A s.heap σ H locs → lv_has ls 5 [(0, .ref (α 0)), (1, .int x1), (2, .int x2), (3, .int x3), (4, .int x4)] → fm_thing_100 σ x1 x2 x3 x4 s0 = some o → mGI p l e rmX12_thing s m args below meth c D ca α A o H locs 100 ls [.int s0, .ref (α 0)] := by
  have hx := C.1
  have hb := C.2.1
  intro σ x1 x2 x3 x4 s0 H locs ls hM hl h
  unfold fm_thing_100 at h
  obtain ⟨r_1, hr_1, h⟩ := bd_of h
  refine m_cVi (As := [.int s0]) (rest := []) C hM (cm_isWrong l D ca α A σ s0 r_1 hr_1) mwy_isWrong ⟨rfl, rfl⟩ ⟨Nat.le_of_ble_eq_true rfl, Nat.le_of_ble_eq_true rfl⟩ rfl rfl (Nat.le_of_ble_eq_true rfl) hl.1 dX12_thing_100 ⟨rfl, rfl⟩ (fun H locs hM => ?_)
  refine lv_if_eq (tgt := 108) hx hb dX12_thing_103 (by decide) (fun c_1 => ?_) (fun c_1 => ?_)
  · have h := br_T c_1 h
    refine lv_aload_n hx hb dX12_thing_108 rfl (lv_at hl 0 rfl) ?_
    refine m_geta C hM (k := 10) (by decide) rfl dX12_thing_109 ?_
    refine lv_aload_n hx hb dX12_thing_112 rfl (lv_at hl 0 rfl) ?_
    refine m_geti C hM (k := 16) (Or.inl rfl) rfl dX12_thing_113 ?_
    refine lv_iload_n hx hb dX12_thing_116 rfl (lv_at hl 1 rfl) ?_
    obtain ⟨c_2, h⟩ := ko_of h
    refine m_iast C hM (k := 10) rfl c_2 dX12_thing_117 (fun H locs hM => ?_)
    refine lv_aload_n hx hb dX12_thing_118 rfl (lv_at hl 0 rfl) ?_
    refine m_geta C hM (k := 11) (by decide) rfl dX12_thing_119 ?_
    refine lv_aload_n hx hb dX12_thing_122 rfl (lv_at hl 0 rfl) ?_
    refine m_geti C hM (k := 16) (Or.inl rfl) rfl dX12_thing_123 ?_
    refine lv_iload_n hx hb dX12_thing_126 rfl (lv_at hl 2 rfl) ?_
    obtain ⟨c_3, h⟩ := ko_of h
    refine m_iast C hM (k := 11) rfl c_3 dX12_thing_127 (fun H locs hM => ?_)
    refine lv_aload_n hx hb dX12_thing_128 rfl (lv_at hl 0 rfl) ?_
    refine m_geta C hM (k := 12) (by decide) rfl dX12_thing_129 ?_
    refine lv_aload_n hx hb dX12_thing_132 rfl (lv_at hl 0 rfl) ?_
    refine m_geti C hM (k := 16) (Or.inl rfl) rfl dX12_thing_133 ?_
    refine lv_iload_n hx hb dX12_thing_136 rfl (lv_at hl 3 rfl) ?_
    obtain ⟨c_4, h⟩ := ko_of h
    refine m_iast C hM (k := 12) rfl c_4 dX12_thing_137 (fun H locs hM => ?_)
    refine lv_aload_n hx hb dX12_thing_138 rfl (lv_at hl 0 rfl) ?_
    refine m_geta C hM (k := 13) (by decide) rfl dX12_thing_139 ?_
    refine lv_aload_n hx hb dX12_thing_142 rfl (lv_at hl 0 rfl) ?_
    refine m_geti C hM (k := 16) (Or.inl rfl) rfl dX12_thing_143 ?_
    refine lv_iload hx hb dX12_thing_146 (lv_at hl 4 rfl) ?_
    obtain ⟨c_5, h⟩ := ko_of h
    refine m_cast C hM (k := 13) rfl c_5 dX12_thing_148 (fun H locs hM => ?_)
    refine lv_aload_n hx hb dX12_thing_149 rfl (lv_at hl 0 rfl) ?_
    refine m_geta C hM (k := 14) (by decide) rfl dX12_thing_150 ?_
    refine lv_aload_n hx hb dX12_thing_153 rfl (lv_at hl 0 rfl) ?_
    refine m_geti C hM (k := 16) (Or.inl rfl) rfl dX12_thing_154 ?_
    refine lv_iload hx hb dX12_thing_157 (lv_at hl 4 rfl) ?_
    refine lv_bipush (v := (108 : Int32)) hx hb dX12_thing_159 (by decide) ?_
    refine lv_icmp_ne (tgt := 169) hx hb dX12_thing_161 (by decide) (fun c_6 => ?_) (fun c_6 => ?_)
    · have h := br_F c_6 h
      refine lv_iconst (v := (0 : Int32)) hx hb dX12_thing_169 (by decide) ?_
      exact gm_thing_170 C hr hlk  _ _ _ _ _ _ hM (lv_sub hl [0] rfl) h
    · have h := br_T c_6 h
      refine lv_bipush (v := (10 : Int32)) hx hb dX12_thing_164 (by decide) ?_
      refine lv_goto (tgt := 170) hx hb dX12_thing_166 (by decide) ?_
      exact gm_thing_170 C hr hlk  _ _ _ _ _ _ hM (lv_sub hl [0] rfl) h
  · have h := br_F c_1 h
    refine lv_iconst (v := (0 : Int32)) hx hb dX12_thing_106 (by decide) ?_
    exact m_ri C hM hr hlk dX12_thing_107 h
def fm_thing_95 (σ : mS) (x1 : Int32) (x2 : Int32) (x3 : Int32) (x4 : Int32) : Option (Int32 × mS) :=
  fm_thing_100 σ x1 x2 x3 x4 (4 : Int32)
set_option maxHeartbeats 4000000 in
set_option maxRecDepth 100000 in
theorem gm_thing_95 {p : Program} {l : Launch} {e : Env} {s : State} {m : MethodId} {args : Array Value} {below : List Frame} {meth : Method} {c : Code} {D : va_G} {ca : Nat → ClassId} {α : Nat → Nat} {A : Nat → Prop} {o : Int32 × mS} (C : mC p s m args c cX12_thing 5 D ca) (hr : meth.sig.returnType = some .int) (hlk : meth.locks = false) : ∀ (σ : mS) (x1 : Int32) (x2 : Int32) (x3 : Int32) (x4 : Int32) (H : Heap) (locs : List Loc) (ls : Array Slot), mM D ca α A s.heap σ H locs → lv_has ls 5 [(0, .ref (α 0)), (1, .int x1), (2, .int x2), (3, .int x3), (4, .int x4)] → fm_thing_95 σ x1 x2 x3 x4 = some o → mGI p l e rmX12_thing s m args below meth c D ca α A o H locs 95 ls [.ref (α 0)] := by
  have hx := C.1
  have hb := C.2.1
  intro σ x1 x2 x3 x4 H locs ls hM hl h
  unfold fm_thing_95 at h
  refine lv_iconst (v := (4 : Int32)) hx hb dX12_thing_95 (by decide) ?_
  refine lv_goto (tgt := 100) hx hb dX12_thing_96 (by decide) ?_
  exact gm_thing_100 C hr hlk  _ _ _ _ _ _ _ _ _ hM (lv_sub hl [0, 1, 2, 3, 4] rfl) h
def fm_thing_57 (σ : mS) (x1 : Int32) (x2 : Int32) (x3 : Int32) (x4 : Int32) (s0 : Int32) : Option (Int32 × mS) :=
  (fm_isWrong σ s0).bind fun r_1 =>
  if r_1.1 = 0 then
    (fm_thingOf r_1.2 x1).bind fun r_2 =>
    if r_2.1 = (-1 : Int32) then
      if (r_2.2.1 16) = (12 : Int32) then
        fm_thing_95 r_2.2 x1 x2 x3 x4
      else
        if (r_2.2.1 20) = 0 then
          fm_thing_100 r_2.2 x1 x2 x3 x4 (0 : Int32)
        else
          fm_thing_95 r_2.2 x1 x2 x3 x4
    else
      fm_thing_100 r_2.2 x1 x2 x3 x4 (3 : Int32)
  else
    some ((0 : Int32), r_1.2)
set_option maxHeartbeats 4000000 in
set_option maxRecDepth 100000 in
theorem gm_thing_57 {p : Program} {l : Launch} {e : Env} {s : State} {m : MethodId} {args : Array Value} {below : List Frame} {meth : Method} {c : Code} {D : va_G} {ca : Nat → ClassId} {α : Nat → Nat} {A : Nat → Prop} {o : Int32 × mS} (C : mC p s m args c cX12_thing 5 D ca) (hr : meth.sig.returnType = some .int) (hlk : meth.locks = false) : ∀ (σ : mS) (x1 : Int32) (x2 : Int32) (x3 : Int32) (x4 : Int32) (s0 : Int32) (H : Heap) (locs : List Loc) (ls : Array Slot), mM D ca α A s.heap σ H locs → lv_has ls 5 [(0, .ref (α 0)), (1, .int x1), (2, .int x2), (3, .int x3), (4, .int x4)] → fm_thing_57 σ x1 x2 x3 x4 s0 = some o → mGI p l e rmX12_thing s m args below meth c D ca α A o H locs 57 ls [.int s0, .ref (α 0)] := by
  have hx := C.1
  have hb := C.2.1
  intro σ x1 x2 x3 x4 s0 H locs ls hM hl h
  unfold fm_thing_57 at h
  obtain ⟨r_1, hr_1, h⟩ := bd_of h
  refine m_cVi (As := [.int s0]) (rest := []) C hM (cm_isWrong l D ca α A σ s0 r_1 hr_1) mwy_isWrong ⟨rfl, rfl⟩ ⟨Nat.le_of_ble_eq_true rfl, Nat.le_of_ble_eq_true rfl⟩ rfl rfl (Nat.le_of_ble_eq_true rfl) hl.1 dX12_thing_57 ⟨rfl, rfl⟩ (fun H locs hM => ?_)
  refine lv_if_eq (tgt := 65) hx hb dX12_thing_60 (by decide) (fun c_1 => ?_) (fun c_1 => ?_)
  · have h := br_T c_1 h
    refine lv_aload_n hx hb dX12_thing_65 rfl (lv_at hl 0 rfl) ?_
    refine lv_aload_n hx hb dX12_thing_66 rfl (lv_at hl 0 rfl) ?_
    refine lv_iload_n hx hb dX12_thing_67 rfl (lv_at hl 1 rfl) ?_
    obtain ⟨r_2, hr_2, h⟩ := bd_of h
    refine m_cVi (As := [.int x1]) (rest := [.ref (α 0)]) C hM (cm_thingOf l D ca α A r_1.2 x1 r_2 hr_2) mwy_thingOf ⟨rfl, rfl⟩ ⟨Nat.le_of_ble_eq_true rfl, Nat.le_of_ble_eq_true rfl⟩ rfl rfl (Nat.le_of_ble_eq_true rfl) hl.1 dX12_thing_68 ⟨rfl, rfl⟩ (fun H locs hM => ?_)
    refine lv_iconst (v := (-1 : Int32)) hx hb dX12_thing_71 (by decide) ?_
    refine lv_icmp_eq (tgt := 79) hx hb dX12_thing_72 (by decide) (fun c_2 => ?_) (fun c_2 => ?_)
    · have h := br_T c_2 h
      refine lv_aload_n hx hb dX12_thing_79 rfl (lv_at hl 0 rfl) ?_
      refine m_geti C hM (k := 16) (Or.inl rfl) rfl dX12_thing_80 ?_
      refine lv_bipush (v := (12 : Int32)) hx hb dX12_thing_83 (by decide) ?_
      refine lv_icmp_eq (tgt := 95) hx hb dX12_thing_85 (by decide) (fun c_3 => ?_) (fun c_3 => ?_)
      · have h := br_T c_3 h
        exact gm_thing_95 C hr hlk  _ _ _ _ _ _ _ _ hM (lv_sub hl [0, 1, 2, 3, 4] rfl) h
      · have h := br_F c_3 h
        refine lv_aload_n hx hb dX12_thing_88 rfl (lv_at hl 0 rfl) ?_
        refine m_geti C hM (k := 20) (Or.inr rfl) rfl dX12_thing_89 ?_
        refine lv_if_eq (tgt := 99) hx hb dX12_thing_92 (by decide) (fun c_4 => ?_) (fun c_4 => ?_)
        · have h := br_T c_4 h
          refine lv_iconst (v := (0 : Int32)) hx hb dX12_thing_99 (by decide) ?_
          exact gm_thing_100 C hr hlk  _ _ _ _ _ _ _ _ _ hM (lv_sub hl [0, 1, 2, 3, 4] rfl) h
        · have h := br_F c_4 h
          exact gm_thing_95 C hr hlk  _ _ _ _ _ _ _ _ hM (lv_sub hl [0, 1, 2, 3, 4] rfl) h
    · have h := br_F c_2 h
      refine lv_iconst (v := (3 : Int32)) hx hb dX12_thing_75 (by decide) ?_
      refine lv_goto (tgt := 100) hx hb dX12_thing_76 (by decide) ?_
      exact gm_thing_100 C hr hlk  _ _ _ _ _ _ _ _ _ hM (lv_sub hl [0, 1, 2, 3, 4] rfl) h
  · have h := br_F c_1 h
    refine lv_iconst (v := (0 : Int32)) hx hb dX12_thing_63 (by decide) ?_
    exact m_ri C hM hr hlk dX12_thing_64 h
def fm_thing_17 (σ : mS) (x1 : Int32) (x2 : Int32) (x3 : Int32) (x4 : Int32) : Option (Int32 × mS) :=
  fm_thing_57 σ x1 x2 x3 x4 (1 : Int32)
set_option maxHeartbeats 4000000 in
set_option maxRecDepth 100000 in
theorem gm_thing_17 {p : Program} {l : Launch} {e : Env} {s : State} {m : MethodId} {args : Array Value} {below : List Frame} {meth : Method} {c : Code} {D : va_G} {ca : Nat → ClassId} {α : Nat → Nat} {A : Nat → Prop} {o : Int32 × mS} (C : mC p s m args c cX12_thing 5 D ca) (hr : meth.sig.returnType = some .int) (hlk : meth.locks = false) : ∀ (σ : mS) (x1 : Int32) (x2 : Int32) (x3 : Int32) (x4 : Int32) (H : Heap) (locs : List Loc) (ls : Array Slot), mM D ca α A s.heap σ H locs → lv_has ls 5 [(0, .ref (α 0)), (1, .int x1), (2, .int x2), (3, .int x3), (4, .int x4)] → fm_thing_17 σ x1 x2 x3 x4 = some o → mGI p l e rmX12_thing s m args below meth c D ca α A o H locs 17 ls [.ref (α 0)] := by
  have hx := C.1
  have hb := C.2.1
  intro σ x1 x2 x3 x4 H locs ls hM hl h
  unfold fm_thing_17 at h
  refine lv_iconst (v := (1 : Int32)) hx hb dX12_thing_17 (by decide) ?_
  refine lv_goto (tgt := 57) hx hb dX12_thing_18 (by decide) ?_
  exact gm_thing_57 C hr hlk  _ _ _ _ _ _ _ _ _ hM (lv_sub hl [0, 1, 2, 3, 4] rfl) h
def fm_thing_52 (σ : mS) (x1 : Int32) (x2 : Int32) (x3 : Int32) (x4 : Int32) : Option (Int32 × mS) :=
  fm_thing_57 σ x1 x2 x3 x4 (2 : Int32)
set_option maxHeartbeats 4000000 in
set_option maxRecDepth 100000 in
theorem gm_thing_52 {p : Program} {l : Launch} {e : Env} {s : State} {m : MethodId} {args : Array Value} {below : List Frame} {meth : Method} {c : Code} {D : va_G} {ca : Nat → ClassId} {α : Nat → Nat} {A : Nat → Prop} {o : Int32 × mS} (C : mC p s m args c cX12_thing 5 D ca) (hr : meth.sig.returnType = some .int) (hlk : meth.locks = false) : ∀ (σ : mS) (x1 : Int32) (x2 : Int32) (x3 : Int32) (x4 : Int32) (H : Heap) (locs : List Loc) (ls : Array Slot), mM D ca α A s.heap σ H locs → lv_has ls 5 [(0, .ref (α 0)), (1, .int x1), (2, .int x2), (3, .int x3), (4, .int x4)] → fm_thing_52 σ x1 x2 x3 x4 = some o → mGI p l e rmX12_thing s m args below meth c D ca α A o H locs 52 ls [.ref (α 0)] := by
  have hx := C.1
  have hb := C.2.1
  intro σ x1 x2 x3 x4 H locs ls hM hl h
  unfold fm_thing_52 at h
  refine lv_iconst (v := (2 : Int32)) hx hb dX12_thing_52 (by decide) ?_
  refine lv_goto (tgt := 57) hx hb dX12_thing_53 (by decide) ?_
  exact gm_thing_57 C hr hlk  _ _ _ _ _ _ _ _ _ hM (lv_sub hl [0, 1, 2, 3, 4] rfl) h
def fm_thing_56 (σ : mS) (x1 : Int32) (x2 : Int32) (x3 : Int32) (x4 : Int32) : Option (Int32 × mS) :=
  fm_thing_57 σ x1 x2 x3 x4 (0 : Int32)
set_option maxHeartbeats 4000000 in
set_option maxRecDepth 100000 in
theorem gm_thing_56 {p : Program} {l : Launch} {e : Env} {s : State} {m : MethodId} {args : Array Value} {below : List Frame} {meth : Method} {c : Code} {D : va_G} {ca : Nat → ClassId} {α : Nat → Nat} {A : Nat → Prop} {o : Int32 × mS} (C : mC p s m args c cX12_thing 5 D ca) (hr : meth.sig.returnType = some .int) (hlk : meth.locks = false) : ∀ (σ : mS) (x1 : Int32) (x2 : Int32) (x3 : Int32) (x4 : Int32) (H : Heap) (locs : List Loc) (ls : Array Slot), mM D ca α A s.heap σ H locs → lv_has ls 5 [(0, .ref (α 0)), (1, .int x1), (2, .int x2), (3, .int x3), (4, .int x4)] → fm_thing_56 σ x1 x2 x3 x4 = some o → mGI p l e rmX12_thing s m args below meth c D ca α A o H locs 56 ls [.ref (α 0)] := by
  have hx := C.1
  have hb := C.2.1
  intro σ x1 x2 x3 x4 H locs ls hM hl h
  unfold fm_thing_56 at h
  refine lv_iconst (v := (0 : Int32)) hx hb dX12_thing_56 (by decide) ?_
  exact gm_thing_57 C hr hlk  _ _ _ _ _ _ _ _ _ hM (lv_sub hl [0, 1, 2, 3, 4] rfl) h
def fm_thing (σ : mS) (x1 : Int32) (x2 : Int32) (x3 : Int32) (x4 : Int32) : Option (Int32 × mS) :=
  (fm_isWord σ x1).bind fun r_1 =>
  if r_1.1 = 0 then
    fm_thing_17 r_1.2 x1 x2 x3 x4
  else
    (fm_isRoom r_1.2 x2).bind fun r_2 =>
    if r_2.1 = 0 then
      fm_thing_17 r_2.2 x1 x2 x3 x4
    else
      (fm_isBetween x3 (1 : Int32) (9 : Int32)).bind fun r_3 =>
      if r_3 = 0 then
        fm_thing_52 r_2.2 x1 x2 x3 x4
      else
        if x4 = (112 : Int32) then
          fm_thing_56 r_2.2 x1 x2 x3 x4
        else
          if x4 = (108 : Int32) then
            fm_thing_56 r_2.2 x1 x2 x3 x4
          else
            if x4 = (98 : Int32) then
              fm_thing_56 r_2.2 x1 x2 x3 x4
            else
              fm_thing_52 r_2.2 x1 x2 x3 x4
set_option maxHeartbeats 4000000 in
set_option maxRecDepth 100000 in
theorem cm_thing (l : Launch) (D : va_G) (ca : Nat → ClassId) (α : Nat → Nat) (A : Nat → Prop) (σ : mS) (x1 : Int32) (x2 : Int32) (x3 : Int32) (x4 : Int32) (o : Int32 × mS) (h : fm_thing σ x1 x2 x3 x4 = some o) : mMetI l yX12_thing cX12_thing 5 (some .int) rmX12_thing D ca α A σ [.int x1, .int x2, .int x3, .int x4] o := by
  refine Met.ofW (cc := cX12_thing) (maxL := 5) (ret := some .int) (by decide) rfl ?_
  intro p e s m args below meth c s₁ B hml hv
  obtain ⟨rfl, hP, hK, hD0⟩ := hv
  have C : mC p s m _ c cX12_thing 5 D ca := ⟨B.exec, B.bytes, hml, findClass_of_methodNamed B.named, fun w hw => atoms_spec (ws := mWs yX12_thing cX12_thing 5 (some .int)) B.pre w (List.mem_cons_of_mem _ hw), hK⟩
  have hM : mM D ca α A s.heap σ s.heap [] := ⟨hP, hD0, va_S.rf⟩
  have hr := B.returns
  have hlk := B.notSynchronized
  have hx := C.1
  have hb := C.2.1
  have hl := lv_entry ([.ref (α 0), .int x1, .int x2, .int x3, .int x4]) (n := 5) (Nat.le_of_ble_eq_true rfl)
  rw [lg_entry_eq]
  generalize (lg_sl ([.ref (α 0), .int x1, .int x2, .int x3, .int x4]) ++ List.replicate (5 - (lg_sl ([.ref (α 0), .int x1, .int x2, .int x3, .int x4])).length) Slot.unset).toArray = ls at hl ⊢
  have hl : lv_has ls 5 [(0, .ref (α 0)), (1, .int x1), (2, .int x2), (3, .int x3), (4, .int x4)] := hl
  unfold fm_thing at h
  refine lv_aload_n hx hb dX12_thing_0 rfl (lv_at hl 0 rfl) ?_
  refine lv_aload_n hx hb dX12_thing_1 rfl (lv_at hl 0 rfl) ?_
  refine lv_iload_n hx hb dX12_thing_2 rfl (lv_at hl 1 rfl) ?_
  obtain ⟨r_1, hr_1, h⟩ := bd_of h
  refine m_cVi (As := [.int x1]) (rest := [.ref (α 0)]) C hM (cm_isWord l D ca α A σ x1 r_1 hr_1) mwy_isWord ⟨rfl, rfl⟩ ⟨Nat.le_of_ble_eq_true rfl, Nat.le_of_ble_eq_true rfl⟩ rfl rfl (Nat.le_of_ble_eq_true rfl) hl.1 dX12_thing_3 ⟨rfl, rfl⟩ (fun H locs hM => ?_)
  refine lv_if_eq (tgt := 17) hx hb dX12_thing_6 (by decide) (fun c_1 => ?_) (fun c_1 => ?_)
  · have h := br_T c_1 h
    exact gm_thing_17 C hr hlk  _ _ _ _ _ _ _ _ hM (lv_sub hl [0, 1, 2, 3, 4] rfl) h
  · have h := br_F c_1 h
    refine lv_aload_n hx hb dX12_thing_9 rfl (lv_at hl 0 rfl) ?_
    refine lv_iload_n hx hb dX12_thing_10 rfl (lv_at hl 2 rfl) ?_
    obtain ⟨r_2, hr_2, h⟩ := bd_of h
    refine m_cVi (As := [.int x2]) (rest := [.ref (α 0)]) C hM (cm_isRoom l D ca α A r_1.2 x2 r_2 hr_2) mwy_isRoom ⟨rfl, rfl⟩ ⟨Nat.le_of_ble_eq_true rfl, Nat.le_of_ble_eq_true rfl⟩ rfl rfl (Nat.le_of_ble_eq_true rfl) hl.1 dX12_thing_11 ⟨rfl, rfl⟩ (fun H locs hM => ?_)
    refine lv_if_ne (tgt := 21) hx hb dX12_thing_14 (by decide) (fun c_2 => ?_) (fun c_2 => ?_)
    · have h := br_F c_2 h
      refine lv_iload_n hx hb dX12_thing_21 rfl (lv_at hl 3 rfl) ?_
      refine lv_iconst (v := (1 : Int32)) hx hb dX12_thing_22 (by decide) ?_
      refine lv_bipush (v := (9 : Int32)) hx hb dX12_thing_23 (by decide) ?_
      obtain ⟨r_3, hr_3, h⟩ := bd_of h
      refine m_cSi (As := [.int x3, .int (1 : Int32), .int (9 : Int32)]) (rest := [.ref (α 0)]) C hM (cm_isBetween l D ca α A r_2.2 x3 (1 : Int32) (9 : Int32) r_3 hr_3) mwy_isBetween ⟨rfl, rfl⟩ ⟨Nat.le_of_ble_eq_true rfl, Nat.le_of_ble_eq_true rfl⟩ rfl rfl (Nat.le_of_ble_eq_true rfl) hl.1 dX12_thing_25 ⟨rfl, rfl⟩ (fun H locs hM => ?_)
      refine lv_if_eq (tgt := 52) hx hb dX12_thing_28 (by decide) (fun c_3 => ?_) (fun c_3 => ?_)
      · have h := br_T c_3 h
        exact gm_thing_52 C hr hlk  _ _ _ _ _ _ _ _ hM (lv_sub hl [0, 1, 2, 3, 4] rfl) h
      · have h := br_F c_3 h
        refine lv_iload hx hb dX12_thing_31 (lv_at hl 4 rfl) ?_
        refine lv_bipush (v := (112 : Int32)) hx hb dX12_thing_33 (by decide) ?_
        refine lv_icmp_eq (tgt := 56) hx hb dX12_thing_35 (by decide) (fun c_4 => ?_) (fun c_4 => ?_)
        · have h := br_T c_4 h
          exact gm_thing_56 C hr hlk  _ _ _ _ _ _ _ _ hM (lv_sub hl [0, 1, 2, 3, 4] rfl) h
        · have h := br_F c_4 h
          refine lv_iload hx hb dX12_thing_38 (lv_at hl 4 rfl) ?_
          refine lv_bipush (v := (108 : Int32)) hx hb dX12_thing_40 (by decide) ?_
          refine lv_icmp_eq (tgt := 56) hx hb dX12_thing_42 (by decide) (fun c_5 => ?_) (fun c_5 => ?_)
          · have h := br_T c_5 h
            exact gm_thing_56 C hr hlk  _ _ _ _ _ _ _ _ hM (lv_sub hl [0, 1, 2, 3, 4] rfl) h
          · have h := br_F c_5 h
            refine lv_iload hx hb dX12_thing_45 (lv_at hl 4 rfl) ?_
            refine lv_bipush (v := (98 : Int32)) hx hb dX12_thing_47 (by decide) ?_
            refine lv_icmp_eq (tgt := 56) hx hb dX12_thing_49 (by decide) (fun c_6 => ?_) (fun c_6 => ?_)
            · have h := br_T c_6 h
              exact gm_thing_56 C hr hlk  _ _ _ _ _ _ _ _ hM (lv_sub hl [0, 1, 2, 3, 4] rfl) h
            · have h := br_F c_6 h
              exact gm_thing_52 C hr hlk  _ _ _ _ _ _ _ _ hM (lv_sub hl [0, 1, 2, 3, 4] rfl) h
    · have h := br_T c_2 h
      exact gm_thing_17 C hr hlk  _ _ _ _ _ _ _ _ hM (lv_sub hl [0, 1, 2, 3, 4] rfl) h
/-! fuel(II)I -/
abbrev rmX12_fuel : Room := { frames := 2, cells := 0, slots := 0, locals := 43 }
def fm_fuel_54 (σ : mS) (x1 : Int32) (x2 : Int32) (s0 : Int32) : Option (Int32 × mS) :=
  (fm_isWrong σ s0).bind fun r_1 =>
  if r_1.1 = 0 then
    if x1 < 0 ∨ 12 ≤ x1.toNatClampNeg then none else
    if x1 < 0 ∨ 12 ≤ x1.toNatClampNeg then none else
    some ((r_1.2.2.2.1 14 x1.toNatClampNeg), (mA r_1.2 14 x1.toNatClampNeg x2))
  else
    some ((0 : Int32), r_1.2)
set_option maxHeartbeats 4000000 in
set_option maxRecDepth 100000 in
theorem gm_fuel_54 {p : Program} {l : Launch} {e : Env} {s : State} {m : MethodId} {args : Array Value} {below : List Frame} {meth : Method} {c : Code} {D : va_G} {ca : Nat → ClassId} {α : Nat → Nat} {A : Nat → Prop} {o : Int32 × mS} (C : mC p s m args c cX12_fuel 4 D ca) (hr : meth.sig.returnType = some .int) (hlk : meth.locks = false) : ∀ (σ : mS) (x1 : Int32) (x2 : Int32) (s0 : Int32) (H : Heap) (locs : List Loc) (ls : Array Slot), mM D ca α A s.heap σ H locs → lv_has ls 4 [(0, .ref (α 0)), (1, .int x1), (2, .int x2)] → fm_fuel_54 σ x1 x2 s0 = some o → mGI p l e rmX12_fuel s m args below meth c D ca α A o H locs 54 ls [.int s0, .ref (α 0)] := by
  have hx := C.1
  have hb := C.2.1
  intro σ x1 x2 s0 H locs ls hM hl h
  unfold fm_fuel_54 at h
  obtain ⟨r_1, hr_1, h⟩ := bd_of h
  refine m_cVi (As := [.int s0]) (rest := []) C hM (cm_isWrong l D ca α A σ s0 r_1 hr_1) mwy_isWrong ⟨rfl, rfl⟩ ⟨Nat.le_of_ble_eq_true rfl, Nat.le_of_ble_eq_true rfl⟩ rfl rfl (Nat.le_of_ble_eq_true rfl) hl.1 dX12_fuel_54 ⟨rfl, rfl⟩ (fun H locs hM => ?_)
  refine lv_if_eq (tgt := 62) hx hb dX12_fuel_57 (by decide) (fun c_1 => ?_) (fun c_1 => ?_)
  · have h := br_T c_1 h
    refine lv_aload_n hx hb dX12_fuel_62 rfl (lv_at hl 0 rfl) ?_
    refine m_geta C hM (k := 14) (by decide) rfl dX12_fuel_63 ?_
    refine lv_iload_n hx hb dX12_fuel_66 rfl (lv_at hl 1 rfl) ?_
    obtain ⟨c_2, h⟩ := ko_of h
    refine m_iald C hM (k := 14) rfl c_2 dX12_fuel_67 ?_
    refine lv_istore_n (lv' := [(3, .int (r_1.2.2.2.1 14 x1.toNatClampNeg)), (0, .ref (α 0)), (1, .int x1), (2, .int x2)]) hx hb dX12_fuel_68 rfl hl (by decide) rfl (fun ls hl => ?_)
    refine lv_aload_n hx hb dX12_fuel_69 rfl (lv_at hl 1 rfl) ?_
    refine m_geta C hM (k := 14) (by decide) rfl dX12_fuel_70 ?_
    refine lv_iload_n hx hb dX12_fuel_73 rfl (lv_at hl 2 rfl) ?_
    refine lv_iload_n hx hb dX12_fuel_74 rfl (lv_at hl 3 rfl) ?_
    obtain ⟨c_3, h⟩ := ko_of h
    refine m_iast C hM (k := 14) rfl c_3 dX12_fuel_75 (fun H locs hM => ?_)
    refine lv_iload_n hx hb dX12_fuel_76 rfl (lv_at hl 0 rfl) ?_
    exact m_ri C hM hr hlk dX12_fuel_77 h
  · have h := br_F c_1 h
    refine lv_iconst (v := (0 : Int32)) hx hb dX12_fuel_60 (by decide) ?_
    exact m_ri C hM hr hlk dX12_fuel_61 h
def fm_fuel (σ : mS) (x1 : Int32) (x2 : Int32) : Option (Int32 × mS) :=
  (fm_isThing σ x1).bind fun r_1 =>
  if r_1.1 = 0 then
    fm_fuel_54 r_1.2 x1 x2 (1 : Int32)
  else
    (fm_isBetween x2 (0 : Int32) (99 : Int32)).bind fun r_2 =>
    if r_2 = 0 then
      fm_fuel_54 r_1.2 x1 x2 (2 : Int32)
    else
      if x1 < 0 ∨ 12 ≤ x1.toNatClampNeg then none else
      if (r_1.2.2.2.1 13 x1.toNatClampNeg) = (108 : Int32) then
        if (r_1.2.1 20) = 0 then
          fm_fuel_54 r_1.2 x1 x2 (0 : Int32)
        else
          fm_fuel_54 r_1.2 x1 x2 (4 : Int32)
      else
        fm_fuel_54 r_1.2 x1 x2 (3 : Int32)
set_option maxHeartbeats 4000000 in
set_option maxRecDepth 100000 in
theorem cm_fuel (l : Launch) (D : va_G) (ca : Nat → ClassId) (α : Nat → Nat) (A : Nat → Prop) (σ : mS) (x1 : Int32) (x2 : Int32) (o : Int32 × mS) (h : fm_fuel σ x1 x2 = some o) : mMetI l yX12_fuel cX12_fuel 4 (some .int) rmX12_fuel D ca α A σ [.int x1, .int x2] o := by
  refine Met.ofW (cc := cX12_fuel) (maxL := 4) (ret := some .int) (by decide) rfl ?_
  intro p e s m args below meth c s₁ B hml hv
  obtain ⟨rfl, hP, hK, hD0⟩ := hv
  have C : mC p s m _ c cX12_fuel 4 D ca := ⟨B.exec, B.bytes, hml, findClass_of_methodNamed B.named, fun w hw => atoms_spec (ws := mWs yX12_fuel cX12_fuel 4 (some .int)) B.pre w (List.mem_cons_of_mem _ hw), hK⟩
  have hM : mM D ca α A s.heap σ s.heap [] := ⟨hP, hD0, va_S.rf⟩
  have hr := B.returns
  have hlk := B.notSynchronized
  have hx := C.1
  have hb := C.2.1
  have hl := lv_entry ([.ref (α 0), .int x1, .int x2]) (n := 4) (Nat.le_of_ble_eq_true rfl)
  rw [lg_entry_eq]
  generalize (lg_sl ([.ref (α 0), .int x1, .int x2]) ++ List.replicate (4 - (lg_sl ([.ref (α 0), .int x1, .int x2])).length) Slot.unset).toArray = ls at hl ⊢
  have hl : lv_has ls 4 [(0, .ref (α 0)), (1, .int x1), (2, .int x2)] := hl
  unfold fm_fuel at h
  refine lv_aload_n hx hb dX12_fuel_0 rfl (lv_at hl 0 rfl) ?_
  refine lv_aload_n hx hb dX12_fuel_1 rfl (lv_at hl 0 rfl) ?_
  refine lv_iload_n hx hb dX12_fuel_2 rfl (lv_at hl 1 rfl) ?_
  obtain ⟨r_1, hr_1, h⟩ := bd_of h
  refine m_cVi (As := [.int x1]) (rest := [.ref (α 0)]) C hM (cm_isThing l D ca α A σ x1 r_1 hr_1) mwy_isThing ⟨rfl, rfl⟩ ⟨Nat.le_of_ble_eq_true rfl, Nat.le_of_ble_eq_true rfl⟩ rfl rfl (Nat.le_of_ble_eq_true rfl) hl.1 dX12_fuel_3 ⟨rfl, rfl⟩ (fun H locs hM => ?_)
  refine lv_if_ne (tgt := 13) hx hb dX12_fuel_6 (by decide) (fun c_1 => ?_) (fun c_1 => ?_)
  · have h := br_F c_1 h
    refine lv_iload_n hx hb dX12_fuel_13 rfl (lv_at hl 2 rfl) ?_
    refine lv_iconst (v := (0 : Int32)) hx hb dX12_fuel_14 (by decide) ?_
    refine lv_bipush (v := (99 : Int32)) hx hb dX12_fuel_15 (by decide) ?_
    obtain ⟨r_2, hr_2, h⟩ := bd_of h
    refine m_cSi (As := [.int x2, .int (0 : Int32), .int (99 : Int32)]) (rest := [.ref (α 0)]) C hM (cm_isBetween l D ca α A r_1.2 x2 (0 : Int32) (99 : Int32) r_2 hr_2) mwy_isBetween ⟨rfl, rfl⟩ ⟨Nat.le_of_ble_eq_true rfl, Nat.le_of_ble_eq_true rfl⟩ rfl rfl (Nat.le_of_ble_eq_true rfl) hl.1 dX12_fuel_17 ⟨rfl, rfl⟩ (fun H locs hM => ?_)
    refine lv_if_ne (tgt := 27) hx hb dX12_fuel_20 (by decide) (fun c_2 => ?_) (fun c_2 => ?_)
    · have h := br_F c_2 h
      refine lv_aload_n hx hb dX12_fuel_27 rfl (lv_at hl 0 rfl) ?_
      refine m_geta C hM (k := 13) (by decide) rfl dX12_fuel_28 ?_
      refine lv_iload_n hx hb dX12_fuel_31 rfl (lv_at hl 1 rfl) ?_
      obtain ⟨c_3, h⟩ := ko_of h
      refine m_cald C hM (k := 13) rfl c_3 dX12_fuel_32 ?_
      refine lv_bipush (v := (108 : Int32)) hx hb dX12_fuel_33 (by decide) ?_
      refine lv_icmp_eq (tgt := 42) hx hb dX12_fuel_35 (by decide) (fun c_4 => ?_) (fun c_4 => ?_)
      · have h := br_T c_4 h
        refine lv_aload_n hx hb dX12_fuel_42 rfl (lv_at hl 0 rfl) ?_
        refine m_geti C hM (k := 20) (Or.inr rfl) rfl dX12_fuel_43 ?_
        refine lv_if_eq (tgt := 53) hx hb dX12_fuel_46 (by decide) (fun c_5 => ?_) (fun c_5 => ?_)
        · have h := br_T c_5 h
          refine lv_iconst (v := (0 : Int32)) hx hb dX12_fuel_53 (by decide) ?_
          exact gm_fuel_54 C hr hlk  _ _ _ _ _ _ _ hM (lv_sub hl [0, 1, 2] rfl) h
        · have h := br_F c_5 h
          refine lv_iconst (v := (4 : Int32)) hx hb dX12_fuel_49 (by decide) ?_
          refine lv_goto (tgt := 54) hx hb dX12_fuel_50 (by decide) ?_
          exact gm_fuel_54 C hr hlk  _ _ _ _ _ _ _ hM (lv_sub hl [0, 1, 2] rfl) h
      · have h := br_F c_4 h
        refine lv_iconst (v := (3 : Int32)) hx hb dX12_fuel_38 (by decide) ?_
        refine lv_goto (tgt := 54) hx hb dX12_fuel_39 (by decide) ?_
        exact gm_fuel_54 C hr hlk  _ _ _ _ _ _ _ hM (lv_sub hl [0, 1, 2] rfl) h
    · have h := br_T c_2 h
      refine lv_iconst (v := (2 : Int32)) hx hb dX12_fuel_23 (by decide) ?_
      refine lv_goto (tgt := 54) hx hb dX12_fuel_24 (by decide) ?_
      exact gm_fuel_54 C hr hlk  _ _ _ _ _ _ _ hM (lv_sub hl [0, 1, 2] rfl) h
  · have h := br_T c_1 h
    refine lv_iconst (v := (1 : Int32)) hx hb dX12_fuel_9 (by decide) ?_
    refine lv_goto (tgt := 54) hx hb dX12_fuel_10 (by decide) ?_
    exact gm_fuel_54 C hr hlk  _ _ _ _ _ _ _ hM (lv_sub hl [0, 1, 2] rfl) h
/-! tell(II)I -/
abbrev rmX12_tell : Room := { frames := 2, cells := 0, slots := 0, locals := 45 }
def fm_tell_33 (σ : mS) (x1 : Int32) (x2 : Int32) (s0 : Int32) : Option (Int32 × mS) :=
  (fm_isWrong σ s0).bind fun r_1 =>
  if r_1.1 = 0 then
    if x1 < 0 ∨ 12 ≤ x1.toNatClampNeg then none else
    if x1 < 0 ∨ 12 ≤ x1.toNatClampNeg then none else
    if x1 < 0 ∨ 12 ≤ x1.toNatClampNeg then none else
    (fm_bits ((mL r_1.2 15 x1.toNatClampNeg ((r_1.2.2.2.2 15 x1.toNatClampNeg) ||| ((1 : Int64) <<< (x2.toInt64 &&& 63)))).2.2.2 15 x1.toNatClampNeg)).bind fun r_2 =>
    some (r_2, (mL r_1.2 15 x1.toNatClampNeg ((r_1.2.2.2.2 15 x1.toNatClampNeg) ||| ((1 : Int64) <<< (x2.toInt64 &&& 63)))))
  else
    some ((0 : Int32), r_1.2)
set_option maxHeartbeats 4000000 in
set_option maxRecDepth 100000 in
theorem gm_tell_33 {p : Program} {l : Launch} {e : Env} {s : State} {m : MethodId} {args : Array Value} {below : List Frame} {meth : Method} {c : Code} {D : va_G} {ca : Nat → ClassId} {α : Nat → Nat} {A : Nat → Prop} {o : Int32 × mS} (C : mC p s m args c cX12_tell 3 D ca) (hr : meth.sig.returnType = some .int) (hlk : meth.locks = false) : ∀ (σ : mS) (x1 : Int32) (x2 : Int32) (s0 : Int32) (H : Heap) (locs : List Loc) (ls : Array Slot), mM D ca α A s.heap σ H locs → lv_has ls 3 [(0, .ref (α 0)), (1, .int x1), (2, .int x2)] → fm_tell_33 σ x1 x2 s0 = some o → mGI p l e rmX12_tell s m args below meth c D ca α A o H locs 33 ls [.int s0, .ref (α 0)] := by
  have hx := C.1
  have hb := C.2.1
  intro σ x1 x2 s0 H locs ls hM hl h
  unfold fm_tell_33 at h
  obtain ⟨r_1, hr_1, h⟩ := bd_of h
  refine m_cVi (As := [.int s0]) (rest := []) C hM (cm_isWrong l D ca α A σ s0 r_1 hr_1) mwy_isWrong ⟨rfl, rfl⟩ ⟨Nat.le_of_ble_eq_true rfl, Nat.le_of_ble_eq_true rfl⟩ rfl rfl (Nat.le_of_ble_eq_true rfl) hl.1 dX12_tell_33 ⟨rfl, rfl⟩ (fun H locs hM => ?_)
  refine lv_if_eq (tgt := 41) hx hb dX12_tell_36 (by decide) (fun c_1 => ?_) (fun c_1 => ?_)
  · have h := br_T c_1 h
    refine lv_aload_n hx hb dX12_tell_41 rfl (lv_at hl 0 rfl) ?_
    refine m_geta C hM (k := 15) (by decide) rfl dX12_tell_42 ?_
    refine lv_iload_n hx hb dX12_tell_45 rfl (lv_at hl 1 rfl) ?_
    refine lv_dup2_11 hx hb dX12_tell_46 rfl rfl ?_
    obtain ⟨c_2, h⟩ := ko_of h
    refine m_lald C hM (k := 15) rfl c_2 dX12_tell_47 ?_
    refine lv_lconst (v := (1 : Int64)) hx hb dX12_tell_48 (by decide) ?_
    refine lv_iload_n hx hb dX12_tell_49 rfl (lv_at hl 2 rfl) ?_
    refine lv_lshl (v := ((1 : Int64) <<< (x2.toInt64 &&& 63))) hx hb dX12_tell_50 rfl ?_
    refine lv_lor hx hb dX12_tell_51 ?_
    obtain ⟨c_3, h⟩ := ko_of h
    refine m_last C hM (k := 15) rfl c_3 dX12_tell_52 (fun H locs hM => ?_)
    refine lv_aload_n hx hb dX12_tell_53 rfl (lv_at hl 0 rfl) ?_
    refine m_geta C hM (k := 15) (by decide) rfl dX12_tell_54 ?_
    refine lv_iload_n hx hb dX12_tell_57 rfl (lv_at hl 1 rfl) ?_
    obtain ⟨c_4, h⟩ := ko_of h
    refine m_lald C hM (k := 15) rfl c_4 dX12_tell_58 ?_
    obtain ⟨r_2, hr_2, h⟩ := bd_of h
    refine m_cSi (As := [.long ((mL r_1.2 15 x1.toNatClampNeg ((r_1.2.2.2.2 15 x1.toNatClampNeg) ||| ((1 : Int64) <<< (x2.toInt64 &&& 63)))).2.2.2 15 x1.toNatClampNeg)]) (rest := []) C hM (cm_bits l D ca α A (mL r_1.2 15 x1.toNatClampNeg ((r_1.2.2.2.2 15 x1.toNatClampNeg) ||| ((1 : Int64) <<< (x2.toInt64 &&& 63)))) ((mL r_1.2 15 x1.toNatClampNeg ((r_1.2.2.2.2 15 x1.toNatClampNeg) ||| ((1 : Int64) <<< (x2.toInt64 &&& 63)))).2.2.2 15 x1.toNatClampNeg) r_2 hr_2) mwy_bits ⟨rfl, rfl⟩ ⟨Nat.le_of_ble_eq_true rfl, Nat.le_of_ble_eq_true rfl⟩ rfl rfl (Nat.le_of_ble_eq_true rfl) hl.1 dX12_tell_59 ⟨rfl, rfl⟩ (fun H locs hM => ?_)
    exact m_ri C hM hr hlk dX12_tell_62 h
  · have h := br_F c_1 h
    refine lv_iconst (v := (0 : Int32)) hx hb dX12_tell_39 (by decide) ?_
    exact m_ri C hM hr hlk dX12_tell_40 h
def fm_tell_17 (σ : mS) (x1 : Int32) (x2 : Int32) : Option (Int32 × mS) :=
  fm_tell_33 σ x1 x2 (1 : Int32)
set_option maxHeartbeats 4000000 in
set_option maxRecDepth 100000 in
theorem gm_tell_17 {p : Program} {l : Launch} {e : Env} {s : State} {m : MethodId} {args : Array Value} {below : List Frame} {meth : Method} {c : Code} {D : va_G} {ca : Nat → ClassId} {α : Nat → Nat} {A : Nat → Prop} {o : Int32 × mS} (C : mC p s m args c cX12_tell 3 D ca) (hr : meth.sig.returnType = some .int) (hlk : meth.locks = false) : ∀ (σ : mS) (x1 : Int32) (x2 : Int32) (H : Heap) (locs : List Loc) (ls : Array Slot), mM D ca α A s.heap σ H locs → lv_has ls 3 [(0, .ref (α 0)), (1, .int x1), (2, .int x2)] → fm_tell_17 σ x1 x2 = some o → mGI p l e rmX12_tell s m args below meth c D ca α A o H locs 17 ls [.ref (α 0)] := by
  have hx := C.1
  have hb := C.2.1
  intro σ x1 x2 H locs ls hM hl h
  unfold fm_tell_17 at h
  refine lv_iconst (v := (1 : Int32)) hx hb dX12_tell_17 (by decide) ?_
  refine lv_goto (tgt := 33) hx hb dX12_tell_18 (by decide) ?_
  exact gm_tell_33 C hr hlk  _ _ _ _ _ _ _ hM (lv_sub hl [0, 1, 2] rfl) h
def fm_tell (σ : mS) (x1 : Int32) (x2 : Int32) : Option (Int32 × mS) :=
  (fm_isThing σ x1).bind fun r_1 =>
  if r_1.1 = 0 then
    fm_tell_17 r_1.2 x1 x2
  else
    (fm_isWord r_1.2 x2).bind fun r_2 =>
    if r_2.1 = 0 then
      fm_tell_17 r_2.2 x1 x2
    else
      if (r_2.2.1 20) = 0 then
        fm_tell_33 r_2.2 x1 x2 (0 : Int32)
      else
        fm_tell_33 r_2.2 x1 x2 (2 : Int32)
set_option maxHeartbeats 4000000 in
set_option maxRecDepth 100000 in
theorem cm_tell (l : Launch) (D : va_G) (ca : Nat → ClassId) (α : Nat → Nat) (A : Nat → Prop) (σ : mS) (x1 : Int32) (x2 : Int32) (o : Int32 × mS) (h : fm_tell σ x1 x2 = some o) : mMetI l yX12_tell cX12_tell 3 (some .int) rmX12_tell D ca α A σ [.int x1, .int x2] o := by
  refine Met.ofW (cc := cX12_tell) (maxL := 3) (ret := some .int) (by decide) rfl ?_
  intro p e s m args below meth c s₁ B hml hv
  obtain ⟨rfl, hP, hK, hD0⟩ := hv
  have C : mC p s m _ c cX12_tell 3 D ca := ⟨B.exec, B.bytes, hml, findClass_of_methodNamed B.named, fun w hw => atoms_spec (ws := mWs yX12_tell cX12_tell 3 (some .int)) B.pre w (List.mem_cons_of_mem _ hw), hK⟩
  have hM : mM D ca α A s.heap σ s.heap [] := ⟨hP, hD0, va_S.rf⟩
  have hr := B.returns
  have hlk := B.notSynchronized
  have hx := C.1
  have hb := C.2.1
  have hl := lv_entry ([.ref (α 0), .int x1, .int x2]) (n := 3) (Nat.le_of_ble_eq_true rfl)
  rw [lg_entry_eq]
  generalize (lg_sl ([.ref (α 0), .int x1, .int x2]) ++ List.replicate (3 - (lg_sl ([.ref (α 0), .int x1, .int x2])).length) Slot.unset).toArray = ls at hl ⊢
  have hl : lv_has ls 3 [(0, .ref (α 0)), (1, .int x1), (2, .int x2)] := hl
  unfold fm_tell at h
  refine lv_aload_n hx hb dX12_tell_0 rfl (lv_at hl 0 rfl) ?_
  refine lv_aload_n hx hb dX12_tell_1 rfl (lv_at hl 0 rfl) ?_
  refine lv_iload_n hx hb dX12_tell_2 rfl (lv_at hl 1 rfl) ?_
  obtain ⟨r_1, hr_1, h⟩ := bd_of h
  refine m_cVi (As := [.int x1]) (rest := [.ref (α 0)]) C hM (cm_isThing l D ca α A σ x1 r_1 hr_1) mwy_isThing ⟨rfl, rfl⟩ ⟨Nat.le_of_ble_eq_true rfl, Nat.le_of_ble_eq_true rfl⟩ rfl rfl (Nat.le_of_ble_eq_true rfl) hl.1 dX12_tell_3 ⟨rfl, rfl⟩ (fun H locs hM => ?_)
  refine lv_if_eq (tgt := 17) hx hb dX12_tell_6 (by decide) (fun c_1 => ?_) (fun c_1 => ?_)
  · have h := br_T c_1 h
    exact gm_tell_17 C hr hlk  _ _ _ _ _ _ hM (lv_sub hl [0, 1, 2] rfl) h
  · have h := br_F c_1 h
    refine lv_aload_n hx hb dX12_tell_9 rfl (lv_at hl 0 rfl) ?_
    refine lv_iload_n hx hb dX12_tell_10 rfl (lv_at hl 2 rfl) ?_
    obtain ⟨r_2, hr_2, h⟩ := bd_of h
    refine m_cVi (As := [.int x2]) (rest := [.ref (α 0)]) C hM (cm_isWord l D ca α A r_1.2 x2 r_2 hr_2) mwy_isWord ⟨rfl, rfl⟩ ⟨Nat.le_of_ble_eq_true rfl, Nat.le_of_ble_eq_true rfl⟩ rfl rfl (Nat.le_of_ble_eq_true rfl) hl.1 dX12_tell_11 ⟨rfl, rfl⟩ (fun H locs hM => ?_)
    refine lv_if_ne (tgt := 21) hx hb dX12_tell_14 (by decide) (fun c_2 => ?_) (fun c_2 => ?_)
    · have h := br_F c_2 h
      refine lv_aload_n hx hb dX12_tell_21 rfl (lv_at hl 0 rfl) ?_
      refine m_geti C hM (k := 20) (Or.inr rfl) rfl dX12_tell_22 ?_
      refine lv_if_eq (tgt := 32) hx hb dX12_tell_25 (by decide) (fun c_3 => ?_) (fun c_3 => ?_)
      · have h := br_T c_3 h
        refine lv_iconst (v := (0 : Int32)) hx hb dX12_tell_32 (by decide) ?_
        exact gm_tell_33 C hr hlk  _ _ _ _ _ _ _ hM (lv_sub hl [0, 1, 2] rfl) h
      · have h := br_F c_3 h
        refine lv_iconst (v := (2 : Int32)) hx hb dX12_tell_28 (by decide) ?_
        refine lv_goto (tgt := 33) hx hb dX12_tell_29 (by decide) ?_
        exact gm_tell_33 C hr hlk  _ _ _ _ _ _ _ hM (lv_sub hl [0, 1, 2] rfl) h
    · have h := br_T c_2 h
      exact gm_tell_17 C hr hlk  _ _ _ _ _ _ hM (lv_sub hl [0, 1, 2] rfl) h
/-! goal(II)I -/
abbrev rmX12_goal : Room := { frames := 2, cells := 0, slots := 0, locals := 43 }
def fm_goal_42 (σ : mS) (x1 : Int32) (x2 : Int32) (s0 : Int32) : Option (Int32 × mS) :=
  (fm_isWrong σ s0).bind fun r_1 =>
  if r_1.1 = 0 then
    if (r_1.2.1 19) < 0 ∨ 6 ≤ (r_1.2.1 19).toNatClampNeg then none else
    if ((mA r_1.2 17 (r_1.2.1 19).toNatClampNeg x1).1 19) < 0 ∨ 6 ≤ ((mA r_1.2 17 (r_1.2.1 19).toNatClampNeg x1).1 19).toNatClampNeg then none else
    some (((mI (mA (mA r_1.2 17 (r_1.2.1 19).toNatClampNeg x1) 18 ((mA r_1.2 17 (r_1.2.1 19).toNatClampNeg x1).1 19).toNatClampNeg x2) 19 (((mA (mA r_1.2 17 (r_1.2.1 19).toNatClampNeg x1) 18 ((mA r_1.2 17 (r_1.2.1 19).toNatClampNeg x1).1 19).toNatClampNeg x2).1 19) + (1 : Int32))).1 19), (mI (mA (mA r_1.2 17 (r_1.2.1 19).toNatClampNeg x1) 18 ((mA r_1.2 17 (r_1.2.1 19).toNatClampNeg x1).1 19).toNatClampNeg x2) 19 (((mA (mA r_1.2 17 (r_1.2.1 19).toNatClampNeg x1) 18 ((mA r_1.2 17 (r_1.2.1 19).toNatClampNeg x1).1 19).toNatClampNeg x2).1 19) + (1 : Int32))))
  else
    some ((0 : Int32), r_1.2)
set_option maxHeartbeats 4000000 in
set_option maxRecDepth 100000 in
theorem gm_goal_42 {p : Program} {l : Launch} {e : Env} {s : State} {m : MethodId} {args : Array Value} {below : List Frame} {meth : Method} {c : Code} {D : va_G} {ca : Nat → ClassId} {α : Nat → Nat} {A : Nat → Prop} {o : Int32 × mS} (C : mC p s m args c cX12_goal 3 D ca) (hr : meth.sig.returnType = some .int) (hlk : meth.locks = false) : ∀ (σ : mS) (x1 : Int32) (x2 : Int32) (s0 : Int32) (H : Heap) (locs : List Loc) (ls : Array Slot), mM D ca α A s.heap σ H locs → lv_has ls 3 [(0, .ref (α 0)), (1, .int x1), (2, .int x2)] → fm_goal_42 σ x1 x2 s0 = some o → mGI p l e rmX12_goal s m args below meth c D ca α A o H locs 42 ls [.int s0, .ref (α 0)] := by
  have hx := C.1
  have hb := C.2.1
  intro σ x1 x2 s0 H locs ls hM hl h
  unfold fm_goal_42 at h
  obtain ⟨r_1, hr_1, h⟩ := bd_of h
  refine m_cVi (As := [.int s0]) (rest := []) C hM (cm_isWrong l D ca α A σ s0 r_1 hr_1) mwy_isWrong ⟨rfl, rfl⟩ ⟨Nat.le_of_ble_eq_true rfl, Nat.le_of_ble_eq_true rfl⟩ rfl rfl (Nat.le_of_ble_eq_true rfl) hl.1 dX12_goal_42 ⟨rfl, rfl⟩ (fun H locs hM => ?_)
  refine lv_if_eq (tgt := 50) hx hb dX12_goal_45 (by decide) (fun c_1 => ?_) (fun c_1 => ?_)
  · have h := br_T c_1 h
    refine lv_aload_n hx hb dX12_goal_50 rfl (lv_at hl 0 rfl) ?_
    refine m_geta C hM (k := 17) (by decide) rfl dX12_goal_51 ?_
    refine lv_aload_n hx hb dX12_goal_54 rfl (lv_at hl 0 rfl) ?_
    refine m_geti C hM (k := 19) (Or.inl rfl) rfl dX12_goal_55 ?_
    refine lv_iload_n hx hb dX12_goal_58 rfl (lv_at hl 1 rfl) ?_
    obtain ⟨c_2, h⟩ := ko_of h
    refine m_iast C hM (k := 17) rfl c_2 dX12_goal_59 (fun H locs hM => ?_)
    refine lv_aload_n hx hb dX12_goal_60 rfl (lv_at hl 0 rfl) ?_
    refine m_geta C hM (k := 18) (by decide) rfl dX12_goal_61 ?_
    refine lv_aload_n hx hb dX12_goal_64 rfl (lv_at hl 0 rfl) ?_
    refine m_geti C hM (k := 19) (Or.inl rfl) rfl dX12_goal_65 ?_
    refine lv_iload_n hx hb dX12_goal_68 rfl (lv_at hl 2 rfl) ?_
    obtain ⟨c_3, h⟩ := ko_of h
    refine m_iast C hM (k := 18) rfl c_3 dX12_goal_69 (fun H locs hM => ?_)
    refine lv_aload_n hx hb dX12_goal_70 rfl (lv_at hl 0 rfl) ?_
    refine lv_dup hx hb dX12_goal_71 rfl ?_
    refine m_geti C hM (k := 19) (Or.inl rfl) rfl dX12_goal_72 ?_
    refine lv_iconst (v := (1 : Int32)) hx hb dX12_goal_75 (by decide) ?_
    refine lv_iadd hx hb dX12_goal_76 ?_
    refine m_puti C hM (k := 19) rfl rfl dX12_goal_77 (fun H locs hM => ?_)
    refine lv_aload_n hx hb dX12_goal_80 rfl (lv_at hl 0 rfl) ?_
    refine m_geti C hM (k := 19) (Or.inl rfl) rfl dX12_goal_81 ?_
    exact m_ri C hM hr hlk dX12_goal_84 h
  · have h := br_F c_1 h
    refine lv_iconst (v := (0 : Int32)) hx hb dX12_goal_48 (by decide) ?_
    exact m_ri C hM hr hlk dX12_goal_49 h
def fm_goal_17 (σ : mS) (x1 : Int32) (x2 : Int32) : Option (Int32 × mS) :=
  fm_goal_42 σ x1 x2 (1 : Int32)
set_option maxHeartbeats 4000000 in
set_option maxRecDepth 100000 in
theorem gm_goal_17 {p : Program} {l : Launch} {e : Env} {s : State} {m : MethodId} {args : Array Value} {below : List Frame} {meth : Method} {c : Code} {D : va_G} {ca : Nat → ClassId} {α : Nat → Nat} {A : Nat → Prop} {o : Int32 × mS} (C : mC p s m args c cX12_goal 3 D ca) (hr : meth.sig.returnType = some .int) (hlk : meth.locks = false) : ∀ (σ : mS) (x1 : Int32) (x2 : Int32) (H : Heap) (locs : List Loc) (ls : Array Slot), mM D ca α A s.heap σ H locs → lv_has ls 3 [(0, .ref (α 0)), (1, .int x1), (2, .int x2)] → fm_goal_17 σ x1 x2 = some o → mGI p l e rmX12_goal s m args below meth c D ca α A o H locs 17 ls [.ref (α 0)] := by
  have hx := C.1
  have hb := C.2.1
  intro σ x1 x2 H locs ls hM hl h
  unfold fm_goal_17 at h
  refine lv_iconst (v := (1 : Int32)) hx hb dX12_goal_17 (by decide) ?_
  refine lv_goto (tgt := 42) hx hb dX12_goal_18 (by decide) ?_
  exact gm_goal_42 C hr hlk  _ _ _ _ _ _ _ hM (lv_sub hl [0, 1, 2] rfl) h
def fm_goal_37 (σ : mS) (x1 : Int32) (x2 : Int32) : Option (Int32 × mS) :=
  fm_goal_42 σ x1 x2 (2 : Int32)
set_option maxHeartbeats 4000000 in
set_option maxRecDepth 100000 in
theorem gm_goal_37 {p : Program} {l : Launch} {e : Env} {s : State} {m : MethodId} {args : Array Value} {below : List Frame} {meth : Method} {c : Code} {D : va_G} {ca : Nat → ClassId} {α : Nat → Nat} {A : Nat → Prop} {o : Int32 × mS} (C : mC p s m args c cX12_goal 3 D ca) (hr : meth.sig.returnType = some .int) (hlk : meth.locks = false) : ∀ (σ : mS) (x1 : Int32) (x2 : Int32) (H : Heap) (locs : List Loc) (ls : Array Slot), mM D ca α A s.heap σ H locs → lv_has ls 3 [(0, .ref (α 0)), (1, .int x1), (2, .int x2)] → fm_goal_37 σ x1 x2 = some o → mGI p l e rmX12_goal s m args below meth c D ca α A o H locs 37 ls [.ref (α 0)] := by
  have hx := C.1
  have hb := C.2.1
  intro σ x1 x2 H locs ls hM hl h
  unfold fm_goal_37 at h
  refine lv_iconst (v := (2 : Int32)) hx hb dX12_goal_37 (by decide) ?_
  refine lv_goto (tgt := 42) hx hb dX12_goal_38 (by decide) ?_
  exact gm_goal_42 C hr hlk  _ _ _ _ _ _ _ hM (lv_sub hl [0, 1, 2] rfl) h
def fm_goal (σ : mS) (x1 : Int32) (x2 : Int32) : Option (Int32 × mS) :=
  (fm_isThing σ x1).bind fun r_1 =>
  if r_1.1 = 0 then
    fm_goal_17 r_1.2 x1 x2
  else
    (fm_isRoom r_1.2 x2).bind fun r_2 =>
    if r_2.1 = 0 then
      fm_goal_17 r_2.2 x1 x2
    else
      if (r_2.2.1 19) = (6 : Int32) then
        fm_goal_37 r_2.2 x1 x2
      else
        if (r_2.2.1 20) = 0 then
          fm_goal_42 r_2.2 x1 x2 (0 : Int32)
        else
          fm_goal_37 r_2.2 x1 x2
set_option maxHeartbeats 4000000 in
set_option maxRecDepth 100000 in
theorem cm_goal (l : Launch) (D : va_G) (ca : Nat → ClassId) (α : Nat → Nat) (A : Nat → Prop) (σ : mS) (x1 : Int32) (x2 : Int32) (o : Int32 × mS) (h : fm_goal σ x1 x2 = some o) : mMetI l yX12_goal cX12_goal 3 (some .int) rmX12_goal D ca α A σ [.int x1, .int x2] o := by
  refine Met.ofW (cc := cX12_goal) (maxL := 3) (ret := some .int) (by decide) rfl ?_
  intro p e s m args below meth c s₁ B hml hv
  obtain ⟨rfl, hP, hK, hD0⟩ := hv
  have C : mC p s m _ c cX12_goal 3 D ca := ⟨B.exec, B.bytes, hml, findClass_of_methodNamed B.named, fun w hw => atoms_spec (ws := mWs yX12_goal cX12_goal 3 (some .int)) B.pre w (List.mem_cons_of_mem _ hw), hK⟩
  have hM : mM D ca α A s.heap σ s.heap [] := ⟨hP, hD0, va_S.rf⟩
  have hr := B.returns
  have hlk := B.notSynchronized
  have hx := C.1
  have hb := C.2.1
  have hl := lv_entry ([.ref (α 0), .int x1, .int x2]) (n := 3) (Nat.le_of_ble_eq_true rfl)
  rw [lg_entry_eq]
  generalize (lg_sl ([.ref (α 0), .int x1, .int x2]) ++ List.replicate (3 - (lg_sl ([.ref (α 0), .int x1, .int x2])).length) Slot.unset).toArray = ls at hl ⊢
  have hl : lv_has ls 3 [(0, .ref (α 0)), (1, .int x1), (2, .int x2)] := hl
  unfold fm_goal at h
  refine lv_aload_n hx hb dX12_goal_0 rfl (lv_at hl 0 rfl) ?_
  refine lv_aload_n hx hb dX12_goal_1 rfl (lv_at hl 0 rfl) ?_
  refine lv_iload_n hx hb dX12_goal_2 rfl (lv_at hl 1 rfl) ?_
  obtain ⟨r_1, hr_1, h⟩ := bd_of h
  refine m_cVi (As := [.int x1]) (rest := [.ref (α 0)]) C hM (cm_isThing l D ca α A σ x1 r_1 hr_1) mwy_isThing ⟨rfl, rfl⟩ ⟨Nat.le_of_ble_eq_true rfl, Nat.le_of_ble_eq_true rfl⟩ rfl rfl (Nat.le_of_ble_eq_true rfl) hl.1 dX12_goal_3 ⟨rfl, rfl⟩ (fun H locs hM => ?_)
  refine lv_if_eq (tgt := 17) hx hb dX12_goal_6 (by decide) (fun c_1 => ?_) (fun c_1 => ?_)
  · have h := br_T c_1 h
    exact gm_goal_17 C hr hlk  _ _ _ _ _ _ hM (lv_sub hl [0, 1, 2] rfl) h
  · have h := br_F c_1 h
    refine lv_aload_n hx hb dX12_goal_9 rfl (lv_at hl 0 rfl) ?_
    refine lv_iload_n hx hb dX12_goal_10 rfl (lv_at hl 2 rfl) ?_
    obtain ⟨r_2, hr_2, h⟩ := bd_of h
    refine m_cVi (As := [.int x2]) (rest := [.ref (α 0)]) C hM (cm_isRoom l D ca α A r_1.2 x2 r_2 hr_2) mwy_isRoom ⟨rfl, rfl⟩ ⟨Nat.le_of_ble_eq_true rfl, Nat.le_of_ble_eq_true rfl⟩ rfl rfl (Nat.le_of_ble_eq_true rfl) hl.1 dX12_goal_11 ⟨rfl, rfl⟩ (fun H locs hM => ?_)
    refine lv_if_ne (tgt := 21) hx hb dX12_goal_14 (by decide) (fun c_2 => ?_) (fun c_2 => ?_)
    · have h := br_F c_2 h
      refine lv_aload_n hx hb dX12_goal_21 rfl (lv_at hl 0 rfl) ?_
      refine m_geti C hM (k := 19) (Or.inl rfl) rfl dX12_goal_22 ?_
      refine lv_bipush (v := (6 : Int32)) hx hb dX12_goal_25 (by decide) ?_
      refine lv_icmp_eq (tgt := 37) hx hb dX12_goal_27 (by decide) (fun c_3 => ?_) (fun c_3 => ?_)
      · have h := br_T c_3 h
        exact gm_goal_37 C hr hlk  _ _ _ _ _ _ hM (lv_sub hl [0, 1, 2] rfl) h
      · have h := br_F c_3 h
        refine lv_aload_n hx hb dX12_goal_30 rfl (lv_at hl 0 rfl) ?_
        refine m_geti C hM (k := 20) (Or.inr rfl) rfl dX12_goal_31 ?_
        refine lv_if_eq (tgt := 41) hx hb dX12_goal_34 (by decide) (fun c_4 => ?_) (fun c_4 => ?_)
        · have h := br_T c_4 h
          refine lv_iconst (v := (0 : Int32)) hx hb dX12_goal_41 (by decide) ?_
          exact gm_goal_42 C hr hlk  _ _ _ _ _ _ _ hM (lv_sub hl [0, 1, 2] rfl) h
        · have h := br_F c_4 h
          exact gm_goal_37 C hr hlk  _ _ _ _ _ _ hM (lv_sub hl [0, 1, 2] rfl) h
    · have h := br_T c_2 h
      exact gm_goal_17 C hr hlk  _ _ _ _ _ _ hM (lv_sub hl [0, 1, 2] rfl) h
/-! takesUp(I)V -/
abbrev rmX12_takesUp : Room := { frames := 0, cells := 0, slots := 0, locals := 0 }
def fm_takesUp_17 : Nat → mS → Int32 → Int32 → Option (mS)
  | 0, _, _, _ => none
  | n + 1, σ, x1, x2 =>
    if (σ.1 16) ≤ x2 then
      some σ
    else
      if (((12 : Int32) * x1) + x2) < 0 ∨ 960 ≤ (((12 : Int32) * x1) + x2).toNatClampNeg then none else
      if x2 < 0 ∨ 12 ≤ x2.toNatClampNeg then none else
      if (((12 : Int32) * x1) + x2) < 0 ∨ 960 ≤ (((12 : Int32) * x1) + x2).toNatClampNeg then none else
      if x2 < 0 ∨ 12 ≤ x2.toNatClampNeg then none else
      if (((12 : Int32) * x1) + x2) < 0 ∨ 960 ≤ (((12 : Int32) * x1) + x2).toNatClampNeg then none else
      if x2 < 0 ∨ 12 ≤ x2.toNatClampNeg then none else
      (fm_takesUp_17 n) (mA (mA (mA σ 36 x2.toNatClampNeg (σ.2.2.1 22 (((12 : Int32) * x1) + x2).toNatClampNeg)) 37 x2.toNatClampNeg (((mA σ 36 x2.toNatClampNeg (σ.2.2.1 22 (((12 : Int32) * x1) + x2).toNatClampNeg)).2.2.1 23 (((12 : Int32) * x1) + x2).toNatClampNeg) &&& 1)) 38 x2.toNatClampNeg ((mA (mA σ 36 x2.toNatClampNeg (σ.2.2.1 22 (((12 : Int32) * x1) + x2).toNatClampNeg)) 37 x2.toNatClampNeg (((mA σ 36 x2.toNatClampNeg (σ.2.2.1 22 (((12 : Int32) * x1) + x2).toNatClampNeg)).2.2.1 23 (((12 : Int32) * x1) + x2).toNatClampNeg) &&& 1)).2.2.1 24 (((12 : Int32) * x1) + x2).toNatClampNeg)) x1 (x2 + (1 : Int32))
set_option maxHeartbeats 4000000 in
set_option maxRecDepth 100000 in
theorem gm_takesUp_17 {p : Program} {l : Launch} {e : Env} {s : State} {m : MethodId} {args : Array Value} {below : List Frame} {meth : Method} {c : Code} {D : va_G} {ca : Nat → ClassId} {α : Nat → Nat} {A : Nat → Prop} {o : mS} (C : mC p s m args c cX12_takesUp 3 D ca) (hr : meth.sig.returnType = none) (hlk : meth.locks = false) : ∀ (n : Nat) (σ : mS) (x1 : Int32) (x2 : Int32) (H : Heap) (locs : List Loc) (ls : Array Slot), mM D ca α A s.heap σ H locs → lv_has ls 3 [(0, .ref (α 0)), (1, .int x1), (2, .int x2)] → fm_takesUp_17 n σ x1 x2 = some o → mGV p l e rmX12_takesUp s m args below meth c D ca α A o H locs 17 ls [] := by
  have hx := C.1
  have hb := C.2.1
  intro n
  induction n with
  | zero =>
    intro σ x1 x2 H locs ls hM hl h
    cases h
  | succ n ih =>
    intro σ x1 x2 H locs ls hM hl h
    rw [fm_takesUp_17] at h
    refine lv_iload_n hx hb dX12_takesUp_17 rfl (lv_at hl 2 rfl) ?_
    refine lv_aload_n hx hb dX12_takesUp_18 rfl (lv_at hl 0 rfl) ?_
    refine m_geti C hM (k := 16) (Or.inl rfl) rfl dX12_takesUp_19 ?_
    refine lv_icmp_ge (tgt := 82) hx hb dX12_takesUp_22 (by decide) (fun c_1 => ?_) (fun c_1 => ?_)
    · have h := br_T c_1 h
      exact m_rv C hM hr hlk dX12_takesUp_82 h
    · have h := br_F c_1 h
      refine lv_aload_n hx hb dX12_takesUp_25 rfl (lv_at hl 0 rfl) ?_
      refine m_geta C hM (k := 36) (by decide) rfl dX12_takesUp_26 ?_
      refine lv_iload_n hx hb dX12_takesUp_29 rfl (lv_at hl 2 rfl) ?_
      refine lv_aload_n hx hb dX12_takesUp_30 rfl (lv_at hl 0 rfl) ?_
      refine m_geta C hM (k := 22) (by decide) rfl dX12_takesUp_31 ?_
      refine lv_bipush (v := (12 : Int32)) hx hb dX12_takesUp_34 (by decide) ?_
      refine lv_iload_n hx hb dX12_takesUp_36 rfl (lv_at hl 1 rfl) ?_
      refine lv_imul hx hb dX12_takesUp_37 ?_
      refine lv_iload_n hx hb dX12_takesUp_38 rfl (lv_at hl 2 rfl) ?_
      refine lv_iadd hx hb dX12_takesUp_39 ?_
      obtain ⟨c_2, h⟩ := ko_of h
      refine m_iald C hM (k := 22) rfl c_2 dX12_takesUp_40 ?_
      obtain ⟨c_3, h⟩ := ko_of h
      refine m_iast C hM (k := 36) rfl c_3 dX12_takesUp_41 (fun H locs hM => ?_)
      refine lv_aload_n hx hb dX12_takesUp_42 rfl (lv_at hl 0 rfl) ?_
      refine m_geta C hM (k := 37) (by decide) rfl dX12_takesUp_43 ?_
      refine lv_iload_n hx hb dX12_takesUp_46 rfl (lv_at hl 2 rfl) ?_
      refine lv_aload_n hx hb dX12_takesUp_47 rfl (lv_at hl 0 rfl) ?_
      refine m_geta C hM (k := 23) (by decide) rfl dX12_takesUp_48 ?_
      refine lv_bipush (v := (12 : Int32)) hx hb dX12_takesUp_51 (by decide) ?_
      refine lv_iload_n hx hb dX12_takesUp_53 rfl (lv_at hl 1 rfl) ?_
      refine lv_imul hx hb dX12_takesUp_54 ?_
      refine lv_iload_n hx hb dX12_takesUp_55 rfl (lv_at hl 2 rfl) ?_
      refine lv_iadd hx hb dX12_takesUp_56 ?_
      obtain ⟨c_4, h⟩ := ko_of h
      refine m_zald C hM (k := 23) rfl c_4 dX12_takesUp_57 ?_
      obtain ⟨c_5, h⟩ := ko_of h
      refine m_zast C hM (k := 37) rfl c_5 dX12_takesUp_58 (fun H locs hM => ?_)
      refine lv_aload_n hx hb dX12_takesUp_59 rfl (lv_at hl 0 rfl) ?_
      refine m_geta C hM (k := 38) (by decide) rfl dX12_takesUp_60 ?_
      refine lv_iload_n hx hb dX12_takesUp_63 rfl (lv_at hl 2 rfl) ?_
      refine lv_aload_n hx hb dX12_takesUp_64 rfl (lv_at hl 0 rfl) ?_
      refine m_geta C hM (k := 24) (by decide) rfl dX12_takesUp_65 ?_
      refine lv_bipush (v := (12 : Int32)) hx hb dX12_takesUp_68 (by decide) ?_
      refine lv_iload_n hx hb dX12_takesUp_70 rfl (lv_at hl 1 rfl) ?_
      refine lv_imul hx hb dX12_takesUp_71 ?_
      refine lv_iload_n hx hb dX12_takesUp_72 rfl (lv_at hl 2 rfl) ?_
      refine lv_iadd hx hb dX12_takesUp_73 ?_
      obtain ⟨c_6, h⟩ := ko_of h
      refine m_iald C hM (k := 24) rfl c_6 dX12_takesUp_74 ?_
      obtain ⟨c_7, h⟩ := ko_of h
      refine m_iast C hM (k := 38) rfl c_7 dX12_takesUp_75 (fun H locs hM => ?_)
      refine lv_iinc (v := (x2 + (1 : Int32))) (lv' := [(2, .int (x2 + (1 : Int32))), (0, .ref (α 0)), (1, .int x1)]) hx hb dX12_takesUp_76 hl (k := 2) rfl rfl (by decide) rfl (fun ls hl => ?_)
      refine lv_goto (tgt := 17) hx hb dX12_takesUp_79 (by decide) ?_
      exact ih _ _ _ _ _ _ hM (lv_sub hl [1, 2, 0] rfl) h
def fm_takesUp (σ : mS) (x1 : Int32) : Option (mS) :=
  if x1 < 0 ∨ 80 ≤ x1.toNatClampNeg then none else
  fm_takesUp_17 3000 (mJ (mI σ 35 (σ.2.2.1 21 x1.toNatClampNeg)) 39 (0 : Int64)) x1 (0 : Int32)
set_option maxHeartbeats 4000000 in
set_option maxRecDepth 100000 in
theorem cm_takesUp (l : Launch) (D : va_G) (ca : Nat → ClassId) (α : Nat → Nat) (A : Nat → Prop) (σ : mS) (x1 : Int32) (o : mS) (h : fm_takesUp σ x1 = some o) : mMetV l yX12_takesUp cX12_takesUp 3 (none) rmX12_takesUp D ca α A σ [.int x1] o := by
  refine Met.ofW (cc := cX12_takesUp) (maxL := 3) (ret := none) (by decide) rfl ?_
  intro p e s m args below meth c s₁ B hml hv
  obtain ⟨rfl, hP, hK, hD0⟩ := hv
  have C : mC p s m _ c cX12_takesUp 3 D ca := ⟨B.exec, B.bytes, hml, findClass_of_methodNamed B.named, fun w hw => atoms_spec (ws := mWs yX12_takesUp cX12_takesUp 3 (none)) B.pre w (List.mem_cons_of_mem _ hw), hK⟩
  have hM : mM D ca α A s.heap σ s.heap [] := ⟨hP, hD0, va_S.rf⟩
  have hr := B.returns
  have hlk := B.notSynchronized
  have hx := C.1
  have hb := C.2.1
  have hl := lv_entry ([.ref (α 0), .int x1]) (n := 3) (Nat.le_of_ble_eq_true rfl)
  rw [lg_entry_eq]
  generalize (lg_sl ([.ref (α 0), .int x1]) ++ List.replicate (3 - (lg_sl ([.ref (α 0), .int x1])).length) Slot.unset).toArray = ls at hl ⊢
  have hl : lv_has ls 3 [(0, .ref (α 0)), (1, .int x1)] := hl
  unfold fm_takesUp at h
  refine lv_aload_n hx hb dX12_takesUp_0 rfl (lv_at hl 0 rfl) ?_
  refine lv_aload_n hx hb dX12_takesUp_1 rfl (lv_at hl 0 rfl) ?_
  refine m_geta C hM (k := 21) (by decide) rfl dX12_takesUp_2 ?_
  refine lv_iload_n hx hb dX12_takesUp_5 rfl (lv_at hl 1 rfl) ?_
  obtain ⟨c_1, h⟩ := ko_of h
  refine m_iald C hM (k := 21) rfl c_1 dX12_takesUp_6 ?_
  refine m_puti C hM (k := 35) rfl rfl dX12_takesUp_7 (fun H locs hM => ?_)
  refine lv_aload_n hx hb dX12_takesUp_10 rfl (lv_at hl 0 rfl) ?_
  refine lv_lconst (v := (0 : Int64)) hx hb dX12_takesUp_11 (by decide) ?_
  refine m_putl C hM (k := 39) rfl rfl dX12_takesUp_12 (fun H locs hM => ?_)
  refine lv_iconst (v := (0 : Int32)) hx hb dX12_takesUp_15 (by decide) ?_
  refine lv_istore_n (lv' := [(2, .int (0 : Int32)), (0, .ref (α 0)), (1, .int x1)]) hx hb dX12_takesUp_16 rfl hl (by decide) rfl (fun ls hl => ?_)
  exact gm_takesUp_17 C hr hlk  _ _ _ _ _ _ _ hM (lv_sub hl [1, 2, 0] rfl) h
theorem mwy_takesUp : mCallV RX12 271 yX12_takesUp cX12_takesUp 3 (none) 1 := ⟨⟨wl_in (i := 2153) (by decide +kernel), wl_in (i := 2155) (by decide +kernel), wl_inp (i := 45) (by decide +kernel), wl_in (i := 16) (by decide +kernel), wl_in (i := 2156) (by decide +kernel)⟩, rfl, by decide, by decide, by decide +kernel⟩
/-! isHeld(I)Z -/
abbrev rmX12_isHeld : Room := { frames := 0, cells := 0, slots := 0, locals := 0 }
def fm_isHeld_66 (σ : mS) (s0 : Int32) : Option (Int32 × mS) :=
  if s0 &&& 1 = s0 then some (s0, σ) else none
set_option maxHeartbeats 4000000 in
set_option maxRecDepth 100000 in
theorem gm_isHeld_66 {p : Program} {l : Launch} {e : Env} {s : State} {m : MethodId} {args : Array Value} {below : List Frame} {meth : Method} {c : Code} {D : va_G} {ca : Nat → ClassId} {α : Nat → Nat} {A : Nat → Prop} {o : Int32 × mS} (C : mC p s m args c cX12_isHeld 2 D ca) (hr : meth.sig.returnType = some .boolean) (hlk : meth.locks = false) : ∀ (σ : mS) (s0 : Int32) (H : Heap) (locs : List Loc) (ls : Array Slot), mM D ca α A s.heap σ H locs → lv_has ls 2 [(0, .ref (α 0))] → fm_isHeld_66 σ s0 = some o → mGI p l e rmX12_isHeld s m args below meth c D ca α A o H locs 66 ls [.int s0] := by
  have hx := C.1
  have hb := C.2.1
  intro σ s0 H locs ls hM hl h
  unfold fm_isHeld_66 at h
  exact m_rz C hM hr hlk dX12_isHeld_66 h
def fm_isHeld_61 (σ : mS) : Option (Int32 × mS) :=
  fm_isHeld_66 σ (1 : Int32)
set_option maxHeartbeats 4000000 in
set_option maxRecDepth 100000 in
theorem gm_isHeld_61 {p : Program} {l : Launch} {e : Env} {s : State} {m : MethodId} {args : Array Value} {below : List Frame} {meth : Method} {c : Code} {D : va_G} {ca : Nat → ClassId} {α : Nat → Nat} {A : Nat → Prop} {o : Int32 × mS} (C : mC p s m args c cX12_isHeld 2 D ca) (hr : meth.sig.returnType = some .boolean) (hlk : meth.locks = false) : ∀ (σ : mS) (H : Heap) (locs : List Loc) (ls : Array Slot), mM D ca α A s.heap σ H locs → lv_has ls 2 [(0, .ref (α 0))] → fm_isHeld_61 σ = some o → mGI p l e rmX12_isHeld s m args below meth c D ca α A o H locs 61 ls [] := by
  have hx := C.1
  have hb := C.2.1
  intro σ H locs ls hM hl h
  unfold fm_isHeld_61 at h
  refine lv_iconst (v := (1 : Int32)) hx hb dX12_isHeld_61 (by decide) ?_
  refine lv_goto (tgt := 66) hx hb dX12_isHeld_62 (by decide) ?_
  exact gm_isHeld_66 C hr hlk  _ _ _ _ _ hM (lv_sub hl [0] rfl) h
def fm_isHeld_65 (σ : mS) : Option (Int32 × mS) :=
  fm_isHeld_66 σ (0 : Int32)
set_option maxHeartbeats 4000000 in
set_option maxRecDepth 100000 in
theorem gm_isHeld_65 {p : Program} {l : Launch} {e : Env} {s : State} {m : MethodId} {args : Array Value} {below : List Frame} {meth : Method} {c : Code} {D : va_G} {ca : Nat → ClassId} {α : Nat → Nat} {A : Nat → Prop} {o : Int32 × mS} (C : mC p s m args c cX12_isHeld 2 D ca) (hr : meth.sig.returnType = some .boolean) (hlk : meth.locks = false) : ∀ (σ : mS) (H : Heap) (locs : List Loc) (ls : Array Slot), mM D ca α A s.heap σ H locs → lv_has ls 2 [(0, .ref (α 0))] → fm_isHeld_65 σ = some o → mGI p l e rmX12_isHeld s m args below meth c D ca α A o H locs 65 ls [] := by
  have hx := C.1
  have hb := C.2.1
  intro σ H locs ls hM hl h
  unfold fm_isHeld_65 at h
  refine lv_iconst (v := (0 : Int32)) hx hb dX12_isHeld_65 (by decide) ?_
  exact gm_isHeld_66 C hr hlk  _ _ _ _ _ hM (lv_sub hl [0] rfl) h
def fm_isHeld (σ : mS) (x1 : Int32) : Option (Int32 × mS) :=
  if x1 < 0 ∨ 12 ≤ x1.toNatClampNeg then none else
  if (σ.2.2.1 36 x1.toNatClampNeg) = (100 : Int32) then
    fm_isHeld_61 σ
  else
    if x1 < 0 ∨ 12 ≤ x1.toNatClampNeg then none else
    if (σ.2.2.1 36 x1.toNatClampNeg) < (200 : Int32) then
      fm_isHeld_65 σ
    else
      if x1 < 0 ∨ 12 ≤ x1.toNatClampNeg then none else
      if ((σ.2.2.1 36 x1.toNatClampNeg) - (200 : Int32)) < 0 ∨ 12 ≤ ((σ.2.2.1 36 x1.toNatClampNeg) - (200 : Int32)).toNatClampNeg then none else
      if (σ.2.2.1 36 ((σ.2.2.1 36 x1.toNatClampNeg) - (200 : Int32)).toNatClampNeg) = (100 : Int32) then
        if x1 < 0 ∨ 12 ≤ x1.toNatClampNeg then none else
        if ((σ.2.2.1 36 x1.toNatClampNeg) - (200 : Int32)) < 0 ∨ 12 ≤ ((σ.2.2.1 36 x1.toNatClampNeg) - (200 : Int32)).toNatClampNeg then none else
        if (σ.2.2.1 37 ((σ.2.2.1 36 x1.toNatClampNeg) - (200 : Int32)).toNatClampNeg) = 0 then
          fm_isHeld_65 σ
        else
          fm_isHeld_61 σ
      else
        fm_isHeld_65 σ
set_option maxHeartbeats 4000000 in
set_option maxRecDepth 100000 in
theorem cm_isHeld (l : Launch) (D : va_G) (ca : Nat → ClassId) (α : Nat → Nat) (A : Nat → Prop) (σ : mS) (x1 : Int32) (o : Int32 × mS) (h : fm_isHeld σ x1 = some o) : mMetI l yX12_isHeld cX12_isHeld 2 (some .boolean) rmX12_isHeld D ca α A σ [.int x1] o := by
  refine Met.ofW (cc := cX12_isHeld) (maxL := 2) (ret := some .boolean) (by decide) rfl ?_
  intro p e s m args below meth c s₁ B hml hv
  obtain ⟨rfl, hP, hK, hD0⟩ := hv
  have C : mC p s m _ c cX12_isHeld 2 D ca := ⟨B.exec, B.bytes, hml, findClass_of_methodNamed B.named, fun w hw => atoms_spec (ws := mWs yX12_isHeld cX12_isHeld 2 (some .boolean)) B.pre w (List.mem_cons_of_mem _ hw), hK⟩
  have hM : mM D ca α A s.heap σ s.heap [] := ⟨hP, hD0, va_S.rf⟩
  have hr := B.returns
  have hlk := B.notSynchronized
  have hx := C.1
  have hb := C.2.1
  have hl := lv_entry ([.ref (α 0), .int x1]) (n := 2) (Nat.le_of_ble_eq_true rfl)
  rw [lg_entry_eq]
  generalize (lg_sl ([.ref (α 0), .int x1]) ++ List.replicate (2 - (lg_sl ([.ref (α 0), .int x1])).length) Slot.unset).toArray = ls at hl ⊢
  have hl : lv_has ls 2 [(0, .ref (α 0)), (1, .int x1)] := hl
  unfold fm_isHeld at h
  refine lv_aload_n hx hb dX12_isHeld_0 rfl (lv_at hl 0 rfl) ?_
  refine m_geta C hM (k := 36) (by decide) rfl dX12_isHeld_1 ?_
  refine lv_iload_n hx hb dX12_isHeld_4 rfl (lv_at hl 1 rfl) ?_
  obtain ⟨c_1, h⟩ := ko_of h
  refine m_iald C hM (k := 36) rfl c_1 dX12_isHeld_5 ?_
  refine lv_bipush (v := (100 : Int32)) hx hb dX12_isHeld_6 (by decide) ?_
  refine lv_icmp_eq (tgt := 61) hx hb dX12_isHeld_8 (by decide) (fun c_2 => ?_) (fun c_2 => ?_)
  · have h := br_T c_2 h
    exact gm_isHeld_61 C hr hlk  _ _ _ _ hM (lv_sub hl [0] rfl) h
  · have h := br_F c_2 h
    refine lv_aload_n hx hb dX12_isHeld_11 rfl (lv_at hl 0 rfl) ?_
    refine m_geta C hM (k := 36) (by decide) rfl dX12_isHeld_12 ?_
    refine lv_iload_n hx hb dX12_isHeld_15 rfl (lv_at hl 1 rfl) ?_
    obtain ⟨c_3, h⟩ := ko_of h
    refine m_iald C hM (k := 36) rfl c_3 dX12_isHeld_16 ?_
    refine lv_sipush (v := (200 : Int32)) hx hb dX12_isHeld_17 (by decide) ?_
    refine lv_icmp_lt (tgt := 65) hx hb dX12_isHeld_20 (by decide) (fun c_4 => ?_) (fun c_4 => ?_)
    · have h := br_T c_4 h
      exact gm_isHeld_65 C hr hlk  _ _ _ _ hM (lv_sub hl [0] rfl) h
    · have h := br_F c_4 h
      refine lv_aload_n hx hb dX12_isHeld_23 rfl (lv_at hl 0 rfl) ?_
      refine m_geta C hM (k := 36) (by decide) rfl dX12_isHeld_24 ?_
      refine lv_aload_n hx hb dX12_isHeld_27 rfl (lv_at hl 0 rfl) ?_
      refine m_geta C hM (k := 36) (by decide) rfl dX12_isHeld_28 ?_
      refine lv_iload_n hx hb dX12_isHeld_31 rfl (lv_at hl 1 rfl) ?_
      obtain ⟨c_5, h⟩ := ko_of h
      refine m_iald C hM (k := 36) rfl c_5 dX12_isHeld_32 ?_
      refine lv_sipush (v := (200 : Int32)) hx hb dX12_isHeld_33 (by decide) ?_
      refine lv_isub hx hb dX12_isHeld_36 ?_
      obtain ⟨c_6, h⟩ := ko_of h
      refine m_iald C hM (k := 36) rfl c_6 dX12_isHeld_37 ?_
      refine lv_bipush (v := (100 : Int32)) hx hb dX12_isHeld_38 (by decide) ?_
      refine lv_icmp_ne (tgt := 65) hx hb dX12_isHeld_40 (by decide) (fun c_7 => ?_) (fun c_7 => ?_)
      · have h := br_F c_7 h
        exact gm_isHeld_65 C hr hlk  _ _ _ _ hM (lv_sub hl [0] rfl) h
      · have h := br_T c_7 h
        refine lv_aload_n hx hb dX12_isHeld_43 rfl (lv_at hl 0 rfl) ?_
        refine m_geta C hM (k := 37) (by decide) rfl dX12_isHeld_44 ?_
        refine lv_aload_n hx hb dX12_isHeld_47 rfl (lv_at hl 0 rfl) ?_
        refine m_geta C hM (k := 36) (by decide) rfl dX12_isHeld_48 ?_
        refine lv_iload_n hx hb dX12_isHeld_51 rfl (lv_at hl 1 rfl) ?_
        obtain ⟨c_8, h⟩ := ko_of h
        refine m_iald C hM (k := 36) rfl c_8 dX12_isHeld_52 ?_
        refine lv_sipush (v := (200 : Int32)) hx hb dX12_isHeld_53 (by decide) ?_
        refine lv_isub hx hb dX12_isHeld_56 ?_
        obtain ⟨c_9, h⟩ := ko_of h
        refine m_zald C hM (k := 37) rfl c_9 dX12_isHeld_57 ?_
        refine lv_if_eq (tgt := 65) hx hb dX12_isHeld_58 (by decide) (fun c_10 => ?_) (fun c_10 => ?_)
        · have h := br_T c_10 h
          exact gm_isHeld_65 C hr hlk  _ _ _ _ hM (lv_sub hl [0] rfl) h
        · have h := br_F c_10 h
          exact gm_isHeld_61 C hr hlk  _ _ _ _ hM (lv_sub hl [0] rfl) h
theorem mwy_isHeld : mCallV RX12 204 yX12_isHeld cX12_isHeld 2 (some .boolean) 1 := ⟨⟨wl_in (i := 2118) (by decide +kernel), wl_in (i := 2120) (by decide +kernel), wl_inp (i := 39) (by decide +kernel), wl_in (i := 16) (by decide +kernel), wl_in (i := 2121) (by decide +kernel)⟩, rfl, by decide, by decide, by decide +kernel⟩
/-! isAtHand(I)Z -/
abbrev rmX12_isAtHand : Room := { frames := 0, cells := 0, slots := 0, locals := 0 }
def fm_isAtHand_70 (σ : mS) (s0 : Int32) : Option (Int32 × mS) :=
  if s0 &&& 1 = s0 then some (s0, σ) else none
set_option maxHeartbeats 4000000 in
set_option maxRecDepth 100000 in
theorem gm_isAtHand_70 {p : Program} {l : Launch} {e : Env} {s : State} {m : MethodId} {args : Array Value} {below : List Frame} {meth : Method} {c : Code} {D : va_G} {ca : Nat → ClassId} {α : Nat → Nat} {A : Nat → Prop} {o : Int32 × mS} (C : mC p s m args c cX12_isAtHand 3 D ca) (hr : meth.sig.returnType = some .boolean) (hlk : meth.locks = false) : ∀ (σ : mS) (s0 : Int32) (H : Heap) (locs : List Loc) (ls : Array Slot), mM D ca α A s.heap σ H locs → lv_has ls 3 [(0, .ref (α 0))] → fm_isAtHand_70 σ s0 = some o → mGI p l e rmX12_isAtHand s m args below meth c D ca α A o H locs 70 ls [.int s0] := by
  have hx := C.1
  have hb := C.2.1
  intro σ s0 H locs ls hM hl h
  unfold fm_isAtHand_70 at h
  exact m_rz C hM hr hlk dX12_isAtHand_70 h
def fm_isAtHand_65 (σ : mS) : Option (Int32 × mS) :=
  fm_isAtHand_70 σ (1 : Int32)
set_option maxHeartbeats 4000000 in
set_option maxRecDepth 100000 in
theorem gm_isAtHand_65 {p : Program} {l : Launch} {e : Env} {s : State} {m : MethodId} {args : Array Value} {below : List Frame} {meth : Method} {c : Code} {D : va_G} {ca : Nat → ClassId} {α : Nat → Nat} {A : Nat → Prop} {o : Int32 × mS} (C : mC p s m args c cX12_isAtHand 3 D ca) (hr : meth.sig.returnType = some .boolean) (hlk : meth.locks = false) : ∀ (σ : mS) (H : Heap) (locs : List Loc) (ls : Array Slot), mM D ca α A s.heap σ H locs → lv_has ls 3 [(0, .ref (α 0))] → fm_isAtHand_65 σ = some o → mGI p l e rmX12_isAtHand s m args below meth c D ca α A o H locs 65 ls [] := by
  have hx := C.1
  have hb := C.2.1
  intro σ H locs ls hM hl h
  unfold fm_isAtHand_65 at h
  refine lv_iconst (v := (1 : Int32)) hx hb dX12_isAtHand_65 (by decide) ?_
  refine lv_goto (tgt := 70) hx hb dX12_isAtHand_66 (by decide) ?_
  exact gm_isAtHand_70 C hr hlk  _ _ _ _ _ hM (lv_sub hl [0] rfl) h
def fm_isAtHand_69 (σ : mS) : Option (Int32 × mS) :=
  fm_isAtHand_70 σ (0 : Int32)
set_option maxHeartbeats 4000000 in
set_option maxRecDepth 100000 in
theorem gm_isAtHand_69 {p : Program} {l : Launch} {e : Env} {s : State} {m : MethodId} {args : Array Value} {below : List Frame} {meth : Method} {c : Code} {D : va_G} {ca : Nat → ClassId} {α : Nat → Nat} {A : Nat → Prop} {o : Int32 × mS} (C : mC p s m args c cX12_isAtHand 3 D ca) (hr : meth.sig.returnType = some .boolean) (hlk : meth.locks = false) : ∀ (σ : mS) (H : Heap) (locs : List Loc) (ls : Array Slot), mM D ca α A s.heap σ H locs → lv_has ls 3 [(0, .ref (α 0))] → fm_isAtHand_69 σ = some o → mGI p l e rmX12_isAtHand s m args below meth c D ca α A o H locs 69 ls [] := by
  have hx := C.1
  have hb := C.2.1
  intro σ H locs ls hM hl h
  unfold fm_isAtHand_69 at h
  refine lv_iconst (v := (0 : Int32)) hx hb dX12_isAtHand_69 (by decide) ?_
  exact gm_isAtHand_70 C hr hlk  _ _ _ _ _ hM (lv_sub hl [0] rfl) h
def fm_isAtHand_41 (σ : mS) (x2 : Int32) : Option (Int32 × mS) :=
  if x2 < 0 ∨ 12 ≤ x2.toNatClampNeg then none else
  if (σ.2.2.1 36 x2.toNatClampNeg) = (100 : Int32) then
    fm_isAtHand_65 σ
  else
    if x2 < 0 ∨ 12 ≤ x2.toNatClampNeg then none else
    if (σ.2.2.1 36 x2.toNatClampNeg) = (σ.1 35) then
      fm_isAtHand_65 σ
    else
      fm_isAtHand_69 σ
set_option maxHeartbeats 4000000 in
set_option maxRecDepth 100000 in
theorem gm_isAtHand_41 {p : Program} {l : Launch} {e : Env} {s : State} {m : MethodId} {args : Array Value} {below : List Frame} {meth : Method} {c : Code} {D : va_G} {ca : Nat → ClassId} {α : Nat → Nat} {A : Nat → Prop} {o : Int32 × mS} (C : mC p s m args c cX12_isAtHand 3 D ca) (hr : meth.sig.returnType = some .boolean) (hlk : meth.locks = false) : ∀ (σ : mS) (x2 : Int32) (H : Heap) (locs : List Loc) (ls : Array Slot), mM D ca α A s.heap σ H locs → lv_has ls 3 [(0, .ref (α 0)), (2, .int x2)] → fm_isAtHand_41 σ x2 = some o → mGI p l e rmX12_isAtHand s m args below meth c D ca α A o H locs 41 ls [] := by
  have hx := C.1
  have hb := C.2.1
  intro σ x2 H locs ls hM hl h
  unfold fm_isAtHand_41 at h
  refine lv_aload_n hx hb dX12_isAtHand_41 rfl (lv_at hl 0 rfl) ?_
  refine m_geta C hM (k := 36) (by decide) rfl dX12_isAtHand_42 ?_
  refine lv_iload_n hx hb dX12_isAtHand_45 rfl (lv_at hl 1 rfl) ?_
  obtain ⟨c_1, h⟩ := ko_of h
  refine m_iald C hM (k := 36) rfl c_1 dX12_isAtHand_46 ?_
  refine lv_bipush (v := (100 : Int32)) hx hb dX12_isAtHand_47 (by decide) ?_
  refine lv_icmp_eq (tgt := 65) hx hb dX12_isAtHand_49 (by decide) (fun c_2 => ?_) (fun c_2 => ?_)
  · have h := br_T c_2 h
    exact gm_isAtHand_65 C hr hlk  _ _ _ _ hM (lv_sub hl [0] rfl) h
  · have h := br_F c_2 h
    refine lv_aload_n hx hb dX12_isAtHand_52 rfl (lv_at hl 0 rfl) ?_
    refine m_geta C hM (k := 36) (by decide) rfl dX12_isAtHand_53 ?_
    refine lv_iload_n hx hb dX12_isAtHand_56 rfl (lv_at hl 1 rfl) ?_
    obtain ⟨c_3, h⟩ := ko_of h
    refine m_iald C hM (k := 36) rfl c_3 dX12_isAtHand_57 ?_
    refine lv_aload_n hx hb dX12_isAtHand_58 rfl (lv_at hl 0 rfl) ?_
    refine m_geti C hM (k := 35) (Or.inl rfl) rfl dX12_isAtHand_59 ?_
    refine lv_icmp_ne (tgt := 69) hx hb dX12_isAtHand_62 (by decide) (fun c_4 => ?_) (fun c_4 => ?_)
    · have h := br_F c_4 h
      exact gm_isAtHand_69 C hr hlk  _ _ _ _ hM (lv_sub hl [0] rfl) h
    · have h := br_T c_4 h
      exact gm_isAtHand_65 C hr hlk  _ _ _ _ hM (lv_sub hl [0] rfl) h
def fm_isAtHand_26 (σ : mS) (x1 : Int32) (s0 : Int32) : Option (Int32 × mS) :=
  if s0 = x1 then
    fm_isAtHand_41 σ s0
  else
    if s0 < 0 ∨ 12 ≤ s0.toNatClampNeg then none else
    if (σ.2.2.1 37 s0.toNatClampNeg) = 0 then
      fm_isAtHand_69 σ
    else
      fm_isAtHand_41 σ s0
set_option maxHeartbeats 4000000 in
set_option maxRecDepth 100000 in
theorem gm_isAtHand_26 {p : Program} {l : Launch} {e : Env} {s : State} {m : MethodId} {args : Array Value} {below : List Frame} {meth : Method} {c : Code} {D : va_G} {ca : Nat → ClassId} {α : Nat → Nat} {A : Nat → Prop} {o : Int32 × mS} (C : mC p s m args c cX12_isAtHand 3 D ca) (hr : meth.sig.returnType = some .boolean) (hlk : meth.locks = false) : ∀ (σ : mS) (x1 : Int32) (s0 : Int32) (H : Heap) (locs : List Loc) (ls : Array Slot), mM D ca α A s.heap σ H locs → lv_has ls 3 [(0, .ref (α 0)), (1, .int x1)] → fm_isAtHand_26 σ x1 s0 = some o → mGI p l e rmX12_isAtHand s m args below meth c D ca α A o H locs 26 ls [.int s0] := by
  have hx := C.1
  have hb := C.2.1
  intro σ x1 s0 H locs ls hM hl h
  unfold fm_isAtHand_26 at h
  refine lv_istore_n (lv' := [(2, .int s0), (0, .ref (α 0)), (1, .int x1)]) hx hb dX12_isAtHand_26 rfl hl (by decide) rfl (fun ls hl => ?_)
  refine lv_iload_n hx hb dX12_isAtHand_27 rfl (lv_at hl 0 rfl) ?_
  refine lv_iload_n hx hb dX12_isAtHand_28 rfl (lv_at hl 2 rfl) ?_
  refine lv_icmp_eq (tgt := 41) hx hb dX12_isAtHand_29 (by decide) (fun c_1 => ?_) (fun c_1 => ?_)
  · have h := br_T c_1 h
    exact gm_isAtHand_41 C hr hlk  _ _ _ _ _ hM (lv_sub hl [1, 0] rfl) h
  · have h := br_F c_1 h
    refine lv_aload_n hx hb dX12_isAtHand_32 rfl (lv_at hl 1 rfl) ?_
    refine m_geta C hM (k := 37) (by decide) rfl dX12_isAtHand_33 ?_
    refine lv_iload_n hx hb dX12_isAtHand_36 rfl (lv_at hl 0 rfl) ?_
    obtain ⟨c_2, h⟩ := ko_of h
    refine m_zald C hM (k := 37) rfl c_2 dX12_isAtHand_37 ?_
    refine lv_if_eq (tgt := 69) hx hb dX12_isAtHand_38 (by decide) (fun c_3 => ?_) (fun c_3 => ?_)
    · have h := br_T c_3 h
      exact gm_isAtHand_69 C hr hlk  _ _ _ _ hM (lv_sub hl [1] rfl) h
    · have h := br_F c_3 h
      exact gm_isAtHand_41 C hr hlk  _ _ _ _ _ hM (lv_sub hl [1, 0] rfl) h
def fm_isAtHand (σ : mS) (x1 : Int32) : Option (Int32 × mS) :=
  if x1 < 0 ∨ 12 ≤ x1.toNatClampNeg then none else
  if (σ.2.2.1 36 x1.toNatClampNeg) < (200 : Int32) then
    fm_isAtHand_26 σ x1 x1
  else
    if x1 < 0 ∨ 12 ≤ x1.toNatClampNeg then none else
    fm_isAtHand_26 σ x1 ((σ.2.2.1 36 x1.toNatClampNeg) - (200 : Int32))
set_option maxHeartbeats 4000000 in
set_option maxRecDepth 100000 in
theorem cm_isAtHand (l : Launch) (D : va_G) (ca : Nat → ClassId) (α : Nat → Nat) (A : Nat → Prop) (σ : mS) (x1 : Int32) (o : Int32 × mS) (h : fm_isAtHand σ x1 = some o) : mMetI l yX12_isAtHand cX12_isAtHand 3 (some .boolean) rmX12_isAtHand D ca α A σ [.int x1] o := by
  refine Met.ofW (cc := cX12_isAtHand) (maxL := 3) (ret := some .boolean) (by decide) rfl ?_
  intro p e s m args below meth c s₁ B hml hv
  obtain ⟨rfl, hP, hK, hD0⟩ := hv
  have C : mC p s m _ c cX12_isAtHand 3 D ca := ⟨B.exec, B.bytes, hml, findClass_of_methodNamed B.named, fun w hw => atoms_spec (ws := mWs yX12_isAtHand cX12_isAtHand 3 (some .boolean)) B.pre w (List.mem_cons_of_mem _ hw), hK⟩
  have hM : mM D ca α A s.heap σ s.heap [] := ⟨hP, hD0, va_S.rf⟩
  have hr := B.returns
  have hlk := B.notSynchronized
  have hx := C.1
  have hb := C.2.1
  have hl := lv_entry ([.ref (α 0), .int x1]) (n := 3) (Nat.le_of_ble_eq_true rfl)
  rw [lg_entry_eq]
  generalize (lg_sl ([.ref (α 0), .int x1]) ++ List.replicate (3 - (lg_sl ([.ref (α 0), .int x1])).length) Slot.unset).toArray = ls at hl ⊢
  have hl : lv_has ls 3 [(0, .ref (α 0)), (1, .int x1)] := hl
  unfold fm_isAtHand at h
  refine lv_aload_n hx hb dX12_isAtHand_0 rfl (lv_at hl 0 rfl) ?_
  refine m_geta C hM (k := 36) (by decide) rfl dX12_isAtHand_1 ?_
  refine lv_iload_n hx hb dX12_isAtHand_4 rfl (lv_at hl 1 rfl) ?_
  obtain ⟨c_1, h⟩ := ko_of h
  refine m_iald C hM (k := 36) rfl c_1 dX12_isAtHand_5 ?_
  refine lv_sipush (v := (200 : Int32)) hx hb dX12_isAtHand_6 (by decide) ?_
  refine lv_icmp_lt (tgt := 25) hx hb dX12_isAtHand_9 (by decide) (fun c_2 => ?_) (fun c_2 => ?_)
  · have h := br_T c_2 h
    refine lv_iload_n hx hb dX12_isAtHand_25 rfl (lv_at hl 1 rfl) ?_
    exact gm_isAtHand_26 C hr hlk  _ _ _ _ _ _ hM (lv_sub hl [0, 1] rfl) h
  · have h := br_F c_2 h
    refine lv_aload_n hx hb dX12_isAtHand_12 rfl (lv_at hl 0 rfl) ?_
    refine m_geta C hM (k := 36) (by decide) rfl dX12_isAtHand_13 ?_
    refine lv_iload_n hx hb dX12_isAtHand_16 rfl (lv_at hl 1 rfl) ?_
    obtain ⟨c_3, h⟩ := ko_of h
    refine m_iald C hM (k := 36) rfl c_3 dX12_isAtHand_17 ?_
    refine lv_sipush (v := (200 : Int32)) hx hb dX12_isAtHand_18 (by decide) ?_
    refine lv_isub hx hb dX12_isAtHand_21 ?_
    refine lv_goto (tgt := 26) hx hb dX12_isAtHand_22 (by decide) ?_
    exact gm_isAtHand_26 C hr hlk  _ _ _ _ _ _ hM (lv_sub hl [0, 1] rfl) h
theorem mwy_isAtHand : mCallV RX12 197 yX12_isAtHand cX12_isAtHand 3 (some .boolean) 1 := ⟨⟨wl_in (i := 2114) (by decide +kernel), wl_in (i := 2116) (by decide +kernel), wl_inp (i := 38) (by decide +kernel), wl_in (i := 16) (by decide +kernel), wl_in (i := 2117) (by decide +kernel)⟩, rfl, by decide, by decide, by decide +kernel⟩
/-! isBrightHere()Z -/
abbrev rmX12_isBrightHere : Room := { frames := 1, cells := 0, slots := 0, locals := 22 }
def fm_isBrightHere_62 (k_20 : mS → Int32 → Int32 → Option (Int32 × mS)) (σ : mS) (x2 : Int32) (s0 : Int32) (s1 : Int32) : Option (Int32 × mS) :=
  k_20 σ (s1 ||| s0) (x2 + (1 : Int32))
set_option maxHeartbeats 4000000 in
set_option maxRecDepth 100000 in
theorem gm_isBrightHere_62 {p : Program} {l : Launch} {e : Env} {s : State} {m : MethodId} {args : Array Value} {below : List Frame} {meth : Method} {c : Code} {D : va_G} {ca : Nat → ClassId} {α : Nat → Nat} {A : Nat → Prop} {o : Int32 × mS} {k_20 : mS → Int32 → Int32 → Option (Int32 × mS)} (C : mC p s m args c cX12_isBrightHere 3 D ca) (hr : meth.sig.returnType = some .boolean) (hlk : meth.locks = false) (hk_20 : ∀ (σ : mS) (x1 : Int32) (x2 : Int32) (H : Heap) (locs : List Loc) (ls : Array Slot), mM D ca α A s.heap σ H locs → lv_has ls 3 [(0, .ref (α 0)), (1, .int x1), (2, .int x2)] → k_20 σ x1 x2 = some o → mGI p l e rmX12_isBrightHere s m args below meth c D ca α A o H locs 20 ls []) : ∀ (σ : mS) (x2 : Int32) (s0 : Int32) (s1 : Int32) (H : Heap) (locs : List Loc) (ls : Array Slot), mM D ca α A s.heap σ H locs → lv_has ls 3 [(0, .ref (α 0)), (2, .int x2)] → fm_isBrightHere_62 k_20 σ x2 s0 s1 = some o → mGI p l e rmX12_isBrightHere s m args below meth c D ca α A o H locs 62 ls [.int s0, .int s1] := by
  have hx := C.1
  have hb := C.2.1
  intro σ x2 s0 s1 H locs ls hM hl h
  unfold fm_isBrightHere_62 at h
  refine lv_ior hx hb dX12_isBrightHere_62 ?_
  refine lv_istore_n (lv' := [(1, .int (s1 ||| s0)), (0, .ref (α 0)), (2, .int x2)]) hx hb dX12_isBrightHere_63 rfl hl (by decide) rfl (fun ls hl => ?_)
  refine lv_iinc (v := (x2 + (1 : Int32))) (lv' := [(2, .int (x2 + (1 : Int32))), (1, .int (s1 ||| s0)), (0, .ref (α 0))]) hx hb dX12_isBrightHere_64 hl (k := 2) rfl rfl (by decide) rfl (fun ls hl => ?_)
  refine lv_goto (tgt := 20) hx hb dX12_isBrightHere_67 (by decide) ?_
  exact hk_20 _ _ _ _ _ _ hM (lv_sub hl [2, 1, 0] rfl) h
def fm_isBrightHere_61 (k_20 : mS → Int32 → Int32 → Option (Int32 × mS)) (σ : mS) (x2 : Int32) (s0 : Int32) : Option (Int32 × mS) :=
  fm_isBrightHere_62 k_20 σ x2 (0 : Int32) s0
set_option maxHeartbeats 4000000 in
set_option maxRecDepth 100000 in
theorem gm_isBrightHere_61 {p : Program} {l : Launch} {e : Env} {s : State} {m : MethodId} {args : Array Value} {below : List Frame} {meth : Method} {c : Code} {D : va_G} {ca : Nat → ClassId} {α : Nat → Nat} {A : Nat → Prop} {o : Int32 × mS} {k_20 : mS → Int32 → Int32 → Option (Int32 × mS)} (C : mC p s m args c cX12_isBrightHere 3 D ca) (hr : meth.sig.returnType = some .boolean) (hlk : meth.locks = false) (hk_20 : ∀ (σ : mS) (x1 : Int32) (x2 : Int32) (H : Heap) (locs : List Loc) (ls : Array Slot), mM D ca α A s.heap σ H locs → lv_has ls 3 [(0, .ref (α 0)), (1, .int x1), (2, .int x2)] → k_20 σ x1 x2 = some o → mGI p l e rmX12_isBrightHere s m args below meth c D ca α A o H locs 20 ls []) : ∀ (σ : mS) (x2 : Int32) (s0 : Int32) (H : Heap) (locs : List Loc) (ls : Array Slot), mM D ca α A s.heap σ H locs → lv_has ls 3 [(0, .ref (α 0)), (2, .int x2)] → fm_isBrightHere_61 k_20 σ x2 s0 = some o → mGI p l e rmX12_isBrightHere s m args below meth c D ca α A o H locs 61 ls [.int s0] := by
  have hx := C.1
  have hb := C.2.1
  intro σ x2 s0 H locs ls hM hl h
  unfold fm_isBrightHere_61 at h
  refine lv_iconst (v := (0 : Int32)) hx hb dX12_isBrightHere_61 (by decide) ?_
  exact gm_isBrightHere_62 C hr hlk hk_20 _ _ _ _ _ _ _ hM (lv_sub hl [0, 1] rfl) h
def fm_isBrightHere_20 : Nat → mS → Int32 → Int32 → Option (Int32 × mS)
  | 0, _, _, _ => none
  | n + 1, σ, x1, x2 =>
    if (σ.1 16) ≤ x2 then
      if x1 &&& 1 = x1 then some (x1, σ) else none
    else
      if x2 < 0 ∨ 12 ≤ x2.toNatClampNeg then none else
      if (σ.2.2.1 13 x2.toNatClampNeg) = (108 : Int32) then
        if x2 < 0 ∨ 12 ≤ x2.toNatClampNeg then none else
        if (σ.2.2.1 37 x2.toNatClampNeg) = 0 then
          fm_isBrightHere_61 (fm_isBrightHere_20 n) σ x2 x1
        else
          (fm_isAtHand σ x2).bind fun r_1 =>
          if r_1.1 = 0 then
            fm_isBrightHere_61 (fm_isBrightHere_20 n) r_1.2 x2 x1
          else
            fm_isBrightHere_62 (fm_isBrightHere_20 n) r_1.2 x2 (1 : Int32) x1
      else
        fm_isBrightHere_61 (fm_isBrightHere_20 n) σ x2 x1
set_option maxHeartbeats 4000000 in
set_option maxRecDepth 100000 in
theorem gm_isBrightHere_20 {p : Program} {l : Launch} {e : Env} {s : State} {m : MethodId} {args : Array Value} {below : List Frame} {meth : Method} {c : Code} {D : va_G} {ca : Nat → ClassId} {α : Nat → Nat} {A : Nat → Prop} {o : Int32 × mS} (C : mC p s m args c cX12_isBrightHere 3 D ca) (hr : meth.sig.returnType = some .boolean) (hlk : meth.locks = false) : ∀ (n : Nat) (σ : mS) (x1 : Int32) (x2 : Int32) (H : Heap) (locs : List Loc) (ls : Array Slot), mM D ca α A s.heap σ H locs → lv_has ls 3 [(0, .ref (α 0)), (1, .int x1), (2, .int x2)] → fm_isBrightHere_20 n σ x1 x2 = some o → mGI p l e rmX12_isBrightHere s m args below meth c D ca α A o H locs 20 ls [] := by
  have hx := C.1
  have hb := C.2.1
  intro n
  induction n with
  | zero =>
    intro σ x1 x2 H locs ls hM hl h
    cases h
  | succ n ih =>
    intro σ x1 x2 H locs ls hM hl h
    rw [fm_isBrightHere_20] at h
    refine lv_iload_n hx hb dX12_isBrightHere_20 rfl (lv_at hl 2 rfl) ?_
    refine lv_aload_n hx hb dX12_isBrightHere_21 rfl (lv_at hl 0 rfl) ?_
    refine m_geti C hM (k := 16) (Or.inl rfl) rfl dX12_isBrightHere_22 ?_
    refine lv_icmp_ge (tgt := 70) hx hb dX12_isBrightHere_25 (by decide) (fun c_1 => ?_) (fun c_1 => ?_)
    · have h := br_T c_1 h
      refine lv_iload_n hx hb dX12_isBrightHere_70 rfl (lv_at hl 1 rfl) ?_
      exact m_rz C hM hr hlk dX12_isBrightHere_71 h
    · have h := br_F c_1 h
      refine lv_iload_n hx hb dX12_isBrightHere_28 rfl (lv_at hl 1 rfl) ?_
      refine lv_aload_n hx hb dX12_isBrightHere_29 rfl (lv_at hl 0 rfl) ?_
      refine m_geta C hM (k := 13) (by decide) rfl dX12_isBrightHere_30 ?_
      refine lv_iload_n hx hb dX12_isBrightHere_33 rfl (lv_at hl 2 rfl) ?_
      obtain ⟨c_2, h⟩ := ko_of h
      refine m_cald C hM (k := 13) rfl c_2 dX12_isBrightHere_34 ?_
      refine lv_bipush (v := (108 : Int32)) hx hb dX12_isBrightHere_35 (by decide) ?_
      refine lv_icmp_ne (tgt := 61) hx hb dX12_isBrightHere_37 (by decide) (fun c_3 => ?_) (fun c_3 => ?_)
      · have h := br_F c_3 h
        exact gm_isBrightHere_61 C hr hlk ih _ _ _ _ _ _ hM (lv_sub hl [0, 2] rfl) h
      · have h := br_T c_3 h
        refine lv_aload_n hx hb dX12_isBrightHere_40 rfl (lv_at hl 0 rfl) ?_
        refine m_geta C hM (k := 37) (by decide) rfl dX12_isBrightHere_41 ?_
        refine lv_iload_n hx hb dX12_isBrightHere_44 rfl (lv_at hl 2 rfl) ?_
        obtain ⟨c_4, h⟩ := ko_of h
        refine m_zald C hM (k := 37) rfl c_4 dX12_isBrightHere_45 ?_
        refine lv_if_eq (tgt := 61) hx hb dX12_isBrightHere_46 (by decide) (fun c_5 => ?_) (fun c_5 => ?_)
        · have h := br_T c_5 h
          exact gm_isBrightHere_61 C hr hlk ih _ _ _ _ _ _ hM (lv_sub hl [0, 2] rfl) h
        · have h := br_F c_5 h
          refine lv_aload_n hx hb dX12_isBrightHere_49 rfl (lv_at hl 0 rfl) ?_
          refine lv_iload_n hx hb dX12_isBrightHere_50 rfl (lv_at hl 2 rfl) ?_
          obtain ⟨r_1, hr_1, h⟩ := bd_of h
          refine m_cVi (As := [.int x2]) (rest := [.int x1]) C hM (cm_isAtHand l D ca α A σ x2 r_1 hr_1) mwy_isAtHand ⟨rfl, rfl⟩ ⟨Nat.le_of_ble_eq_true rfl, Nat.le_of_ble_eq_true rfl⟩ rfl rfl (Nat.le_of_ble_eq_true rfl) hl.1 dX12_isBrightHere_51 ⟨rfl, rfl⟩ (fun H locs hM => ?_)
          refine lv_if_eq (tgt := 61) hx hb dX12_isBrightHere_54 (by decide) (fun c_6 => ?_) (fun c_6 => ?_)
          · have h := br_T c_6 h
            exact gm_isBrightHere_61 C hr hlk ih _ _ _ _ _ _ hM (lv_sub hl [0, 2] rfl) h
          · have h := br_F c_6 h
            refine lv_iconst (v := (1 : Int32)) hx hb dX12_isBrightHere_57 (by decide) ?_
            refine lv_goto (tgt := 62) hx hb dX12_isBrightHere_58 (by decide) ?_
            exact gm_isBrightHere_62 C hr hlk ih _ _ _ _ _ _ _ hM (lv_sub hl [0, 2] rfl) h
def fm_isBrightHere_17 (σ : mS) (s0 : Int32) : Option (Int32 × mS) :=
  fm_isBrightHere_20 3000 σ s0 (0 : Int32)
set_option maxHeartbeats 4000000 in
set_option maxRecDepth 100000 in
theorem gm_isBrightHere_17 {p : Program} {l : Launch} {e : Env} {s : State} {m : MethodId} {args : Array Value} {below : List Frame} {meth : Method} {c : Code} {D : va_G} {ca : Nat → ClassId} {α : Nat → Nat} {A : Nat → Prop} {o : Int32 × mS} (C : mC p s m args c cX12_isBrightHere 3 D ca) (hr : meth.sig.returnType = some .boolean) (hlk : meth.locks = false) : ∀ (σ : mS) (s0 : Int32) (H : Heap) (locs : List Loc) (ls : Array Slot), mM D ca α A s.heap σ H locs → lv_has ls 3 [(0, .ref (α 0))] → fm_isBrightHere_17 σ s0 = some o → mGI p l e rmX12_isBrightHere s m args below meth c D ca α A o H locs 17 ls [.int s0] := by
  have hx := C.1
  have hb := C.2.1
  intro σ s0 H locs ls hM hl h
  unfold fm_isBrightHere_17 at h
  refine lv_istore_n (lv' := [(1, .int s0), (0, .ref (α 0))]) hx hb dX12_isBrightHere_17 rfl hl (by decide) rfl (fun ls hl => ?_)
  refine lv_iconst (v := (0 : Int32)) hx hb dX12_isBrightHere_18 (by decide) ?_
  refine lv_istore_n (lv' := [(2, .int (0 : Int32)), (1, .int s0), (0, .ref (α 0))]) hx hb dX12_isBrightHere_19 rfl hl (by decide) rfl (fun ls hl => ?_)
  exact gm_isBrightHere_20 C hr hlk  _ _ _ _ _ _ _ hM (lv_sub hl [2, 1, 0] rfl) h
def fm_isBrightHere (σ : mS) : Option (Int32 × mS) :=
  if (σ.1 35) < 0 ∨ 12 ≤ (σ.1 35).toNatClampNeg then none else
  if (σ.2.2.1 5 (σ.1 35).toNatClampNeg) = 0 then
    fm_isBrightHere_17 σ (1 : Int32)
  else
    fm_isBrightHere_17 σ (0 : Int32)
set_option maxHeartbeats 4000000 in
set_option maxRecDepth 100000 in
theorem cm_isBrightHere (l : Launch) (D : va_G) (ca : Nat → ClassId) (α : Nat → Nat) (A : Nat → Prop) (σ : mS) (o : Int32 × mS) (h : fm_isBrightHere σ  = some o) : mMetI l yX12_isBrightHere cX12_isBrightHere 3 (some .boolean) rmX12_isBrightHere D ca α A σ [] o := by
  refine Met.ofW (cc := cX12_isBrightHere) (maxL := 3) (ret := some .boolean) (by decide) rfl ?_
  intro p e s m args below meth c s₁ B hml hv
  obtain ⟨rfl, hP, hK, hD0⟩ := hv
  have C : mC p s m _ c cX12_isBrightHere 3 D ca := ⟨B.exec, B.bytes, hml, findClass_of_methodNamed B.named, fun w hw => atoms_spec (ws := mWs yX12_isBrightHere cX12_isBrightHere 3 (some .boolean)) B.pre w (List.mem_cons_of_mem _ hw), hK⟩
  have hM : mM D ca α A s.heap σ s.heap [] := ⟨hP, hD0, va_S.rf⟩
  have hr := B.returns
  have hlk := B.notSynchronized
  have hx := C.1
  have hb := C.2.1
  have hl := lv_entry ([.ref (α 0)]) (n := 3) (Nat.le_of_ble_eq_true rfl)
  rw [lg_entry_eq]
  generalize (lg_sl ([.ref (α 0)]) ++ List.replicate (3 - (lg_sl ([.ref (α 0)])).length) Slot.unset).toArray = ls at hl ⊢
  have hl : lv_has ls 3 [(0, .ref (α 0))] := hl
  unfold fm_isBrightHere at h
  refine lv_aload_n hx hb dX12_isBrightHere_0 rfl (lv_at hl 0 rfl) ?_
  refine m_geta C hM (k := 5) (by decide) rfl dX12_isBrightHere_1 ?_
  refine lv_aload_n hx hb dX12_isBrightHere_4 rfl (lv_at hl 0 rfl) ?_
  refine m_geti C hM (k := 35) (Or.inl rfl) rfl dX12_isBrightHere_5 ?_
  obtain ⟨c_1, h⟩ := ko_of h
  refine m_zald C hM (k := 5) rfl c_1 dX12_isBrightHere_8 ?_
  refine lv_if_ne (tgt := 16) hx hb dX12_isBrightHere_9 (by decide) (fun c_2 => ?_) (fun c_2 => ?_)
  · have h := br_F c_2 h
    refine lv_iconst (v := (0 : Int32)) hx hb dX12_isBrightHere_16 (by decide) ?_
    exact gm_isBrightHere_17 C hr hlk  _ _ _ _ _ hM (lv_sub hl [0] rfl) h
  · have h := br_T c_2 h
    refine lv_iconst (v := (1 : Int32)) hx hb dX12_isBrightHere_12 (by decide) ?_
    refine lv_goto (tgt := 17) hx hb dX12_isBrightHere_13 (by decide) ?_
    exact gm_isBrightHere_17 C hr hlk  _ _ _ _ _ hM (lv_sub hl [0] rfl) h
theorem mwy_isBrightHere : mCallV RX12 200 yX12_isBrightHere cX12_isBrightHere 3 (some .boolean) 0 := ⟨⟨wl_in (i := 2110) (by decide +kernel), wl_in (i := 2112) (by decide +kernel), wl_inp (i := 37) (by decide +kernel), wl_in (i := 16) (by decide +kernel), wl_in (i := 2113) (by decide +kernel)⟩, rfl, by decide, by decide, by decide +kernel⟩
/-! canReach(I)Z -/
abbrev rmX12_canReach : Room := { frames := 2, cells := 0, slots := 0, locals := 44 }
def fm_canReach_20 (σ : mS) (s0 : Int32) : Option (Int32 × mS) :=
  if s0 &&& 1 = s0 then some (s0, σ) else none
set_option maxHeartbeats 4000000 in
set_option maxRecDepth 100000 in
theorem gm_canReach_20 {p : Program} {l : Launch} {e : Env} {s : State} {m : MethodId} {args : Array Value} {below : List Frame} {meth : Method} {c : Code} {D : va_G} {ca : Nat → ClassId} {α : Nat → Nat} {A : Nat → Prop} {o : Int32 × mS} (C : mC p s m args c cX12_canReach 2 D ca) (hr : meth.sig.returnType = some .boolean) (hlk : meth.locks = false) : ∀ (σ : mS) (s0 : Int32) (H : Heap) (locs : List Loc) (ls : Array Slot), mM D ca α A s.heap σ H locs → lv_has ls 2 [(0, .ref (α 0))] → fm_canReach_20 σ s0 = some o → mGI p l e rmX12_canReach s m args below meth c D ca α A o H locs 20 ls [.int s0] := by
  have hx := C.1
  have hb := C.2.1
  intro σ s0 H locs ls hM hl h
  unfold fm_canReach_20 at h
  exact m_rz C hM hr hlk dX12_canReach_20 h
def fm_canReach (σ : mS) (x1 : Int32) : Option (Int32 × mS) :=
  (fm_isBrightHere σ).bind fun r_1 =>
  if r_1.1 = 0 then
    (fm_isHeld r_1.2 x1).bind fun r_2 =>
    fm_canReach_20 r_2.2 r_2.1
  else
    (fm_isAtHand r_1.2 x1).bind fun r_3 =>
    fm_canReach_20 r_3.2 r_3.1
set_option maxHeartbeats 4000000 in
set_option maxRecDepth 100000 in
theorem cm_canReach (l : Launch) (D : va_G) (ca : Nat → ClassId) (α : Nat → Nat) (A : Nat → Prop) (σ : mS) (x1 : Int32) (o : Int32 × mS) (h : fm_canReach σ x1 = some o) : mMetI l yX12_canReach cX12_canReach 2 (some .boolean) rmX12_canReach D ca α A σ [.int x1] o := by
  refine Met.ofW (cc := cX12_canReach) (maxL := 2) (ret := some .boolean) (by decide) rfl ?_
  intro p e s m args below meth c s₁ B hml hv
  obtain ⟨rfl, hP, hK, hD0⟩ := hv
  have C : mC p s m _ c cX12_canReach 2 D ca := ⟨B.exec, B.bytes, hml, findClass_of_methodNamed B.named, fun w hw => atoms_spec (ws := mWs yX12_canReach cX12_canReach 2 (some .boolean)) B.pre w (List.mem_cons_of_mem _ hw), hK⟩
  have hM : mM D ca α A s.heap σ s.heap [] := ⟨hP, hD0, va_S.rf⟩
  have hr := B.returns
  have hlk := B.notSynchronized
  have hx := C.1
  have hb := C.2.1
  have hl := lv_entry ([.ref (α 0), .int x1]) (n := 2) (Nat.le_of_ble_eq_true rfl)
  rw [lg_entry_eq]
  generalize (lg_sl ([.ref (α 0), .int x1]) ++ List.replicate (2 - (lg_sl ([.ref (α 0), .int x1])).length) Slot.unset).toArray = ls at hl ⊢
  have hl : lv_has ls 2 [(0, .ref (α 0)), (1, .int x1)] := hl
  unfold fm_canReach at h
  refine lv_aload_n hx hb dX12_canReach_0 rfl (lv_at hl 0 rfl) ?_
  obtain ⟨r_1, hr_1, h⟩ := bd_of h
  refine m_cVi (As := []) (rest := []) C hM (cm_isBrightHere l D ca α A σ  r_1 hr_1) mwy_isBrightHere ⟨rfl, rfl⟩ ⟨Nat.le_of_ble_eq_true rfl, Nat.le_of_ble_eq_true rfl⟩ rfl rfl (Nat.le_of_ble_eq_true rfl) hl.1 dX12_canReach_1 ⟨rfl, rfl⟩ (fun H locs hM => ?_)
  refine lv_if_eq (tgt := 15) hx hb dX12_canReach_4 (by decide) (fun c_1 => ?_) (fun c_1 => ?_)
  · have h := br_T c_1 h
    refine lv_aload_n hx hb dX12_canReach_15 rfl (lv_at hl 0 rfl) ?_
    refine lv_iload_n hx hb dX12_canReach_16 rfl (lv_at hl 1 rfl) ?_
    obtain ⟨r_2, hr_2, h⟩ := bd_of h
    refine m_cVi (As := [.int x1]) (rest := []) C hM (cm_isHeld l D ca α A r_1.2 x1 r_2 hr_2) mwy_isHeld ⟨rfl, rfl⟩ ⟨Nat.le_of_ble_eq_true rfl, Nat.le_of_ble_eq_true rfl⟩ rfl rfl (Nat.le_of_ble_eq_true rfl) hl.1 dX12_canReach_17 ⟨rfl, rfl⟩ (fun H locs hM => ?_)
    exact gm_canReach_20 C hr hlk  _ _ _ _ _ hM (lv_sub hl [0] rfl) h
  · have h := br_F c_1 h
    refine lv_aload_n hx hb dX12_canReach_7 rfl (lv_at hl 0 rfl) ?_
    refine lv_iload_n hx hb dX12_canReach_8 rfl (lv_at hl 1 rfl) ?_
    obtain ⟨r_3, hr_3, h⟩ := bd_of h
    refine m_cVi (As := [.int x1]) (rest := []) C hM (cm_isAtHand l D ca α A r_1.2 x1 r_3 hr_3) mwy_isAtHand ⟨rfl, rfl⟩ ⟨Nat.le_of_ble_eq_true rfl, Nat.le_of_ble_eq_true rfl⟩ rfl rfl (Nat.le_of_ble_eq_true rfl) hl.1 dX12_canReach_9 ⟨rfl, rfl⟩ (fun H locs hM => ?_)
    refine lv_goto (tgt := 20) hx hb dX12_canReach_12 (by decide) ?_
    exact gm_canReach_20 C hr hlk  _ _ _ _ _ hM (lv_sub hl [0] rfl) h
theorem mwy_canReach : mCallV RX12 259 yX12_canReach cX12_canReach 2 (some .boolean) 1 := ⟨⟨wl_in (i := 2169) (by decide +kernel), wl_in (i := 2171) (by decide +kernel), wl_inp (i := 49) (by decide +kernel), wl_in (i := 16) (by decide +kernel), wl_in (i := 2172) (by decide +kernel)⟩, rfl, by decide, by decide, by decide +kernel⟩
/-! inBox(I)I -/
abbrev rmX12_inBox : Room := { frames := 0, cells := 0, slots := 0, locals := 0 }
def fm_inBox_32 (k_4 : mS → Int32 → Int32 → Int32 → Option (Int32 × mS)) (σ : mS) (x1 : Int32) (x3 : Int32) (s0 : Int32) (s1 : Int32) : Option (Int32 × mS) :=
  k_4 σ x1 (s1 + s0) (x3 + (1 : Int32))
set_option maxHeartbeats 4000000 in
set_option maxRecDepth 100000 in
theorem gm_inBox_32 {p : Program} {l : Launch} {e : Env} {s : State} {m : MethodId} {args : Array Value} {below : List Frame} {meth : Method} {c : Code} {D : va_G} {ca : Nat → ClassId} {α : Nat → Nat} {A : Nat → Prop} {o : Int32 × mS} {k_4 : mS → Int32 → Int32 → Int32 → Option (Int32 × mS)} (C : mC p s m args c cX12_inBox 4 D ca) (hr : meth.sig.returnType = some .int) (hlk : meth.locks = false) (hk_4 : ∀ (σ : mS) (x1 : Int32) (x2 : Int32) (x3 : Int32) (H : Heap) (locs : List Loc) (ls : Array Slot), mM D ca α A s.heap σ H locs → lv_has ls 4 [(0, .ref (α 0)), (1, .int x1), (2, .int x2), (3, .int x3)] → k_4 σ x1 x2 x3 = some o → mGI p l e rmX12_inBox s m args below meth c D ca α A o H locs 4 ls []) : ∀ (σ : mS) (x1 : Int32) (x3 : Int32) (s0 : Int32) (s1 : Int32) (H : Heap) (locs : List Loc) (ls : Array Slot), mM D ca α A s.heap σ H locs → lv_has ls 4 [(0, .ref (α 0)), (1, .int x1), (3, .int x3)] → fm_inBox_32 k_4 σ x1 x3 s0 s1 = some o → mGI p l e rmX12_inBox s m args below meth c D ca α A o H locs 32 ls [.int s0, .int s1] := by
  have hx := C.1
  have hb := C.2.1
  intro σ x1 x3 s0 s1 H locs ls hM hl h
  unfold fm_inBox_32 at h
  refine lv_iadd hx hb dX12_inBox_32 ?_
  refine lv_istore_n (lv' := [(2, .int (s1 + s0)), (0, .ref (α 0)), (1, .int x1), (3, .int x3)]) hx hb dX12_inBox_33 rfl hl (by decide) rfl (fun ls hl => ?_)
  refine lv_iinc (v := (x3 + (1 : Int32))) (lv' := [(3, .int (x3 + (1 : Int32))), (2, .int (s1 + s0)), (0, .ref (α 0)), (1, .int x1)]) hx hb dX12_inBox_34 hl (k := 3) rfl rfl (by decide) rfl (fun ls hl => ?_)
  refine lv_goto (tgt := 4) hx hb dX12_inBox_37 (by decide) ?_
  exact hk_4 _ _ _ _ _ _ _ hM (lv_sub hl [2, 3, 1, 0] rfl) h
def fm_inBox_4 : Nat → mS → Int32 → Int32 → Int32 → Option (Int32 × mS)
  | 0, _, _, _, _ => none
  | n + 1, σ, x1, x2, x3 =>
    if (σ.1 16) ≤ x3 then
      some (x2, σ)
    else
      if x3 < 0 ∨ 12 ≤ x3.toNatClampNeg then none else
      if (σ.2.2.1 36 x3.toNatClampNeg) = ((200 : Int32) + x1) then
        fm_inBox_32 (fm_inBox_4 n) σ x1 x3 (1 : Int32) x2
      else
        fm_inBox_32 (fm_inBox_4 n) σ x1 x3 (0 : Int32) x2
set_option maxHeartbeats 4000000 in
set_option maxRecDepth 100000 in
theorem gm_inBox_4 {p : Program} {l : Launch} {e : Env} {s : State} {m : MethodId} {args : Array Value} {below : List Frame} {meth : Method} {c : Code} {D : va_G} {ca : Nat → ClassId} {α : Nat → Nat} {A : Nat → Prop} {o : Int32 × mS} (C : mC p s m args c cX12_inBox 4 D ca) (hr : meth.sig.returnType = some .int) (hlk : meth.locks = false) : ∀ (n : Nat) (σ : mS) (x1 : Int32) (x2 : Int32) (x3 : Int32) (H : Heap) (locs : List Loc) (ls : Array Slot), mM D ca α A s.heap σ H locs → lv_has ls 4 [(0, .ref (α 0)), (1, .int x1), (2, .int x2), (3, .int x3)] → fm_inBox_4 n σ x1 x2 x3 = some o → mGI p l e rmX12_inBox s m args below meth c D ca α A o H locs 4 ls [] := by
  have hx := C.1
  have hb := C.2.1
  intro n
  induction n with
  | zero =>
    intro σ x1 x2 x3 H locs ls hM hl h
    cases h
  | succ n ih =>
    intro σ x1 x2 x3 H locs ls hM hl h
    rw [fm_inBox_4] at h
    refine lv_iload_n hx hb dX12_inBox_4 rfl (lv_at hl 3 rfl) ?_
    refine lv_aload_n hx hb dX12_inBox_5 rfl (lv_at hl 0 rfl) ?_
    refine m_geti C hM (k := 16) (Or.inl rfl) rfl dX12_inBox_6 ?_
    refine lv_icmp_ge (tgt := 40) hx hb dX12_inBox_9 (by decide) (fun c_1 => ?_) (fun c_1 => ?_)
    · have h := br_T c_1 h
      refine lv_iload_n hx hb dX12_inBox_40 rfl (lv_at hl 2 rfl) ?_
      exact m_ri C hM hr hlk dX12_inBox_41 h
    · have h := br_F c_1 h
      refine lv_iload_n hx hb dX12_inBox_12 rfl (lv_at hl 2 rfl) ?_
      refine lv_aload_n hx hb dX12_inBox_13 rfl (lv_at hl 0 rfl) ?_
      refine m_geta C hM (k := 36) (by decide) rfl dX12_inBox_14 ?_
      refine lv_iload_n hx hb dX12_inBox_17 rfl (lv_at hl 3 rfl) ?_
      obtain ⟨c_2, h⟩ := ko_of h
      refine m_iald C hM (k := 36) rfl c_2 dX12_inBox_18 ?_
      refine lv_sipush (v := (200 : Int32)) hx hb dX12_inBox_19 (by decide) ?_
      refine lv_iload_n hx hb dX12_inBox_22 rfl (lv_at hl 1 rfl) ?_
      refine lv_iadd hx hb dX12_inBox_23 ?_
      refine lv_icmp_ne (tgt := 31) hx hb dX12_inBox_24 (by decide) (fun c_3 => ?_) (fun c_3 => ?_)
      · have h := br_F c_3 h
        refine lv_iconst (v := (0 : Int32)) hx hb dX12_inBox_31 (by decide) ?_
        exact gm_inBox_32 C hr hlk ih _ _ _ _ _ _ _ _ hM (lv_sub hl [0, 1, 3] rfl) h
      · have h := br_T c_3 h
        refine lv_iconst (v := (1 : Int32)) hx hb dX12_inBox_27 (by decide) ?_
        refine lv_goto (tgt := 32) hx hb dX12_inBox_28 (by decide) ?_
        exact gm_inBox_32 C hr hlk ih _ _ _ _ _ _ _ _ hM (lv_sub hl [0, 1, 3] rfl) h
def fm_inBox (σ : mS) (x1 : Int32) : Option (Int32 × mS) :=
  fm_inBox_4 3000 σ x1 (0 : Int32) (0 : Int32)
set_option maxHeartbeats 4000000 in
set_option maxRecDepth 100000 in
theorem cm_inBox (l : Launch) (D : va_G) (ca : Nat → ClassId) (α : Nat → Nat) (A : Nat → Prop) (σ : mS) (x1 : Int32) (o : Int32 × mS) (h : fm_inBox σ x1 = some o) : mMetI l yX12_inBox cX12_inBox 4 (some .int) rmX12_inBox D ca α A σ [.int x1] o := by
  refine Met.ofW (cc := cX12_inBox) (maxL := 4) (ret := some .int) (by decide) rfl ?_
  intro p e s m args below meth c s₁ B hml hv
  obtain ⟨rfl, hP, hK, hD0⟩ := hv
  have C : mC p s m _ c cX12_inBox 4 D ca := ⟨B.exec, B.bytes, hml, findClass_of_methodNamed B.named, fun w hw => atoms_spec (ws := mWs yX12_inBox cX12_inBox 4 (some .int)) B.pre w (List.mem_cons_of_mem _ hw), hK⟩
  have hM : mM D ca α A s.heap σ s.heap [] := ⟨hP, hD0, va_S.rf⟩
  have hr := B.returns
  have hlk := B.notSynchronized
  have hx := C.1
  have hb := C.2.1
  have hl := lv_entry ([.ref (α 0), .int x1]) (n := 4) (Nat.le_of_ble_eq_true rfl)
  rw [lg_entry_eq]
  generalize (lg_sl ([.ref (α 0), .int x1]) ++ List.replicate (4 - (lg_sl ([.ref (α 0), .int x1])).length) Slot.unset).toArray = ls at hl ⊢
  have hl : lv_has ls 4 [(0, .ref (α 0)), (1, .int x1)] := hl
  unfold fm_inBox at h
  refine lv_iconst (v := (0 : Int32)) hx hb dX12_inBox_0 (by decide) ?_
  refine lv_istore_n (lv' := [(2, .int (0 : Int32)), (0, .ref (α 0)), (1, .int x1)]) hx hb dX12_inBox_1 rfl hl (by decide) rfl (fun ls hl => ?_)
  refine lv_iconst (v := (0 : Int32)) hx hb dX12_inBox_2 (by decide) ?_
  refine lv_istore_n (lv' := [(3, .int (0 : Int32)), (2, .int (0 : Int32)), (0, .ref (α 0)), (1, .int x1)]) hx hb dX12_inBox_3 rfl hl (by decide) rfl (fun ls hl => ?_)
  exact gm_inBox_4 C hr hlk  _ _ _ _ _ _ _ _ hM (lv_sub hl [2, 3, 1, 0] rfl) h
theorem mwy_inBox : mCallV RX12 265 yX12_inBox cX12_inBox 4 (some .int) 1 := ⟨⟨wl_in (i := 2177) (by decide +kernel), wl_in (i := 2179) (by decide +kernel), wl_inp (i := 51) (by decide +kernel), wl_in (i := 16) (by decide +kernel), wl_in (i := 2180) (by decide +kernel)⟩, rfl, by decide, by decide, by decide +kernel⟩
