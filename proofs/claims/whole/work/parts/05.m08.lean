/-! The reference's methods: what each makes of the state (fm_..), as the bytecode has it; and that it does (cm_..). -/

/-! read(I)I -/
abbrev rmX12_read : Room := { frames := 4, cells := 0, slots := 0, locals := 92 }
def fm_read_72 (σ : mS) (x1 : Int32) (x2 : Int32) (s0 : Int32) : Option (Int32 × mS) :=
  (fm_isWrong σ s0).bind fun r_1 =>
  if r_1.1 = 0 then
    if x2 = (-1 : Int32) then
      (fm_takesUp r_1.2 (r_1.2.1 34)).bind fun r_2 =>
      if x1 < 0 ∨ 12 ≤ x1.toNatClampNeg then none else
      (fm_comes (mJ r_2 39 (r_2.2.2.2 44 x1.toNatClampNeg)) (2 : Int32) x1).bind fun r_3 =>
      some ((r_3.1 34), r_3)
    else
      some (((mI r_1.2 34 x2).1 34), (mI r_1.2 34 x2))
  else
    some ((0 : Int32), r_1.2)
set_option maxHeartbeats 4000000 in
set_option maxRecDepth 100000 in
theorem gm_read_72 {p : Program} {l : Launch} {e : Env} {s : State} {m : MethodId} {args : Array Value} {below : List Frame} {meth : Method} {c : Code} {D : va_G} {ca : Nat → ClassId} {α : Nat → Nat} {A : Nat → Prop} {o : Int32 × mS} (C : mC p s m args c cX12_read 3 D ca) (hr : meth.sig.returnType = some .int) (hlk : meth.locks = false) : ∀ (σ : mS) (x1 : Int32) (x2 : Int32) (s0 : Int32) (H : Heap) (locs : List Loc) (ls : Array Slot), mM D ca α A s.heap σ H locs → lv_has ls 3 [(0, .ref (α 0)), (1, .int x1), (2, .int x2)] → fm_read_72 σ x1 x2 s0 = some o → mGI p l e rmX12_read s m args below meth c D ca α A o H locs 72 ls [.int s0, .ref (α 0)] := by
  have hx := C.1
  have hb := C.2.1
  intro σ x1 x2 s0 H locs ls hM hl h
  unfold fm_read_72 at h
  obtain ⟨r_1, hr_1, h⟩ := bd_of h
  refine m_cVi (As := [.int s0]) (rest := []) C hM (cm_isWrong l D ca α A σ s0 r_1 hr_1) mwy_isWrong ⟨rfl, rfl⟩ ⟨Nat.le_of_ble_eq_true rfl, Nat.le_of_ble_eq_true rfl⟩ rfl rfl (Nat.le_of_ble_eq_true rfl) hl.1 dX12_read_72 ⟨rfl, rfl⟩ (fun H locs hM => ?_)
  refine lv_if_eq (tgt := 80) hx hb dX12_read_75 (by decide) (fun c_1 => ?_) (fun c_1 => ?_)
  · have h := br_T c_1 h
    refine lv_iload_n hx hb dX12_read_80 rfl (lv_at hl 2 rfl) ?_
    refine lv_iconst (v := (-1 : Int32)) hx hb dX12_read_81 (by decide) ?_
    refine lv_icmp_eq (tgt := 95) hx hb dX12_read_82 (by decide) (fun c_2 => ?_) (fun c_2 => ?_)
    · have h := br_T c_2 h
      refine lv_aload_n hx hb dX12_read_95 rfl (lv_at hl 0 rfl) ?_
      refine lv_aload_n hx hb dX12_read_96 rfl (lv_at hl 0 rfl) ?_
      refine m_geti C hM (k := 34) (Or.inl rfl) rfl dX12_read_97 ?_
      obtain ⟨r_2, hr_2, h⟩ := bd_of h
      refine m_cVv (As := [.int (r_1.2.1 34)]) (rest := []) C hM (cm_takesUp l D ca α A r_1.2 (r_1.2.1 34) r_2 hr_2) mwy_takesUp ⟨rfl, rfl⟩ ⟨Nat.le_of_ble_eq_true rfl, Nat.le_of_ble_eq_true rfl⟩ rfl rfl (Nat.le_of_ble_eq_true rfl) hl.1 dX12_read_100 ⟨rfl, rfl⟩ (fun H locs hM => ?_)
      refine lv_aload_n hx hb dX12_read_103 rfl (lv_at hl 0 rfl) ?_
      refine lv_aload_n hx hb dX12_read_104 rfl (lv_at hl 0 rfl) ?_
      refine m_geta C hM (k := 44) (by decide) rfl dX12_read_105 ?_
      refine lv_iload_n hx hb dX12_read_108 rfl (lv_at hl 1 rfl) ?_
      obtain ⟨c_3, h⟩ := ko_of h
      refine m_lald C hM (k := 44) rfl c_3 dX12_read_109 ?_
      refine m_putl C hM (k := 39) rfl rfl dX12_read_110 (fun H locs hM => ?_)
      refine lv_aload_n hx hb dX12_read_113 rfl (lv_at hl 0 rfl) ?_
      refine lv_iconst (v := (2 : Int32)) hx hb dX12_read_114 (by decide) ?_
      refine lv_iload_n hx hb dX12_read_115 rfl (lv_at hl 1 rfl) ?_
      obtain ⟨r_3, hr_3, h⟩ := bd_of h
      refine m_cVv (As := [.int (2 : Int32), .int x1]) (rest := []) C hM (cm_comes l D ca α A (mJ r_2 39 (r_2.2.2.2 44 x1.toNatClampNeg)) (2 : Int32) x1 r_3 hr_3) mwy_comes ⟨rfl, rfl⟩ ⟨Nat.le_of_ble_eq_true rfl, Nat.le_of_ble_eq_true rfl⟩ rfl rfl (Nat.le_of_ble_eq_true rfl) hl.1 dX12_read_116 ⟨rfl, rfl⟩ (fun H locs hM => ?_)
      refine lv_aload_n hx hb dX12_read_119 rfl (lv_at hl 0 rfl) ?_
      refine m_geti C hM (k := 34) (Or.inl rfl) rfl dX12_read_120 ?_
      exact m_ri C hM hr hlk dX12_read_123 h
    · have h := br_F c_2 h
      refine lv_aload_n hx hb dX12_read_85 rfl (lv_at hl 0 rfl) ?_
      refine lv_iload_n hx hb dX12_read_86 rfl (lv_at hl 2 rfl) ?_
      refine m_puti C hM (k := 34) rfl rfl dX12_read_87 (fun H locs hM => ?_)
      refine lv_aload_n hx hb dX12_read_90 rfl (lv_at hl 0 rfl) ?_
      refine m_geti C hM (k := 34) (Or.inl rfl) rfl dX12_read_91 ?_
      exact m_ri C hM hr hlk dX12_read_94 h
  · have h := br_F c_1 h
    refine lv_iconst (v := (0 : Int32)) hx hb dX12_read_78 (by decide) ?_
    exact m_ri C hM hr hlk dX12_read_79 h
def fm_read_59 (σ : mS) (x1 : Int32) (x2 : Int32) : Option (Int32 × mS) :=
  (fm_isOwnedNow σ x1).bind fun r_1 =>
  if r_1.1 = 0 then
    fm_read_72 r_1.2 x1 x2 (3 : Int32)
  else
    fm_read_72 r_1.2 x1 x2 (0 : Int32)
set_option maxHeartbeats 4000000 in
set_option maxRecDepth 100000 in
theorem gm_read_59 {p : Program} {l : Launch} {e : Env} {s : State} {m : MethodId} {args : Array Value} {below : List Frame} {meth : Method} {c : Code} {D : va_G} {ca : Nat → ClassId} {α : Nat → Nat} {A : Nat → Prop} {o : Int32 × mS} (C : mC p s m args c cX12_read 3 D ca) (hr : meth.sig.returnType = some .int) (hlk : meth.locks = false) : ∀ (σ : mS) (x1 : Int32) (x2 : Int32) (H : Heap) (locs : List Loc) (ls : Array Slot), mM D ca α A s.heap σ H locs → lv_has ls 3 [(0, .ref (α 0)), (1, .int x1), (2, .int x2)] → fm_read_59 σ x1 x2 = some o → mGI p l e rmX12_read s m args below meth c D ca α A o H locs 59 ls [.ref (α 0)] := by
  have hx := C.1
  have hb := C.2.1
  intro σ x1 x2 H locs ls hM hl h
  unfold fm_read_59 at h
  refine lv_aload_n hx hb dX12_read_59 rfl (lv_at hl 0 rfl) ?_
  refine lv_iload_n hx hb dX12_read_60 rfl (lv_at hl 1 rfl) ?_
  obtain ⟨r_1, hr_1, h⟩ := bd_of h
  refine m_cVi (As := [.int x1]) (rest := [.ref (α 0)]) C hM (cm_isOwnedNow l D ca α A σ x1 r_1 hr_1) mwy_isOwnedNow ⟨rfl, rfl⟩ ⟨Nat.le_of_ble_eq_true rfl, Nat.le_of_ble_eq_true rfl⟩ rfl rfl (Nat.le_of_ble_eq_true rfl) hl.1 dX12_read_61 ⟨rfl, rfl⟩ (fun H locs hM => ?_)
  refine lv_if_ne (tgt := 71) hx hb dX12_read_64 (by decide) (fun c_1 => ?_) (fun c_1 => ?_)
  · have h := br_F c_1 h
    refine lv_iconst (v := (0 : Int32)) hx hb dX12_read_71 (by decide) ?_
    exact gm_read_72 C hr hlk  _ _ _ _ _ _ _ hM (lv_sub hl [0, 1, 2] rfl) h
  · have h := br_T c_1 h
    refine lv_iconst (v := (3 : Int32)) hx hb dX12_read_67 (by decide) ?_
    refine lv_goto (tgt := 72) hx hb dX12_read_68 (by decide) ?_
    exact gm_read_72 C hr hlk  _ _ _ _ _ _ _ hM (lv_sub hl [0, 1, 2] rfl) h
def fm_read_25 (σ : mS) (x1 : Int32) (s0 : Int32) : Option (Int32 × mS) :=
  (fm_isWrong σ s0).bind fun r_1 =>
  if r_1.1 = 0 then
    (fm_childBy r_1.2 (2 : Int32) x1).bind fun r_2 =>
    if r_2.1 = (-1 : Int32) then
      if (r_2.2.1 33) = (80 : Int32) then
        fm_read_72 r_2.2 x1 r_2.1 (2 : Int32)
      else
        fm_read_59 r_2.2 x1 r_2.1
    else
      fm_read_59 r_2.2 x1 r_2.1
  else
    some ((0 : Int32), r_1.2)
set_option maxHeartbeats 4000000 in
set_option maxRecDepth 100000 in
theorem gm_read_25 {p : Program} {l : Launch} {e : Env} {s : State} {m : MethodId} {args : Array Value} {below : List Frame} {meth : Method} {c : Code} {D : va_G} {ca : Nat → ClassId} {α : Nat → Nat} {A : Nat → Prop} {o : Int32 × mS} (C : mC p s m args c cX12_read 3 D ca) (hr : meth.sig.returnType = some .int) (hlk : meth.locks = false) : ∀ (σ : mS) (x1 : Int32) (s0 : Int32) (H : Heap) (locs : List Loc) (ls : Array Slot), mM D ca α A s.heap σ H locs → lv_has ls 3 [(0, .ref (α 0)), (1, .int x1)] → fm_read_25 σ x1 s0 = some o → mGI p l e rmX12_read s m args below meth c D ca α A o H locs 25 ls [.int s0, .ref (α 0)] := by
  have hx := C.1
  have hb := C.2.1
  intro σ x1 s0 H locs ls hM hl h
  unfold fm_read_25 at h
  obtain ⟨r_1, hr_1, h⟩ := bd_of h
  refine m_cVi (As := [.int s0]) (rest := []) C hM (cm_isWrong l D ca α A σ s0 r_1 hr_1) mwy_isWrong ⟨rfl, rfl⟩ ⟨Nat.le_of_ble_eq_true rfl, Nat.le_of_ble_eq_true rfl⟩ rfl rfl (Nat.le_of_ble_eq_true rfl) hl.1 dX12_read_25 ⟨rfl, rfl⟩ (fun H locs hM => ?_)
  refine lv_if_eq (tgt := 33) hx hb dX12_read_28 (by decide) (fun c_1 => ?_) (fun c_1 => ?_)
  · have h := br_T c_1 h
    refine lv_aload_n hx hb dX12_read_33 rfl (lv_at hl 0 rfl) ?_
    refine lv_iconst (v := (2 : Int32)) hx hb dX12_read_34 (by decide) ?_
    refine lv_iload_n hx hb dX12_read_35 rfl (lv_at hl 1 rfl) ?_
    obtain ⟨r_2, hr_2, h⟩ := bd_of h
    refine m_cVi (As := [.int (2 : Int32), .int x1]) (rest := []) C hM (cm_childBy l D ca α A r_1.2 (2 : Int32) x1 r_2 hr_2) mwy_childBy ⟨rfl, rfl⟩ ⟨Nat.le_of_ble_eq_true rfl, Nat.le_of_ble_eq_true rfl⟩ rfl rfl (Nat.le_of_ble_eq_true rfl) hl.1 dX12_read_36 ⟨rfl, rfl⟩ (fun H locs hM => ?_)
    refine lv_istore_n (lv' := [(2, .int r_2.1), (0, .ref (α 0)), (1, .int x1)]) hx hb dX12_read_39 rfl hl (by decide) rfl (fun ls hl => ?_)
    refine lv_aload_n hx hb dX12_read_40 rfl (lv_at hl 1 rfl) ?_
    refine lv_iload_n hx hb dX12_read_41 rfl (lv_at hl 0 rfl) ?_
    refine lv_iconst (v := (-1 : Int32)) hx hb dX12_read_42 (by decide) ?_
    refine lv_icmp_ne (tgt := 59) hx hb dX12_read_43 (by decide) (fun c_2 => ?_) (fun c_2 => ?_)
    · have h := br_F c_2 h
      exact gm_read_59 C hr hlk  _ _ _ _ _ _ hM (lv_sub hl [1, 2, 0] rfl) h
    · have h := br_T c_2 h
      refine lv_aload_n hx hb dX12_read_46 rfl (lv_at hl 1 rfl) ?_
      refine m_geti C hM (k := 33) (Or.inl rfl) rfl dX12_read_47 ?_
      refine lv_bipush (v := (80 : Int32)) hx hb dX12_read_50 (by decide) ?_
      refine lv_icmp_ne (tgt := 59) hx hb dX12_read_52 (by decide) (fun c_3 => ?_) (fun c_3 => ?_)
      · have h := br_F c_3 h
        exact gm_read_59 C hr hlk  _ _ _ _ _ _ hM (lv_sub hl [1, 2, 0] rfl) h
      · have h := br_T c_3 h
        refine lv_iconst (v := (2 : Int32)) hx hb dX12_read_55 (by decide) ?_
        refine lv_goto (tgt := 72) hx hb dX12_read_56 (by decide) ?_
        exact gm_read_72 C hr hlk  _ _ _ _ _ _ _ hM (lv_sub hl [1, 2, 0] rfl) h
  · have h := br_F c_1 h
    refine lv_iconst (v := (0 : Int32)) hx hb dX12_read_31 (by decide) ?_
    exact m_ri C hM hr hlk dX12_read_32 h
def fm_read (σ : mS) (x1 : Int32) : Option (Int32 × mS) :=
  (fm_isHint σ x1).bind fun r_1 =>
  if r_1.1 = 0 then
    fm_read_25 r_1.2 x1 (1 : Int32)
  else
    if (r_1.2.1 20) = 0 then
      fm_read_25 r_1.2 x1 (2 : Int32)
    else
      fm_read_25 r_1.2 x1 (0 : Int32)
set_option maxHeartbeats 4000000 in
set_option maxRecDepth 100000 in
theorem cm_read (l : Launch) (D : va_G) (ca : Nat → ClassId) (α : Nat → Nat) (A : Nat → Prop) (σ : mS) (x1 : Int32) (o : Int32 × mS) (h : fm_read σ x1 = some o) : mMetI l yX12_read cX12_read 3 (some .int) rmX12_read D ca α A σ [.int x1] o := by
  refine Met.ofW (cc := cX12_read) (maxL := 3) (ret := some .int) (by decide) rfl ?_
  intro p e s m args below meth c s₁ B hml hv
  obtain ⟨rfl, hP, hK, hD0⟩ := hv
  have C : mC p s m _ c cX12_read 3 D ca := ⟨B.exec, B.bytes, hml, findClass_of_methodNamed B.named, fun w hw => atoms_spec (ws := mWs yX12_read cX12_read 3 (some .int)) B.pre w (List.mem_cons_of_mem _ hw), hK⟩
  have hM : mM D ca α A s.heap σ s.heap [] := ⟨hP, hD0, va_S.rf⟩
  have hr := B.returns
  have hlk := B.notSynchronized
  have hx := C.1
  have hb := C.2.1
  have hl := lv_entry ([.ref (α 0), .int x1]) (n := 3) (Nat.le_of_ble_eq_true rfl)
  rw [lg_entry_eq]
  generalize (lg_sl ([.ref (α 0), .int x1]) ++ List.replicate (3 - (lg_sl ([.ref (α 0), .int x1])).length) Slot.unset).toArray = ls at hl ⊢
  have hl : lv_has ls 3 [(0, .ref (α 0)), (1, .int x1)] := hl
  unfold fm_read at h
  refine lv_aload_n hx hb dX12_read_0 rfl (lv_at hl 0 rfl) ?_
  refine lv_aload_n hx hb dX12_read_1 rfl (lv_at hl 0 rfl) ?_
  refine lv_iload_n hx hb dX12_read_2 rfl (lv_at hl 1 rfl) ?_
  obtain ⟨r_1, hr_1, h⟩ := bd_of h
  refine m_cVi (As := [.int x1]) (rest := [.ref (α 0)]) C hM (cm_isHint l D ca α A σ x1 r_1 hr_1) mwy_isHint ⟨rfl, rfl⟩ ⟨Nat.le_of_ble_eq_true rfl, Nat.le_of_ble_eq_true rfl⟩ rfl rfl (Nat.le_of_ble_eq_true rfl) hl.1 dX12_read_3 ⟨rfl, rfl⟩ (fun H locs hM => ?_)
  refine lv_if_ne (tgt := 13) hx hb dX12_read_6 (by decide) (fun c_1 => ?_) (fun c_1 => ?_)
  · have h := br_F c_1 h
    refine lv_aload_n hx hb dX12_read_13 rfl (lv_at hl 0 rfl) ?_
    refine m_geti C hM (k := 20) (Or.inr rfl) rfl dX12_read_14 ?_
    refine lv_if_ne (tgt := 24) hx hb dX12_read_17 (by decide) (fun c_2 => ?_) (fun c_2 => ?_)
    · have h := br_F c_2 h
      refine lv_iconst (v := (0 : Int32)) hx hb dX12_read_24 (by decide) ?_
      exact gm_read_25 C hr hlk  _ _ _ _ _ _ hM (lv_sub hl [0, 1] rfl) h
    · have h := br_T c_2 h
      refine lv_iconst (v := (2 : Int32)) hx hb dX12_read_20 (by decide) ?_
      refine lv_goto (tgt := 25) hx hb dX12_read_21 (by decide) ?_
      exact gm_read_25 C hr hlk  _ _ _ _ _ _ hM (lv_sub hl [0, 1] rfl) h
  · have h := br_T c_1 h
    refine lv_iconst (v := (1 : Int32)) hx hb dX12_read_9 (by decide) ?_
    refine lv_goto (tgt := 25) hx hb dX12_read_10 (by decide) ?_
    exact gm_read_25 C hr hlk  _ _ _ _ _ _ hM (lv_sub hl [0, 1] rfl) h
/-! coins()I -/
abbrev rmX12_coins : Room := { frames := 0, cells := 0, slots := 0, locals := 0 }
def fm_coins (σ : mS) : Option (Int32 × mS) :=
  some (((mI σ 0 (0 : Int32)).1 46), (mI σ 0 (0 : Int32)))
set_option maxHeartbeats 4000000 in
set_option maxRecDepth 100000 in
theorem cm_coins (l : Launch) (D : va_G) (ca : Nat → ClassId) (α : Nat → Nat) (A : Nat → Prop) (σ : mS) (o : Int32 × mS) (h : fm_coins σ  = some o) : mMetI l yX12_coins cX12_coins 1 (some .int) rmX12_coins D ca α A σ [] o := by
  refine Met.ofW (cc := cX12_coins) (maxL := 1) (ret := some .int) (by decide) rfl ?_
  intro p e s m args below meth c s₁ B hml hv
  obtain ⟨rfl, hP, hK, hD0⟩ := hv
  have C : mC p s m _ c cX12_coins 1 D ca := ⟨B.exec, B.bytes, hml, findClass_of_methodNamed B.named, fun w hw => atoms_spec (ws := mWs yX12_coins cX12_coins 1 (some .int)) B.pre w (List.mem_cons_of_mem _ hw), hK⟩
  have hM : mM D ca α A s.heap σ s.heap [] := ⟨hP, hD0, va_S.rf⟩
  have hr := B.returns
  have hlk := B.notSynchronized
  have hx := C.1
  have hb := C.2.1
  have hl := lv_entry ([.ref (α 0)]) (n := 1) (Nat.le_of_ble_eq_true rfl)
  rw [lg_entry_eq]
  generalize (lg_sl ([.ref (α 0)]) ++ List.replicate (1 - (lg_sl ([.ref (α 0)])).length) Slot.unset).toArray = ls at hl ⊢
  have hl : lv_has ls 1 [(0, .ref (α 0))] := hl
  unfold fm_coins at h
  refine lv_aload_n hx hb dX12_coins_0 rfl (lv_at hl 0 rfl) ?_
  refine lv_iconst (v := (0 : Int32)) hx hb dX12_coins_1 (by decide) ?_
  refine m_puti C hM (k := 0) rfl rfl dX12_coins_2 (fun H locs hM => ?_)
  refine lv_aload_n hx hb dX12_coins_5 rfl (lv_at hl 0 rfl) ?_
  refine m_geti C hM (k := 46) (Or.inl rfl) rfl dX12_coins_6 ?_
  exact m_ri C hM hr hlk dX12_coins_9 h
/-! earn(I)I -/
abbrev rmX12_earn : Room := { frames := 1, cells := 0, slots := 0, locals := 22 }
def fm_earn_16 (σ : mS) (x1 : Int32) (s0 : Int32) : Option (Int32 × mS) :=
  (fm_isWrong σ s0).bind fun r_1 =>
  if r_1.1 = 0 then
    some (((mI r_1.2 46 ((r_1.2.1 46) + x1)).1 46), (mI r_1.2 46 ((r_1.2.1 46) + x1)))
  else
    some ((0 : Int32), r_1.2)
set_option maxHeartbeats 4000000 in
set_option maxRecDepth 100000 in
theorem gm_earn_16 {p : Program} {l : Launch} {e : Env} {s : State} {m : MethodId} {args : Array Value} {below : List Frame} {meth : Method} {c : Code} {D : va_G} {ca : Nat → ClassId} {α : Nat → Nat} {A : Nat → Prop} {o : Int32 × mS} (C : mC p s m args c cX12_earn 2 D ca) (hr : meth.sig.returnType = some .int) (hlk : meth.locks = false) : ∀ (σ : mS) (x1 : Int32) (s0 : Int32) (H : Heap) (locs : List Loc) (ls : Array Slot), mM D ca α A s.heap σ H locs → lv_has ls 2 [(0, .ref (α 0)), (1, .int x1)] → fm_earn_16 σ x1 s0 = some o → mGI p l e rmX12_earn s m args below meth c D ca α A o H locs 16 ls [.int s0, .ref (α 0)] := by
  have hx := C.1
  have hb := C.2.1
  intro σ x1 s0 H locs ls hM hl h
  unfold fm_earn_16 at h
  obtain ⟨r_1, hr_1, h⟩ := bd_of h
  refine m_cVi (As := [.int s0]) (rest := []) C hM (cm_isWrong l D ca α A σ s0 r_1 hr_1) mwy_isWrong ⟨rfl, rfl⟩ ⟨Nat.le_of_ble_eq_true rfl, Nat.le_of_ble_eq_true rfl⟩ rfl rfl (Nat.le_of_ble_eq_true rfl) hl.1 dX12_earn_16 ⟨rfl, rfl⟩ (fun H locs hM => ?_)
  refine lv_if_eq (tgt := 24) hx hb dX12_earn_19 (by decide) (fun c_1 => ?_) (fun c_1 => ?_)
  · have h := br_T c_1 h
    refine lv_aload_n hx hb dX12_earn_24 rfl (lv_at hl 0 rfl) ?_
    refine lv_dup hx hb dX12_earn_25 rfl ?_
    refine m_geti C hM (k := 46) (Or.inl rfl) rfl dX12_earn_26 ?_
    refine lv_iload_n hx hb dX12_earn_29 rfl (lv_at hl 1 rfl) ?_
    refine lv_iadd hx hb dX12_earn_30 ?_
    refine m_puti C hM (k := 46) rfl rfl dX12_earn_31 (fun H locs hM => ?_)
    refine lv_aload_n hx hb dX12_earn_34 rfl (lv_at hl 0 rfl) ?_
    refine m_geti C hM (k := 46) (Or.inl rfl) rfl dX12_earn_35 ?_
    exact m_ri C hM hr hlk dX12_earn_38 h
  · have h := br_F c_1 h
    refine lv_iconst (v := (0 : Int32)) hx hb dX12_earn_22 (by decide) ?_
    exact m_ri C hM hr hlk dX12_earn_23 h
def fm_earn (σ : mS) (x1 : Int32) : Option (Int32 × mS) :=
  (fm_isBetween x1 (1 : Int32) (99 : Int32)).bind fun r_1 =>
  if r_1 = 0 then
    fm_earn_16 σ x1 (1 : Int32)
  else
    fm_earn_16 σ x1 (0 : Int32)
set_option maxHeartbeats 4000000 in
set_option maxRecDepth 100000 in
theorem cm_earn (l : Launch) (D : va_G) (ca : Nat → ClassId) (α : Nat → Nat) (A : Nat → Prop) (σ : mS) (x1 : Int32) (o : Int32 × mS) (h : fm_earn σ x1 = some o) : mMetI l yX12_earn cX12_earn 2 (some .int) rmX12_earn D ca α A σ [.int x1] o := by
  refine Met.ofW (cc := cX12_earn) (maxL := 2) (ret := some .int) (by decide) rfl ?_
  intro p e s m args below meth c s₁ B hml hv
  obtain ⟨rfl, hP, hK, hD0⟩ := hv
  have C : mC p s m _ c cX12_earn 2 D ca := ⟨B.exec, B.bytes, hml, findClass_of_methodNamed B.named, fun w hw => atoms_spec (ws := mWs yX12_earn cX12_earn 2 (some .int)) B.pre w (List.mem_cons_of_mem _ hw), hK⟩
  have hM : mM D ca α A s.heap σ s.heap [] := ⟨hP, hD0, va_S.rf⟩
  have hr := B.returns
  have hlk := B.notSynchronized
  have hx := C.1
  have hb := C.2.1
  have hl := lv_entry ([.ref (α 0), .int x1]) (n := 2) (Nat.le_of_ble_eq_true rfl)
  rw [lg_entry_eq]
  generalize (lg_sl ([.ref (α 0), .int x1]) ++ List.replicate (2 - (lg_sl ([.ref (α 0), .int x1])).length) Slot.unset).toArray = ls at hl ⊢
  have hl : lv_has ls 2 [(0, .ref (α 0)), (1, .int x1)] := hl
  unfold fm_earn at h
  refine lv_aload_n hx hb dX12_earn_0 rfl (lv_at hl 0 rfl) ?_
  refine lv_iload_n hx hb dX12_earn_1 rfl (lv_at hl 1 rfl) ?_
  refine lv_iconst (v := (1 : Int32)) hx hb dX12_earn_2 (by decide) ?_
  refine lv_bipush (v := (99 : Int32)) hx hb dX12_earn_3 (by decide) ?_
  obtain ⟨r_1, hr_1, h⟩ := bd_of h
  refine m_cSi (As := [.int x1, .int (1 : Int32), .int (99 : Int32)]) (rest := [.ref (α 0)]) C hM (cm_isBetween l D ca α A σ x1 (1 : Int32) (99 : Int32) r_1 hr_1) mwy_isBetween ⟨rfl, rfl⟩ ⟨Nat.le_of_ble_eq_true rfl, Nat.le_of_ble_eq_true rfl⟩ rfl rfl (Nat.le_of_ble_eq_true rfl) hl.1 dX12_earn_5 ⟨rfl, rfl⟩ (fun H locs hM => ?_)
  refine lv_if_eq (tgt := 15) hx hb dX12_earn_8 (by decide) (fun c_1 => ?_) (fun c_1 => ?_)
  · have h := br_T c_1 h
    refine lv_iconst (v := (1 : Int32)) hx hb dX12_earn_15 (by decide) ?_
    exact gm_earn_16 C hr hlk  _ _ _ _ _ _ hM (lv_sub hl [0, 1] rfl) h
  · have h := br_F c_1 h
    refine lv_iconst (v := (0 : Int32)) hx hb dX12_earn_11 (by decide) ?_
    refine lv_goto (tgt := 16) hx hb dX12_earn_12 (by decide) ?_
    exact gm_earn_16 C hr hlk  _ _ _ _ _ _ hM (lv_sub hl [0, 1] rfl) h
/-! sales()I -/
abbrev rmX12_sales : Room := { frames := 0, cells := 0, slots := 0, locals := 0 }
def fm_sales (σ : mS) : Option (Int32 × mS) :=
  some (((mI σ 0 (0 : Int32)).1 49), (mI σ 0 (0 : Int32)))
set_option maxHeartbeats 4000000 in
set_option maxRecDepth 100000 in
theorem cm_sales (l : Launch) (D : va_G) (ca : Nat → ClassId) (α : Nat → Nat) (A : Nat → Prop) (σ : mS) (o : Int32 × mS) (h : fm_sales σ  = some o) : mMetI l yX12_sales cX12_sales 1 (some .int) rmX12_sales D ca α A σ [] o := by
  refine Met.ofW (cc := cX12_sales) (maxL := 1) (ret := some .int) (by decide) rfl ?_
  intro p e s m args below meth c s₁ B hml hv
  obtain ⟨rfl, hP, hK, hD0⟩ := hv
  have C : mC p s m _ c cX12_sales 1 D ca := ⟨B.exec, B.bytes, hml, findClass_of_methodNamed B.named, fun w hw => atoms_spec (ws := mWs yX12_sales cX12_sales 1 (some .int)) B.pre w (List.mem_cons_of_mem _ hw), hK⟩
  have hM : mM D ca α A s.heap σ s.heap [] := ⟨hP, hD0, va_S.rf⟩
  have hr := B.returns
  have hlk := B.notSynchronized
  have hx := C.1
  have hb := C.2.1
  have hl := lv_entry ([.ref (α 0)]) (n := 1) (Nat.le_of_ble_eq_true rfl)
  rw [lg_entry_eq]
  generalize (lg_sl ([.ref (α 0)]) ++ List.replicate (1 - (lg_sl ([.ref (α 0)])).length) Slot.unset).toArray = ls at hl ⊢
  have hl : lv_has ls 1 [(0, .ref (α 0))] := hl
  unfold fm_sales at h
  refine lv_aload_n hx hb dX12_sales_0 rfl (lv_at hl 0 rfl) ?_
  refine lv_iconst (v := (0 : Int32)) hx hb dX12_sales_1 (by decide) ?_
  refine m_puti C hM (k := 0) rfl rfl dX12_sales_2 (fun H locs hM => ?_)
  refine lv_aload_n hx hb dX12_sales_5 rfl (lv_at hl 0 rfl) ?_
  refine m_geti C hM (k := 49) (Or.inl rfl) rfl dX12_sales_6 ?_
  exact m_ri C hM hr hlk dX12_sales_9 h
/-! sale(IC)I -/
abbrev rmX12_sale : Room := { frames := 1, cells := 0, slots := 0, locals := 22 }
def fm_sale_91 (σ : mS) (s0 : Int32) : Option (Int32 × mS) :=
  some (s0, σ)
set_option maxHeartbeats 4000000 in
set_option maxRecDepth 100000 in
theorem gm_sale_91 {p : Program} {l : Launch} {e : Env} {s : State} {m : MethodId} {args : Array Value} {below : List Frame} {meth : Method} {c : Code} {D : va_G} {ca : Nat → ClassId} {α : Nat → Nat} {A : Nat → Prop} {o : Int32 × mS} (C : mC p s m args c cX12_sale 3 D ca) (hr : meth.sig.returnType = some .int) (hlk : meth.locks = false) : ∀ (σ : mS) (s0 : Int32) (H : Heap) (locs : List Loc) (ls : Array Slot), mM D ca α A s.heap σ H locs → lv_has ls 3 [(0, .ref (α 0))] → fm_sale_91 σ s0 = some o → mGI p l e rmX12_sale s m args below meth c D ca α A o H locs 91 ls [.int s0] := by
  have hx := C.1
  have hb := C.2.1
  intro σ s0 H locs ls hM hl h
  unfold fm_sale_91 at h
  exact m_ri C hM hr hlk dX12_sale_91 h
def fm_sale_42 (σ : mS) (x1 : Int32) (x2 : Int32) (s0 : Int32) : Option (Int32 × mS) :=
  (fm_isWrong σ s0).bind fun r_1 =>
  if r_1.1 = 0 then
    if x2 = (104 : Int32) then
      if x1 < 0 ∨ 80 ≤ x1.toNatClampNeg then none else
      if (r_1.2.2.2.1 47 x1.toNatClampNeg) < 0 ∨ 80 ≤ (r_1.2.2.2.1 47 x1.toNatClampNeg).toNatClampNeg then none else
      fm_sale_91 r_1.2 (r_1.2.2.2.1 32 (r_1.2.2.2.1 47 x1.toNatClampNeg).toNatClampNeg)
    else
      if x2 = (110 : Int32) then
        if x1 < 0 ∨ 80 ≤ x1.toNatClampNeg then none else
        fm_sale_91 r_1.2 (r_1.2.2.2.1 47 x1.toNatClampNeg)
      else
        if x1 < 0 ∨ 80 ≤ x1.toNatClampNeg then none else
        fm_sale_91 r_1.2 (r_1.2.2.2.1 48 x1.toNatClampNeg)
  else
    some ((0 : Int32), r_1.2)
set_option maxHeartbeats 4000000 in
set_option maxRecDepth 100000 in
theorem gm_sale_42 {p : Program} {l : Launch} {e : Env} {s : State} {m : MethodId} {args : Array Value} {below : List Frame} {meth : Method} {c : Code} {D : va_G} {ca : Nat → ClassId} {α : Nat → Nat} {A : Nat → Prop} {o : Int32 × mS} (C : mC p s m args c cX12_sale 3 D ca) (hr : meth.sig.returnType = some .int) (hlk : meth.locks = false) : ∀ (σ : mS) (x1 : Int32) (x2 : Int32) (s0 : Int32) (H : Heap) (locs : List Loc) (ls : Array Slot), mM D ca α A s.heap σ H locs → lv_has ls 3 [(0, .ref (α 0)), (1, .int x1), (2, .int x2)] → fm_sale_42 σ x1 x2 s0 = some o → mGI p l e rmX12_sale s m args below meth c D ca α A o H locs 42 ls [.int s0, .ref (α 0)] := by
  have hx := C.1
  have hb := C.2.1
  intro σ x1 x2 s0 H locs ls hM hl h
  unfold fm_sale_42 at h
  obtain ⟨r_1, hr_1, h⟩ := bd_of h
  refine m_cVi (As := [.int s0]) (rest := []) C hM (cm_isWrong l D ca α A σ s0 r_1 hr_1) mwy_isWrong ⟨rfl, rfl⟩ ⟨Nat.le_of_ble_eq_true rfl, Nat.le_of_ble_eq_true rfl⟩ rfl rfl (Nat.le_of_ble_eq_true rfl) hl.1 dX12_sale_42 ⟨rfl, rfl⟩ (fun H locs hM => ?_)
  refine lv_if_eq (tgt := 50) hx hb dX12_sale_45 (by decide) (fun c_1 => ?_) (fun c_1 => ?_)
  · have h := br_T c_1 h
    refine lv_iload_n hx hb dX12_sale_50 rfl (lv_at hl 2 rfl) ?_
    refine lv_bipush (v := (104 : Int32)) hx hb dX12_sale_51 (by decide) ?_
    refine lv_icmp_ne (tgt := 70) hx hb dX12_sale_53 (by decide) (fun c_2 => ?_) (fun c_2 => ?_)
    · have h := br_F c_2 h
      refine lv_iload_n hx hb dX12_sale_70 rfl (lv_at hl 2 rfl) ?_
      refine lv_bipush (v := (110 : Int32)) hx hb dX12_sale_71 (by decide) ?_
      refine lv_icmp_ne (tgt := 85) hx hb dX12_sale_73 (by decide) (fun c_3 => ?_) (fun c_3 => ?_)
      · have h := br_F c_3 h
        refine lv_aload_n hx hb dX12_sale_85 rfl (lv_at hl 0 rfl) ?_
        refine m_geta C hM (k := 48) (by decide) rfl dX12_sale_86 ?_
        refine lv_iload_n hx hb dX12_sale_89 rfl (lv_at hl 1 rfl) ?_
        obtain ⟨c_4, h⟩ := ko_of h
        refine m_iald C hM (k := 48) rfl c_4 dX12_sale_90 ?_
        exact gm_sale_91 C hr hlk  _ _ _ _ _ hM (lv_sub hl [0] rfl) h
      · have h := br_T c_3 h
        refine lv_aload_n hx hb dX12_sale_76 rfl (lv_at hl 0 rfl) ?_
        refine m_geta C hM (k := 47) (by decide) rfl dX12_sale_77 ?_
        refine lv_iload_n hx hb dX12_sale_80 rfl (lv_at hl 1 rfl) ?_
        obtain ⟨c_5, h⟩ := ko_of h
        refine m_iald C hM (k := 47) rfl c_5 dX12_sale_81 ?_
        refine lv_goto (tgt := 91) hx hb dX12_sale_82 (by decide) ?_
        exact gm_sale_91 C hr hlk  _ _ _ _ _ hM (lv_sub hl [0] rfl) h
    · have h := br_T c_2 h
      refine lv_aload_n hx hb dX12_sale_56 rfl (lv_at hl 0 rfl) ?_
      refine m_geta C hM (k := 32) (by decide) rfl dX12_sale_57 ?_
      refine lv_aload_n hx hb dX12_sale_60 rfl (lv_at hl 0 rfl) ?_
      refine m_geta C hM (k := 47) (by decide) rfl dX12_sale_61 ?_
      refine lv_iload_n hx hb dX12_sale_64 rfl (lv_at hl 1 rfl) ?_
      obtain ⟨c_6, h⟩ := ko_of h
      refine m_iald C hM (k := 47) rfl c_6 dX12_sale_65 ?_
      obtain ⟨c_7, h⟩ := ko_of h
      refine m_iald C hM (k := 32) rfl c_7 dX12_sale_66 ?_
      refine lv_goto (tgt := 91) hx hb dX12_sale_67 (by decide) ?_
      exact gm_sale_91 C hr hlk  _ _ _ _ _ hM (lv_sub hl [0] rfl) h
  · have h := br_F c_1 h
    refine lv_iconst (v := (0 : Int32)) hx hb dX12_sale_48 (by decide) ?_
    exact m_ri C hM hr hlk dX12_sale_49 h
def fm_sale_41 (σ : mS) (x1 : Int32) (x2 : Int32) : Option (Int32 × mS) :=
  fm_sale_42 σ x1 x2 (0 : Int32)
set_option maxHeartbeats 4000000 in
set_option maxRecDepth 100000 in
theorem gm_sale_41 {p : Program} {l : Launch} {e : Env} {s : State} {m : MethodId} {args : Array Value} {below : List Frame} {meth : Method} {c : Code} {D : va_G} {ca : Nat → ClassId} {α : Nat → Nat} {A : Nat → Prop} {o : Int32 × mS} (C : mC p s m args c cX12_sale 3 D ca) (hr : meth.sig.returnType = some .int) (hlk : meth.locks = false) : ∀ (σ : mS) (x1 : Int32) (x2 : Int32) (H : Heap) (locs : List Loc) (ls : Array Slot), mM D ca α A s.heap σ H locs → lv_has ls 3 [(0, .ref (α 0)), (1, .int x1), (2, .int x2)] → fm_sale_41 σ x1 x2 = some o → mGI p l e rmX12_sale s m args below meth c D ca α A o H locs 41 ls [.ref (α 0)] := by
  have hx := C.1
  have hb := C.2.1
  intro σ x1 x2 H locs ls hM hl h
  unfold fm_sale_41 at h
  refine lv_iconst (v := (0 : Int32)) hx hb dX12_sale_41 (by decide) ?_
  exact gm_sale_42 C hr hlk  _ _ _ _ _ _ _ hM (lv_sub hl [0, 1, 2] rfl) h
def fm_sale (σ : mS) (x1 : Int32) (x2 : Int32) : Option (Int32 × mS) :=
  (fm_isBetween x1 (0 : Int32) ((σ.1 49) - (1 : Int32))).bind fun r_1 =>
  if r_1 = 0 then
    fm_sale_42 σ x1 x2 (1 : Int32)
  else
    if x2 = (104 : Int32) then
      fm_sale_41 σ x1 x2
    else
      if x2 = (110 : Int32) then
        fm_sale_41 σ x1 x2
      else
        if x2 = (99 : Int32) then
          fm_sale_41 σ x1 x2
        else
          fm_sale_42 σ x1 x2 (2 : Int32)
set_option maxHeartbeats 4000000 in
set_option maxRecDepth 100000 in
theorem cm_sale (l : Launch) (D : va_G) (ca : Nat → ClassId) (α : Nat → Nat) (A : Nat → Prop) (σ : mS) (x1 : Int32) (x2 : Int32) (o : Int32 × mS) (h : fm_sale σ x1 x2 = some o) : mMetI l yX12_sale cX12_sale 3 (some .int) rmX12_sale D ca α A σ [.int x1, .int x2] o := by
  refine Met.ofW (cc := cX12_sale) (maxL := 3) (ret := some .int) (by decide) rfl ?_
  intro p e s m args below meth c s₁ B hml hv
  obtain ⟨rfl, hP, hK, hD0⟩ := hv
  have C : mC p s m _ c cX12_sale 3 D ca := ⟨B.exec, B.bytes, hml, findClass_of_methodNamed B.named, fun w hw => atoms_spec (ws := mWs yX12_sale cX12_sale 3 (some .int)) B.pre w (List.mem_cons_of_mem _ hw), hK⟩
  have hM : mM D ca α A s.heap σ s.heap [] := ⟨hP, hD0, va_S.rf⟩
  have hr := B.returns
  have hlk := B.notSynchronized
  have hx := C.1
  have hb := C.2.1
  have hl := lv_entry ([.ref (α 0), .int x1, .int x2]) (n := 3) (Nat.le_of_ble_eq_true rfl)
  rw [lg_entry_eq]
  generalize (lg_sl ([.ref (α 0), .int x1, .int x2]) ++ List.replicate (3 - (lg_sl ([.ref (α 0), .int x1, .int x2])).length) Slot.unset).toArray = ls at hl ⊢
  have hl : lv_has ls 3 [(0, .ref (α 0)), (1, .int x1), (2, .int x2)] := hl
  unfold fm_sale at h
  refine lv_aload_n hx hb dX12_sale_0 rfl (lv_at hl 0 rfl) ?_
  refine lv_iload_n hx hb dX12_sale_1 rfl (lv_at hl 1 rfl) ?_
  refine lv_iconst (v := (0 : Int32)) hx hb dX12_sale_2 (by decide) ?_
  refine lv_aload_n hx hb dX12_sale_3 rfl (lv_at hl 0 rfl) ?_
  refine m_geti C hM (k := 49) (Or.inl rfl) rfl dX12_sale_4 ?_
  refine lv_iconst (v := (1 : Int32)) hx hb dX12_sale_7 (by decide) ?_
  refine lv_isub hx hb dX12_sale_8 ?_
  obtain ⟨r_1, hr_1, h⟩ := bd_of h
  refine m_cSi (As := [.int x1, .int (0 : Int32), .int ((σ.1 49) - (1 : Int32))]) (rest := [.ref (α 0)]) C hM (cm_isBetween l D ca α A σ x1 (0 : Int32) ((σ.1 49) - (1 : Int32)) r_1 hr_1) mwy_isBetween ⟨rfl, rfl⟩ ⟨Nat.le_of_ble_eq_true rfl, Nat.le_of_ble_eq_true rfl⟩ rfl rfl (Nat.le_of_ble_eq_true rfl) hl.1 dX12_sale_9 ⟨rfl, rfl⟩ (fun H locs hM => ?_)
  refine lv_if_ne (tgt := 19) hx hb dX12_sale_12 (by decide) (fun c_1 => ?_) (fun c_1 => ?_)
  · have h := br_F c_1 h
    refine lv_iload_n hx hb dX12_sale_19 rfl (lv_at hl 2 rfl) ?_
    refine lv_bipush (v := (104 : Int32)) hx hb dX12_sale_20 (by decide) ?_
    refine lv_icmp_eq (tgt := 41) hx hb dX12_sale_22 (by decide) (fun c_2 => ?_) (fun c_2 => ?_)
    · have h := br_T c_2 h
      exact gm_sale_41 C hr hlk  _ _ _ _ _ _ hM (lv_sub hl [0, 1, 2] rfl) h
    · have h := br_F c_2 h
      refine lv_iload_n hx hb dX12_sale_25 rfl (lv_at hl 2 rfl) ?_
      refine lv_bipush (v := (110 : Int32)) hx hb dX12_sale_26 (by decide) ?_
      refine lv_icmp_eq (tgt := 41) hx hb dX12_sale_28 (by decide) (fun c_3 => ?_) (fun c_3 => ?_)
      · have h := br_T c_3 h
        exact gm_sale_41 C hr hlk  _ _ _ _ _ _ hM (lv_sub hl [0, 1, 2] rfl) h
      · have h := br_F c_3 h
        refine lv_iload_n hx hb dX12_sale_31 rfl (lv_at hl 2 rfl) ?_
        refine lv_bipush (v := (99 : Int32)) hx hb dX12_sale_32 (by decide) ?_
        refine lv_icmp_eq (tgt := 41) hx hb dX12_sale_34 (by decide) (fun c_4 => ?_) (fun c_4 => ?_)
        · have h := br_T c_4 h
          exact gm_sale_41 C hr hlk  _ _ _ _ _ _ hM (lv_sub hl [0, 1, 2] rfl) h
        · have h := br_F c_4 h
          refine lv_iconst (v := (2 : Int32)) hx hb dX12_sale_37 (by decide) ?_
          refine lv_goto (tgt := 42) hx hb dX12_sale_38 (by decide) ?_
          exact gm_sale_42 C hr hlk  _ _ _ _ _ _ _ hM (lv_sub hl [0, 1, 2] rfl) h
  · have h := br_T c_1 h
    refine lv_iconst (v := (1 : Int32)) hx hb dX12_sale_15 (by decide) ?_
    refine lv_goto (tgt := 42) hx hb dX12_sale_16 (by decide) ?_
    exact gm_sale_42 C hr hlk  _ _ _ _ _ _ _ hM (lv_sub hl [0, 1, 2] rfl) h
/-! merge(I)I -/
abbrev rmX12_merge : Room := { frames := 4, cells := 0, slots := 0, locals := 92 }
def fm_merge_121 (k_51 : mS → Int32 → Int32 → Int32 → Int32 → Option (Int32 × mS)) (σ : mS) (x1 : Int32) (x2 : Int32) (x3 : Int32) (x4 : Int32) : Option (Int32 × mS) :=
  k_51 σ x1 x2 x3 (x4 + (1 : Int32))
set_option maxHeartbeats 4000000 in
set_option maxRecDepth 100000 in
theorem gm_merge_121 {p : Program} {l : Launch} {e : Env} {s : State} {m : MethodId} {args : Array Value} {below : List Frame} {meth : Method} {c : Code} {D : va_G} {ca : Nat → ClassId} {α : Nat → Nat} {A : Nat → Prop} {o : Int32 × mS} {k_51 : mS → Int32 → Int32 → Int32 → Int32 → Option (Int32 × mS)} (C : mC p s m args c cX12_merge 5 D ca) (hr : meth.sig.returnType = some .int) (hlk : meth.locks = false) (hk_51 : ∀ (σ : mS) (x1 : Int32) (x2 : Int32) (x3 : Int32) (x4 : Int32) (H : Heap) (locs : List Loc) (ls : Array Slot), mM D ca α A s.heap σ H locs → lv_has ls 5 [(0, .ref (α 0)), (1, .int x1), (2, .int x2), (3, .int x3), (4, .int x4)] → k_51 σ x1 x2 x3 x4 = some o → mGI p l e rmX12_merge s m args below meth c D ca α A o H locs 51 ls []) : ∀ (σ : mS) (x1 : Int32) (x2 : Int32) (x3 : Int32) (x4 : Int32) (H : Heap) (locs : List Loc) (ls : Array Slot), mM D ca α A s.heap σ H locs → lv_has ls 5 [(0, .ref (α 0)), (1, .int x1), (2, .int x2), (3, .int x3), (4, .int x4)] → fm_merge_121 k_51 σ x1 x2 x3 x4 = some o → mGI p l e rmX12_merge s m args below meth c D ca α A o H locs 121 ls [] := by
  have hx := C.1
  have hb := C.2.1
  intro σ x1 x2 x3 x4 H locs ls hM hl h
  unfold fm_merge_121 at h
  refine lv_iinc (v := (x4 + (1 : Int32))) (lv' := [(4, .int (x4 + (1 : Int32))), (0, .ref (α 0)), (1, .int x1), (2, .int x2), (3, .int x3)]) hx hb dX12_merge_121 hl (k := 4) rfl rfl (by decide) rfl (fun ls hl => ?_)
  refine lv_goto (tgt := 51) hx hb dX12_merge_124 (by decide) ?_
  exact hk_51 _ _ _ _ _ _ _ _ hM (lv_sub hl [1, 2, 3, 4, 0] rfl) h
def fm_merge_197 (σ : mS) (x2 : Int32) : Option (Int32 × mS) :=
  some (x2, σ)
set_option maxHeartbeats 4000000 in
set_option maxRecDepth 100000 in
theorem gm_merge_197 {p : Program} {l : Launch} {e : Env} {s : State} {m : MethodId} {args : Array Value} {below : List Frame} {meth : Method} {c : Code} {D : va_G} {ca : Nat → ClassId} {α : Nat → Nat} {A : Nat → Prop} {o : Int32 × mS} (C : mC p s m args c cX12_merge 5 D ca) (hr : meth.sig.returnType = some .int) (hlk : meth.locks = false) : ∀ (σ : mS) (x2 : Int32) (H : Heap) (locs : List Loc) (ls : Array Slot), mM D ca α A s.heap σ H locs → lv_has ls 5 [(0, .ref (α 0)), (2, .int x2)] → fm_merge_197 σ x2 = some o → mGI p l e rmX12_merge s m args below meth c D ca α A o H locs 197 ls [] := by
  have hx := C.1
  have hb := C.2.1
  intro σ x2 H locs ls hM hl h
  unfold fm_merge_197 at h
  refine lv_iload_n hx hb dX12_merge_197 rfl (lv_at hl 1 rfl) ?_
  exact m_ri C hM hr hlk dX12_merge_198 h
def fm_merge_168 (σ : mS) (x1 : Int32) (x2 : Int32) (x4 : Int32) (s0 : Int32) : Option (Int32 × mS) :=
  (fm_isWrong σ s0).bind fun r_1 =>
  if r_1.1 = 0 then
    if x4 = (-1 : Int32) then
      (fm_comes r_1.2 (3 : Int32) x1).bind fun r_2 =>
      fm_merge_197 r_2 x2
    else
      fm_merge_197 (mI r_1.2 34 x4) x2
  else
    some ((0 : Int32), r_1.2)
set_option maxHeartbeats 4000000 in
set_option maxRecDepth 100000 in
theorem gm_merge_168 {p : Program} {l : Launch} {e : Env} {s : State} {m : MethodId} {args : Array Value} {below : List Frame} {meth : Method} {c : Code} {D : va_G} {ca : Nat → ClassId} {α : Nat → Nat} {A : Nat → Prop} {o : Int32 × mS} (C : mC p s m args c cX12_merge 5 D ca) (hr : meth.sig.returnType = some .int) (hlk : meth.locks = false) : ∀ (σ : mS) (x1 : Int32) (x2 : Int32) (x4 : Int32) (s0 : Int32) (H : Heap) (locs : List Loc) (ls : Array Slot), mM D ca α A s.heap σ H locs → lv_has ls 5 [(0, .ref (α 0)), (1, .int x1), (2, .int x2), (4, .int x4)] → fm_merge_168 σ x1 x2 x4 s0 = some o → mGI p l e rmX12_merge s m args below meth c D ca α A o H locs 168 ls [.int s0, .ref (α 0)] := by
  have hx := C.1
  have hb := C.2.1
  intro σ x1 x2 x4 s0 H locs ls hM hl h
  unfold fm_merge_168 at h
  obtain ⟨r_1, hr_1, h⟩ := bd_of h
  refine m_cVi (As := [.int s0]) (rest := []) C hM (cm_isWrong l D ca α A σ s0 r_1 hr_1) mwy_isWrong ⟨rfl, rfl⟩ ⟨Nat.le_of_ble_eq_true rfl, Nat.le_of_ble_eq_true rfl⟩ rfl rfl (Nat.le_of_ble_eq_true rfl) hl.1 dX12_merge_168 ⟨rfl, rfl⟩ (fun H locs hM => ?_)
  refine lv_if_eq (tgt := 176) hx hb dX12_merge_171 (by decide) (fun c_1 => ?_) (fun c_1 => ?_)
  · have h := br_T c_1 h
    refine lv_iload hx hb dX12_merge_176 (lv_at hl 3 rfl) ?_
    refine lv_iconst (v := (-1 : Int32)) hx hb dX12_merge_178 (by decide) ?_
    refine lv_icmp_ne (tgt := 191) hx hb dX12_merge_179 (by decide) (fun c_2 => ?_) (fun c_2 => ?_)
    · have h := br_F c_2 h
      refine lv_aload_n hx hb dX12_merge_191 rfl (lv_at hl 0 rfl) ?_
      refine lv_iload hx hb dX12_merge_192 (lv_at hl 3 rfl) ?_
      refine m_puti C hM (k := 34) rfl rfl dX12_merge_194 (fun H locs hM => ?_)
      exact gm_merge_197 C hr hlk  _ _ _ _ _ hM (lv_sub hl [0, 2] rfl) h
    · have h := br_T c_2 h
      refine lv_aload_n hx hb dX12_merge_182 rfl (lv_at hl 0 rfl) ?_
      refine lv_iconst (v := (3 : Int32)) hx hb dX12_merge_183 (by decide) ?_
      refine lv_iload_n hx hb dX12_merge_184 rfl (lv_at hl 1 rfl) ?_
      obtain ⟨r_2, hr_2, h⟩ := bd_of h
      refine m_cVv (As := [.int (3 : Int32), .int x1]) (rest := []) C hM (cm_comes l D ca α A r_1.2 (3 : Int32) x1 r_2 hr_2) mwy_comes ⟨rfl, rfl⟩ ⟨Nat.le_of_ble_eq_true rfl, Nat.le_of_ble_eq_true rfl⟩ rfl rfl (Nat.le_of_ble_eq_true rfl) hl.1 dX12_merge_185 ⟨rfl, rfl⟩ (fun H locs hM => ?_)
      refine lv_goto (tgt := 197) hx hb dX12_merge_188 (by decide) ?_
      exact gm_merge_197 C hr hlk  _ _ _ _ _ hM (lv_sub hl [0, 2] rfl) h
  · have h := br_F c_1 h
    refine lv_iconst (v := (0 : Int32)) hx hb dX12_merge_174 (by decide) ?_
    exact m_ri C hM hr hlk dX12_merge_175 h
def fm_merge_159 (σ : mS) (x1 : Int32) (x2 : Int32) (x4 : Int32) : Option (Int32 × mS) :=
  if x2 = 0 then
    fm_merge_168 σ x1 x2 x4 (3 : Int32)
  else
    fm_merge_168 σ x1 x2 x4 (0 : Int32)
set_option maxHeartbeats 4000000 in
set_option maxRecDepth 100000 in
theorem gm_merge_159 {p : Program} {l : Launch} {e : Env} {s : State} {m : MethodId} {args : Array Value} {below : List Frame} {meth : Method} {c : Code} {D : va_G} {ca : Nat → ClassId} {α : Nat → Nat} {A : Nat → Prop} {o : Int32 × mS} (C : mC p s m args c cX12_merge 5 D ca) (hr : meth.sig.returnType = some .int) (hlk : meth.locks = false) : ∀ (σ : mS) (x1 : Int32) (x2 : Int32) (x4 : Int32) (H : Heap) (locs : List Loc) (ls : Array Slot), mM D ca α A s.heap σ H locs → lv_has ls 5 [(0, .ref (α 0)), (1, .int x1), (2, .int x2), (4, .int x4)] → fm_merge_159 σ x1 x2 x4 = some o → mGI p l e rmX12_merge s m args below meth c D ca α A o H locs 159 ls [.ref (α 0)] := by
  have hx := C.1
  have hb := C.2.1
  intro σ x1 x2 x4 H locs ls hM hl h
  unfold fm_merge_159 at h
  refine lv_iload_n hx hb dX12_merge_159 rfl (lv_at hl 2 rfl) ?_
  refine lv_if_ne (tgt := 167) hx hb dX12_merge_160 (by decide) (fun c_1 => ?_) (fun c_1 => ?_)
  · have h := br_F c_1 h
    refine lv_iconst (v := (0 : Int32)) hx hb dX12_merge_167 (by decide) ?_
    exact gm_merge_168 C hr hlk  _ _ _ _ _ _ _ _ hM (lv_sub hl [0, 1, 2, 3] rfl) h
  · have h := br_T c_1 h
    refine lv_iconst (v := (3 : Int32)) hx hb dX12_merge_163 (by decide) ?_
    refine lv_goto (tgt := 168) hx hb dX12_merge_164 (by decide) ?_
    exact gm_merge_168 C hr hlk  _ _ _ _ _ _ _ _ hM (lv_sub hl [0, 1, 2, 3] rfl) h
def fm_merge_51 : Nat → mS → Int32 → Int32 → Int32 → Int32 → Option (Int32 × mS)
  | 0, _, _, _, _, _ => none
  | n + 1, σ, x1, x2, x3, x4 =>
    if (σ.1 16) ≤ x4 then
      (fm_childBy σ (3 : Int32) x1).bind fun r_1 =>
      if x2 ≤ 0 then
        fm_merge_159 r_1.2 x1 x2 r_1.1
      else
        if r_1.1 = (-1 : Int32) then
          if (r_1.2.1 33) = (80 : Int32) then
            fm_merge_168 r_1.2 x1 x2 r_1.1 (2 : Int32)
          else
            fm_merge_159 r_1.2 x1 x2 r_1.1
        else
          fm_merge_159 r_1.2 x1 x2 r_1.1
    else
      if x3 = 0 then
        fm_merge_121 (fm_merge_51 n) σ x1 x2 x3 x4
      else
        if (((12 : Int32) * x1) + x4) < 0 ∨ 960 ≤ (((12 : Int32) * x1) + x4).toNatClampNeg then none else
        if (σ.2.2.1 22 (((12 : Int32) * x1) + x4).toNatClampNeg) = (100 : Int32) then
          if x4 < 0 ∨ 12 ≤ x4.toNatClampNeg then none else
          if (σ.2.2.1 36 x4.toNatClampNeg) = (σ.1 35) then
            (fm_weightWith σ x4).bind fun r_2 =>
            if r_2.1 ≤ (12 : Int32) then
              if x4 < 0 ∨ 12 ≤ x4.toNatClampNeg then none else
              fm_merge_121 (fm_merge_51 n) (mA r_2.2 36 x4.toNatClampNeg (100 : Int32)) x1 (x2 + (1 : Int32)) x3 x4
            else
              fm_merge_121 (fm_merge_51 n) r_2.2 x1 x2 x3 x4
          else
            fm_merge_121 (fm_merge_51 n) σ x1 x2 x3 x4
        else
          fm_merge_121 (fm_merge_51 n) σ x1 x2 x3 x4
set_option maxHeartbeats 4000000 in
set_option maxRecDepth 100000 in
theorem gm_merge_51 {p : Program} {l : Launch} {e : Env} {s : State} {m : MethodId} {args : Array Value} {below : List Frame} {meth : Method} {c : Code} {D : va_G} {ca : Nat → ClassId} {α : Nat → Nat} {A : Nat → Prop} {o : Int32 × mS} (C : mC p s m args c cX12_merge 5 D ca) (hr : meth.sig.returnType = some .int) (hlk : meth.locks = false) : ∀ (n : Nat) (σ : mS) (x1 : Int32) (x2 : Int32) (x3 : Int32) (x4 : Int32) (H : Heap) (locs : List Loc) (ls : Array Slot), mM D ca α A s.heap σ H locs → lv_has ls 5 [(0, .ref (α 0)), (1, .int x1), (2, .int x2), (3, .int x3), (4, .int x4)] → fm_merge_51 n σ x1 x2 x3 x4 = some o → mGI p l e rmX12_merge s m args below meth c D ca α A o H locs 51 ls [] := by
  have hx := C.1
  have hb := C.2.1
  intro n
  induction n with
  | zero =>
    intro σ x1 x2 x3 x4 H locs ls hM hl h
    cases h
  | succ n ih =>
    intro σ x1 x2 x3 x4 H locs ls hM hl h
    rw [fm_merge_51] at h
    refine lv_iload hx hb dX12_merge_51 (lv_at hl 4 rfl) ?_
    refine lv_aload_n hx hb dX12_merge_53 rfl (lv_at hl 0 rfl) ?_
    refine m_geti C hM (k := 16) (Or.inl rfl) rfl dX12_merge_54 ?_
    refine lv_icmp_ge (tgt := 127) hx hb dX12_merge_57 (by decide) (fun c_1 => ?_) (fun c_1 => ?_)
    · have h := br_T c_1 h
      refine lv_aload_n hx hb dX12_merge_127 rfl (lv_at hl 0 rfl) ?_
      refine lv_iconst (v := (3 : Int32)) hx hb dX12_merge_128 (by decide) ?_
      refine lv_iload_n hx hb dX12_merge_129 rfl (lv_at hl 1 rfl) ?_
      obtain ⟨r_1, hr_1, h⟩ := bd_of h
      refine m_cVi (As := [.int (3 : Int32), .int x1]) (rest := []) C hM (cm_childBy l D ca α A σ (3 : Int32) x1 r_1 hr_1) mwy_childBy ⟨rfl, rfl⟩ ⟨Nat.le_of_ble_eq_true rfl, Nat.le_of_ble_eq_true rfl⟩ rfl rfl (Nat.le_of_ble_eq_true rfl) hl.1 dX12_merge_130 ⟨rfl, rfl⟩ (fun H locs hM => ?_)
      refine lv_istore (lv' := [(4, .int r_1.1), (0, .ref (α 0)), (1, .int x1), (2, .int x2), (3, .int x3)]) hx hb dX12_merge_133 hl (by decide) rfl (fun ls hl => ?_)
      refine lv_aload_n hx hb dX12_merge_135 rfl (lv_at hl 1 rfl) ?_
      refine lv_iload_n hx hb dX12_merge_136 rfl (lv_at hl 3 rfl) ?_
      refine lv_if_le (tgt := 159) hx hb dX12_merge_137 (by decide) (fun c_2 => ?_) (fun c_2 => ?_)
      · have h := br_T c_2 h
        exact gm_merge_159 C hr hlk  _ _ _ _ _ _ _ hM (lv_sub hl [1, 2, 3, 0] rfl) h
      · have h := br_F c_2 h
        refine lv_iload hx hb dX12_merge_140 (lv_at hl 0 rfl) ?_
        refine lv_iconst (v := (-1 : Int32)) hx hb dX12_merge_142 (by decide) ?_
        refine lv_icmp_ne (tgt := 159) hx hb dX12_merge_143 (by decide) (fun c_3 => ?_) (fun c_3 => ?_)
        · have h := br_F c_3 h
          exact gm_merge_159 C hr hlk  _ _ _ _ _ _ _ hM (lv_sub hl [1, 2, 3, 0] rfl) h
        · have h := br_T c_3 h
          refine lv_aload_n hx hb dX12_merge_146 rfl (lv_at hl 1 rfl) ?_
          refine m_geti C hM (k := 33) (Or.inl rfl) rfl dX12_merge_147 ?_
          refine lv_bipush (v := (80 : Int32)) hx hb dX12_merge_150 (by decide) ?_
          refine lv_icmp_ne (tgt := 159) hx hb dX12_merge_152 (by decide) (fun c_4 => ?_) (fun c_4 => ?_)
          · have h := br_F c_4 h
            exact gm_merge_159 C hr hlk  _ _ _ _ _ _ _ hM (lv_sub hl [1, 2, 3, 0] rfl) h
          · have h := br_T c_4 h
            refine lv_iconst (v := (2 : Int32)) hx hb dX12_merge_155 (by decide) ?_
            refine lv_goto (tgt := 168) hx hb dX12_merge_156 (by decide) ?_
            exact gm_merge_168 C hr hlk  _ _ _ _ _ _ _ _ hM (lv_sub hl [1, 2, 3, 0] rfl) h
    · have h := br_F c_1 h
      refine lv_iload_n hx hb dX12_merge_60 rfl (lv_at hl 3 rfl) ?_
      refine lv_if_eq (tgt := 121) hx hb dX12_merge_61 (by decide) (fun c_5 => ?_) (fun c_5 => ?_)
      · have h := br_T c_5 h
        exact gm_merge_121 C hr hlk ih _ _ _ _ _ _ _ _ hM (lv_sub hl [0, 1, 2, 3, 4] rfl) h
      · have h := br_F c_5 h
        refine lv_aload_n hx hb dX12_merge_64 rfl (lv_at hl 0 rfl) ?_
        refine m_geta C hM (k := 22) (by decide) rfl dX12_merge_65 ?_
        refine lv_bipush (v := (12 : Int32)) hx hb dX12_merge_68 (by decide) ?_
        refine lv_iload_n hx hb dX12_merge_70 rfl (lv_at hl 1 rfl) ?_
        refine lv_imul hx hb dX12_merge_71 ?_
        refine lv_iload hx hb dX12_merge_72 (lv_at hl 4 rfl) ?_
        refine lv_iadd hx hb dX12_merge_74 ?_
        obtain ⟨c_6, h⟩ := ko_of h
        refine m_iald C hM (k := 22) rfl c_6 dX12_merge_75 ?_
        refine lv_bipush (v := (100 : Int32)) hx hb dX12_merge_76 (by decide) ?_
        refine lv_icmp_ne (tgt := 121) hx hb dX12_merge_78 (by decide) (fun c_7 => ?_) (fun c_7 => ?_)
        · have h := br_F c_7 h
          exact gm_merge_121 C hr hlk ih _ _ _ _ _ _ _ _ hM (lv_sub hl [0, 1, 2, 3, 4] rfl) h
        · have h := br_T c_7 h
          refine lv_aload_n hx hb dX12_merge_81 rfl (lv_at hl 0 rfl) ?_
          refine m_geta C hM (k := 36) (by decide) rfl dX12_merge_82 ?_
          refine lv_iload hx hb dX12_merge_85 (lv_at hl 4 rfl) ?_
          obtain ⟨c_8, h⟩ := ko_of h
          refine m_iald C hM (k := 36) rfl c_8 dX12_merge_87 ?_
          refine lv_aload_n hx hb dX12_merge_88 rfl (lv_at hl 0 rfl) ?_
          refine m_geti C hM (k := 35) (Or.inl rfl) rfl dX12_merge_89 ?_
          refine lv_icmp_ne (tgt := 121) hx hb dX12_merge_92 (by decide) (fun c_9 => ?_) (fun c_9 => ?_)
          · have h := br_F c_9 h
            exact gm_merge_121 C hr hlk ih _ _ _ _ _ _ _ _ hM (lv_sub hl [0, 1, 2, 3, 4] rfl) h
          · have h := br_T c_9 h
            refine lv_aload_n hx hb dX12_merge_95 rfl (lv_at hl 0 rfl) ?_
            refine lv_iload hx hb dX12_merge_96 (lv_at hl 4 rfl) ?_
            obtain ⟨r_2, hr_2, h⟩ := bd_of h
            refine m_cVi (As := [.int x4]) (rest := []) C hM (cm_weightWith l D ca α A σ x4 r_2 hr_2) mwy_weightWith ⟨rfl, rfl⟩ ⟨Nat.le_of_ble_eq_true rfl, Nat.le_of_ble_eq_true rfl⟩ rfl rfl (Nat.le_of_ble_eq_true rfl) hl.1 dX12_merge_98 ⟨rfl, rfl⟩ (fun H locs hM => ?_)
            refine lv_bipush (v := (12 : Int32)) hx hb dX12_merge_101 (by decide) ?_
            refine lv_icmp_le (tgt := 109) hx hb dX12_merge_103 (by decide) (fun c_10 => ?_) (fun c_10 => ?_)
            · have h := br_T c_10 h
              refine lv_aload_n hx hb dX12_merge_109 rfl (lv_at hl 0 rfl) ?_
              refine m_geta C hM (k := 36) (by decide) rfl dX12_merge_110 ?_
              refine lv_iload hx hb dX12_merge_113 (lv_at hl 4 rfl) ?_
              refine lv_bipush (v := (100 : Int32)) hx hb dX12_merge_115 (by decide) ?_
              obtain ⟨c_11, h⟩ := ko_of h
              refine m_iast C hM (k := 36) rfl c_11 dX12_merge_117 (fun H locs hM => ?_)
              refine lv_iinc (v := (x2 + (1 : Int32))) (lv' := [(2, .int (x2 + (1 : Int32))), (0, .ref (α 0)), (1, .int x1), (3, .int x3), (4, .int x4)]) hx hb dX12_merge_118 hl (k := 2) rfl rfl (by decide) rfl (fun ls hl => ?_)
              exact gm_merge_121 C hr hlk ih _ _ _ _ _ _ _ _ hM (lv_sub hl [1, 2, 0, 3, 4] rfl) h
            · have h := br_F c_10 h
              refine lv_goto (tgt := 121) hx hb dX12_merge_106 (by decide) ?_
              exact gm_merge_121 C hr hlk ih _ _ _ _ _ _ _ _ hM (lv_sub hl [0, 1, 2, 3, 4] rfl) h
def fm_merge_25 (σ : mS) (x1 : Int32) (s0 : Int32) : Option (Int32 × mS) :=
  (fm_isWrong σ s0).bind fun r_1 =>
  if r_1.1 = 0 then
    (fm_takesUp r_1.2 (r_1.2.1 34)).bind fun r_2 =>
    (fm_isBrightHere r_2).bind fun r_3 =>
    fm_merge_51 3000 r_3.2 x1 (0 : Int32) r_3.1 (0 : Int32)
  else
    some ((0 : Int32), r_1.2)
set_option maxHeartbeats 4000000 in
set_option maxRecDepth 100000 in
theorem gm_merge_25 {p : Program} {l : Launch} {e : Env} {s : State} {m : MethodId} {args : Array Value} {below : List Frame} {meth : Method} {c : Code} {D : va_G} {ca : Nat → ClassId} {α : Nat → Nat} {A : Nat → Prop} {o : Int32 × mS} (C : mC p s m args c cX12_merge 5 D ca) (hr : meth.sig.returnType = some .int) (hlk : meth.locks = false) : ∀ (σ : mS) (x1 : Int32) (s0 : Int32) (H : Heap) (locs : List Loc) (ls : Array Slot), mM D ca α A s.heap σ H locs → lv_has ls 5 [(0, .ref (α 0)), (1, .int x1)] → fm_merge_25 σ x1 s0 = some o → mGI p l e rmX12_merge s m args below meth c D ca α A o H locs 25 ls [.int s0, .ref (α 0)] := by
  have hx := C.1
  have hb := C.2.1
  intro σ x1 s0 H locs ls hM hl h
  unfold fm_merge_25 at h
  obtain ⟨r_1, hr_1, h⟩ := bd_of h
  refine m_cVi (As := [.int s0]) (rest := []) C hM (cm_isWrong l D ca α A σ s0 r_1 hr_1) mwy_isWrong ⟨rfl, rfl⟩ ⟨Nat.le_of_ble_eq_true rfl, Nat.le_of_ble_eq_true rfl⟩ rfl rfl (Nat.le_of_ble_eq_true rfl) hl.1 dX12_merge_25 ⟨rfl, rfl⟩ (fun H locs hM => ?_)
  refine lv_if_eq (tgt := 33) hx hb dX12_merge_28 (by decide) (fun c_1 => ?_) (fun c_1 => ?_)
  · have h := br_T c_1 h
    refine lv_aload_n hx hb dX12_merge_33 rfl (lv_at hl 0 rfl) ?_
    refine lv_aload_n hx hb dX12_merge_34 rfl (lv_at hl 0 rfl) ?_
    refine m_geti C hM (k := 34) (Or.inl rfl) rfl dX12_merge_35 ?_
    obtain ⟨r_2, hr_2, h⟩ := bd_of h
    refine m_cVv (As := [.int (r_1.2.1 34)]) (rest := []) C hM (cm_takesUp l D ca α A r_1.2 (r_1.2.1 34) r_2 hr_2) mwy_takesUp ⟨rfl, rfl⟩ ⟨Nat.le_of_ble_eq_true rfl, Nat.le_of_ble_eq_true rfl⟩ rfl rfl (Nat.le_of_ble_eq_true rfl) hl.1 dX12_merge_38 ⟨rfl, rfl⟩ (fun H locs hM => ?_)
    refine lv_iconst (v := (0 : Int32)) hx hb dX12_merge_41 (by decide) ?_
    refine lv_istore_n (lv' := [(2, .int (0 : Int32)), (0, .ref (α 0)), (1, .int x1)]) hx hb dX12_merge_42 rfl hl (by decide) rfl (fun ls hl => ?_)
    refine lv_aload_n hx hb dX12_merge_43 rfl (lv_at hl 1 rfl) ?_
    obtain ⟨r_3, hr_3, h⟩ := bd_of h
    refine m_cVi (As := []) (rest := []) C hM (cm_isBrightHere l D ca α A r_2  r_3 hr_3) mwy_isBrightHere ⟨rfl, rfl⟩ ⟨Nat.le_of_ble_eq_true rfl, Nat.le_of_ble_eq_true rfl⟩ rfl rfl (Nat.le_of_ble_eq_true rfl) hl.1 dX12_merge_44 ⟨rfl, rfl⟩ (fun H locs hM => ?_)
    refine lv_istore_n (lv' := [(3, .int r_3.1), (2, .int (0 : Int32)), (0, .ref (α 0)), (1, .int x1)]) hx hb dX12_merge_47 rfl hl (by decide) rfl (fun ls hl => ?_)
    refine lv_iconst (v := (0 : Int32)) hx hb dX12_merge_48 (by decide) ?_
    refine lv_istore (lv' := [(4, .int (0 : Int32)), (3, .int r_3.1), (2, .int (0 : Int32)), (0, .ref (α 0)), (1, .int x1)]) hx hb dX12_merge_49 hl (by decide) rfl (fun ls hl => ?_)
    exact gm_merge_51 C hr hlk  _ _ _ _ _ _ _ _ _ hM (lv_sub hl [3, 4, 2, 1, 0] rfl) h
  · have h := br_F c_1 h
    refine lv_iconst (v := (0 : Int32)) hx hb dX12_merge_31 (by decide) ?_
    exact m_ri C hM hr hlk dX12_merge_32 h
def fm_merge (σ : mS) (x1 : Int32) : Option (Int32 × mS) :=
  (fm_isNode σ x1).bind fun r_1 =>
  if r_1.1 = 0 then
    fm_merge_25 r_1.2 x1 (1 : Int32)
  else
    if (r_1.2.1 20) = 0 then
      fm_merge_25 r_1.2 x1 (2 : Int32)
    else
      fm_merge_25 r_1.2 x1 (0 : Int32)
set_option maxHeartbeats 4000000 in
set_option maxRecDepth 100000 in
theorem cm_merge (l : Launch) (D : va_G) (ca : Nat → ClassId) (α : Nat → Nat) (A : Nat → Prop) (σ : mS) (x1 : Int32) (o : Int32 × mS) (h : fm_merge σ x1 = some o) : mMetI l yX12_merge cX12_merge 5 (some .int) rmX12_merge D ca α A σ [.int x1] o := by
  refine Met.ofW (cc := cX12_merge) (maxL := 5) (ret := some .int) (by decide) rfl ?_
  intro p e s m args below meth c s₁ B hml hv
  obtain ⟨rfl, hP, hK, hD0⟩ := hv
  have C : mC p s m _ c cX12_merge 5 D ca := ⟨B.exec, B.bytes, hml, findClass_of_methodNamed B.named, fun w hw => atoms_spec (ws := mWs yX12_merge cX12_merge 5 (some .int)) B.pre w (List.mem_cons_of_mem _ hw), hK⟩
  have hM : mM D ca α A s.heap σ s.heap [] := ⟨hP, hD0, va_S.rf⟩
  have hr := B.returns
  have hlk := B.notSynchronized
  have hx := C.1
  have hb := C.2.1
  have hl := lv_entry ([.ref (α 0), .int x1]) (n := 5) (Nat.le_of_ble_eq_true rfl)
  rw [lg_entry_eq]
  generalize (lg_sl ([.ref (α 0), .int x1]) ++ List.replicate (5 - (lg_sl ([.ref (α 0), .int x1])).length) Slot.unset).toArray = ls at hl ⊢
  have hl : lv_has ls 5 [(0, .ref (α 0)), (1, .int x1)] := hl
  unfold fm_merge at h
  refine lv_aload_n hx hb dX12_merge_0 rfl (lv_at hl 0 rfl) ?_
  refine lv_aload_n hx hb dX12_merge_1 rfl (lv_at hl 0 rfl) ?_
  refine lv_iload_n hx hb dX12_merge_2 rfl (lv_at hl 1 rfl) ?_
  obtain ⟨r_1, hr_1, h⟩ := bd_of h
  refine m_cVi (As := [.int x1]) (rest := [.ref (α 0)]) C hM (cm_isNode l D ca α A σ x1 r_1 hr_1) mwy_isNode ⟨rfl, rfl⟩ ⟨Nat.le_of_ble_eq_true rfl, Nat.le_of_ble_eq_true rfl⟩ rfl rfl (Nat.le_of_ble_eq_true rfl) hl.1 dX12_merge_3 ⟨rfl, rfl⟩ (fun H locs hM => ?_)
  refine lv_if_ne (tgt := 13) hx hb dX12_merge_6 (by decide) (fun c_1 => ?_) (fun c_1 => ?_)
  · have h := br_F c_1 h
    refine lv_aload_n hx hb dX12_merge_13 rfl (lv_at hl 0 rfl) ?_
    refine m_geti C hM (k := 20) (Or.inr rfl) rfl dX12_merge_14 ?_
    refine lv_if_ne (tgt := 24) hx hb dX12_merge_17 (by decide) (fun c_2 => ?_) (fun c_2 => ?_)
    · have h := br_F c_2 h
      refine lv_iconst (v := (0 : Int32)) hx hb dX12_merge_24 (by decide) ?_
      exact gm_merge_25 C hr hlk  _ _ _ _ _ _ hM (lv_sub hl [0, 1] rfl) h
    · have h := br_T c_2 h
      refine lv_iconst (v := (2 : Int32)) hx hb dX12_merge_20 (by decide) ?_
      refine lv_goto (tgt := 25) hx hb dX12_merge_21 (by decide) ?_
      exact gm_merge_25 C hr hlk  _ _ _ _ _ _ hM (lv_sub hl [0, 1] rfl) h
  · have h := br_T c_1 h
    refine lv_iconst (v := (1 : Int32)) hx hb dX12_merge_9 (by decide) ?_
    refine lv_goto (tgt := 25) hx hb dX12_merge_10 (by decide) ?_
    exact gm_merge_25 C hr hlk  _ _ _ _ _ _ hM (lv_sub hl [0, 1] rfl) h
/-! score()I -/
abbrev rmX12_score : Room := { frames := 2, cells := 0, slots := 0, locals := 41 }
def fm_score_55 (k_13 : mS → Int32 → Int32 → Option (Int32 × mS)) (σ : mS) (x2 : Int32) (s0 : Int32) (s1 : Int32) : Option (Int32 × mS) :=
  k_13 σ (s1 + s0) (x2 + (1 : Int32))
set_option maxHeartbeats 4000000 in
set_option maxRecDepth 100000 in
theorem gm_score_55 {p : Program} {l : Launch} {e : Env} {s : State} {m : MethodId} {args : Array Value} {below : List Frame} {meth : Method} {c : Code} {D : va_G} {ca : Nat → ClassId} {α : Nat → Nat} {A : Nat → Prop} {o : Int32 × mS} {k_13 : mS → Int32 → Int32 → Option (Int32 × mS)} (C : mC p s m args c cX12_score 3 D ca) (hr : meth.sig.returnType = some .int) (hlk : meth.locks = false) (hk_13 : ∀ (σ : mS) (x1 : Int32) (x2 : Int32) (H : Heap) (locs : List Loc) (ls : Array Slot), mM D ca α A s.heap σ H locs → lv_has ls 3 [(0, .ref (α 0)), (1, .int x1), (2, .int x2)] → k_13 σ x1 x2 = some o → mGI p l e rmX12_score s m args below meth c D ca α A o H locs 13 ls []) : ∀ (σ : mS) (x2 : Int32) (s0 : Int32) (s1 : Int32) (H : Heap) (locs : List Loc) (ls : Array Slot), mM D ca α A s.heap σ H locs → lv_has ls 3 [(0, .ref (α 0)), (2, .int x2)] → fm_score_55 k_13 σ x2 s0 s1 = some o → mGI p l e rmX12_score s m args below meth c D ca α A o H locs 55 ls [.int s0, .int s1] := by
  have hx := C.1
  have hb := C.2.1
  intro σ x2 s0 s1 H locs ls hM hl h
  unfold fm_score_55 at h
  refine lv_iadd hx hb dX12_score_55 ?_
  refine lv_istore_n (lv' := [(1, .int (s1 + s0)), (0, .ref (α 0)), (2, .int x2)]) hx hb dX12_score_56 rfl hl (by decide) rfl (fun ls hl => ?_)
  refine lv_iinc (v := (x2 + (1 : Int32))) (lv' := [(2, .int (x2 + (1 : Int32))), (1, .int (s1 + s0)), (0, .ref (α 0))]) hx hb dX12_score_57 hl (k := 2) rfl rfl (by decide) rfl (fun ls hl => ?_)
  refine lv_goto (tgt := 13) hx hb dX12_score_60 (by decide) ?_
  exact hk_13 _ _ _ _ _ _ hM (lv_sub hl [2, 1, 0] rfl) h
def fm_score_13 : Nat → mS → Int32 → Int32 → Option (Int32 × mS)
  | 0, _, _, _ => none
  | n + 1, σ, x1, x2 =>
    if (σ.1 19) ≤ x2 then
      some (x1, σ)
    else
      if x2 < 0 ∨ 6 ≤ x2.toNatClampNeg then none else
      if (((12 : Int32) * (σ.1 34)) + (σ.2.2.1 17 x2.toNatClampNeg)) < 0 ∨ 960 ≤ (((12 : Int32) * (σ.1 34)) + (σ.2.2.1 17 x2.toNatClampNeg)).toNatClampNeg then none else
      if x2 < 0 ∨ 6 ≤ x2.toNatClampNeg then none else
      if (σ.2.2.1 22 (((12 : Int32) * (σ.1 34)) + (σ.2.2.1 17 x2.toNatClampNeg)).toNatClampNeg) = (σ.2.2.1 18 x2.toNatClampNeg) then
        fm_score_55 (fm_score_13 n) σ x2 (1 : Int32) x1
      else
        fm_score_55 (fm_score_13 n) σ x2 (0 : Int32) x1
set_option maxHeartbeats 4000000 in
set_option maxRecDepth 100000 in
theorem gm_score_13 {p : Program} {l : Launch} {e : Env} {s : State} {m : MethodId} {args : Array Value} {below : List Frame} {meth : Method} {c : Code} {D : va_G} {ca : Nat → ClassId} {α : Nat → Nat} {A : Nat → Prop} {o : Int32 × mS} (C : mC p s m args c cX12_score 3 D ca) (hr : meth.sig.returnType = some .int) (hlk : meth.locks = false) : ∀ (n : Nat) (σ : mS) (x1 : Int32) (x2 : Int32) (H : Heap) (locs : List Loc) (ls : Array Slot), mM D ca α A s.heap σ H locs → lv_has ls 3 [(0, .ref (α 0)), (1, .int x1), (2, .int x2)] → fm_score_13 n σ x1 x2 = some o → mGI p l e rmX12_score s m args below meth c D ca α A o H locs 13 ls [] := by
  have hx := C.1
  have hb := C.2.1
  intro n
  induction n with
  | zero =>
    intro σ x1 x2 H locs ls hM hl h
    cases h
  | succ n ih =>
    intro σ x1 x2 H locs ls hM hl h
    rw [fm_score_13] at h
    refine lv_iload_n hx hb dX12_score_13 rfl (lv_at hl 2 rfl) ?_
    refine lv_aload_n hx hb dX12_score_14 rfl (lv_at hl 0 rfl) ?_
    refine m_geti C hM (k := 19) (Or.inl rfl) rfl dX12_score_15 ?_
    refine lv_icmp_ge (tgt := 63) hx hb dX12_score_18 (by decide) (fun c_1 => ?_) (fun c_1 => ?_)
    · have h := br_T c_1 h
      refine lv_iload_n hx hb dX12_score_63 rfl (lv_at hl 1 rfl) ?_
      exact m_ri C hM hr hlk dX12_score_64 h
    · have h := br_F c_1 h
      refine lv_iload_n hx hb dX12_score_21 rfl (lv_at hl 1 rfl) ?_
      refine lv_aload_n hx hb dX12_score_22 rfl (lv_at hl 0 rfl) ?_
      refine m_geta C hM (k := 22) (by decide) rfl dX12_score_23 ?_
      refine lv_bipush (v := (12 : Int32)) hx hb dX12_score_26 (by decide) ?_
      refine lv_aload_n hx hb dX12_score_28 rfl (lv_at hl 0 rfl) ?_
      refine m_geti C hM (k := 34) (Or.inl rfl) rfl dX12_score_29 ?_
      refine lv_imul hx hb dX12_score_32 ?_
      refine lv_aload_n hx hb dX12_score_33 rfl (lv_at hl 0 rfl) ?_
      refine m_geta C hM (k := 17) (by decide) rfl dX12_score_34 ?_
      refine lv_iload_n hx hb dX12_score_37 rfl (lv_at hl 2 rfl) ?_
      obtain ⟨c_2, h⟩ := ko_of h
      refine m_iald C hM (k := 17) rfl c_2 dX12_score_38 ?_
      refine lv_iadd hx hb dX12_score_39 ?_
      obtain ⟨c_3, h⟩ := ko_of h
      refine m_iald C hM (k := 22) rfl c_3 dX12_score_40 ?_
      refine lv_aload_n hx hb dX12_score_41 rfl (lv_at hl 0 rfl) ?_
      refine m_geta C hM (k := 18) (by decide) rfl dX12_score_42 ?_
      refine lv_iload_n hx hb dX12_score_45 rfl (lv_at hl 2 rfl) ?_
      obtain ⟨c_4, h⟩ := ko_of h
      refine m_iald C hM (k := 18) rfl c_4 dX12_score_46 ?_
      refine lv_icmp_ne (tgt := 54) hx hb dX12_score_47 (by decide) (fun c_5 => ?_) (fun c_5 => ?_)
      · have h := br_F c_5 h
        refine lv_iconst (v := (0 : Int32)) hx hb dX12_score_54 (by decide) ?_
        exact gm_score_55 C hr hlk ih _ _ _ _ _ _ _ hM (lv_sub hl [0, 2] rfl) h
      · have h := br_T c_5 h
        refine lv_iconst (v := (1 : Int32)) hx hb dX12_score_50 (by decide) ?_
        refine lv_goto (tgt := 55) hx hb dX12_score_51 (by decide) ?_
        exact gm_score_55 C hr hlk ih _ _ _ _ _ _ _ hM (lv_sub hl [0, 2] rfl) h
def fm_score (σ : mS) : Option (Int32 × mS) :=
  (fm_isNotBegun σ).bind fun r_1 =>
  if r_1.1 = 0 then
    fm_score_13 3000 r_1.2 (0 : Int32) (0 : Int32)
  else
    some ((0 : Int32), r_1.2)
set_option maxHeartbeats 4000000 in
set_option maxRecDepth 100000 in
theorem cm_score (l : Launch) (D : va_G) (ca : Nat → ClassId) (α : Nat → Nat) (A : Nat → Prop) (σ : mS) (o : Int32 × mS) (h : fm_score σ  = some o) : mMetI l yX12_score cX12_score 3 (some .int) rmX12_score D ca α A σ [] o := by
  refine Met.ofW (cc := cX12_score) (maxL := 3) (ret := some .int) (by decide) rfl ?_
  intro p e s m args below meth c s₁ B hml hv
  obtain ⟨rfl, hP, hK, hD0⟩ := hv
  have C : mC p s m _ c cX12_score 3 D ca := ⟨B.exec, B.bytes, hml, findClass_of_methodNamed B.named, fun w hw => atoms_spec (ws := mWs yX12_score cX12_score 3 (some .int)) B.pre w (List.mem_cons_of_mem _ hw), hK⟩
  have hM : mM D ca α A s.heap σ s.heap [] := ⟨hP, hD0, va_S.rf⟩
  have hr := B.returns
  have hlk := B.notSynchronized
  have hx := C.1
  have hb := C.2.1
  have hl := lv_entry ([.ref (α 0)]) (n := 3) (Nat.le_of_ble_eq_true rfl)
  rw [lg_entry_eq]
  generalize (lg_sl ([.ref (α 0)]) ++ List.replicate (3 - (lg_sl ([.ref (α 0)])).length) Slot.unset).toArray = ls at hl ⊢
  have hl : lv_has ls 3 [(0, .ref (α 0))] := hl
  unfold fm_score at h
  refine lv_aload_n hx hb dX12_score_0 rfl (lv_at hl 0 rfl) ?_
  obtain ⟨r_1, hr_1, h⟩ := bd_of h
  refine m_cVi (As := []) (rest := []) C hM (cm_isNotBegun l D ca α A σ  r_1 hr_1) mwy_isNotBegun ⟨rfl, rfl⟩ ⟨Nat.le_of_ble_eq_true rfl, Nat.le_of_ble_eq_true rfl⟩ rfl rfl (Nat.le_of_ble_eq_true rfl) hl.1 dX12_score_1 ⟨rfl, rfl⟩ (fun H locs hM => ?_)
  refine lv_if_eq (tgt := 9) hx hb dX12_score_4 (by decide) (fun c_1 => ?_) (fun c_1 => ?_)
  · have h := br_T c_1 h
    refine lv_iconst (v := (0 : Int32)) hx hb dX12_score_9 (by decide) ?_
    refine lv_istore_n (lv' := [(1, .int (0 : Int32)), (0, .ref (α 0))]) hx hb dX12_score_10 rfl hl (by decide) rfl (fun ls hl => ?_)
    refine lv_iconst (v := (0 : Int32)) hx hb dX12_score_11 (by decide) ?_
    refine lv_istore_n (lv' := [(2, .int (0 : Int32)), (1, .int (0 : Int32)), (0, .ref (α 0))]) hx hb dX12_score_12 rfl hl (by decide) rfl (fun ls hl => ?_)
    exact gm_score_13 C hr hlk  _ _ _ _ _ _ _ hM (lv_sub hl [2, 1, 0] rfl) h
  · have h := br_F c_1 h
    refine lv_iconst (v := (0 : Int32)) hx hb dX12_score_7 (by decide) ?_
    exact m_ri C hM hr hlk dX12_score_8 h
/-! steps(I)I -/
abbrev rmX12_steps : Room := { frames := 2, cells := 0, slots := 0, locals := 43 }
def fm_steps_69 (k_43 : mS → Int32 → Int32 → Option (Int32 × mS)) (σ : mS) (x1 : Int32) (x2 : Int32) (s0 : Int32) (s1 : Int32) : Option (Int32 × mS) :=
  if s1 < 0 ∨ 12 ≤ s1.toNatClampNeg then none else
  k_43 (mA σ 50 s1.toNatClampNeg s0) x1 (x2 + (1 : Int32))
set_option maxHeartbeats 4000000 in
set_option maxRecDepth 100000 in
theorem gm_steps_69 {p : Program} {l : Launch} {e : Env} {s : State} {m : MethodId} {args : Array Value} {below : List Frame} {meth : Method} {c : Code} {D : va_G} {ca : Nat → ClassId} {α : Nat → Nat} {A : Nat → Prop} {o : Int32 × mS} {k_43 : mS → Int32 → Int32 → Option (Int32 × mS)} (C : mC p s m args c cX12_steps 6 D ca) (hr : meth.sig.returnType = some .int) (hlk : meth.locks = false) (hk_43 : ∀ (σ : mS) (x1 : Int32) (x2 : Int32) (H : Heap) (locs : List Loc) (ls : Array Slot), mM D ca α A s.heap σ H locs → lv_has ls 6 [(0, .ref (α 0)), (1, .int x1), (2, .int x2)] → k_43 σ x1 x2 = some o → mGI p l e rmX12_steps s m args below meth c D ca α A o H locs 43 ls []) : ∀ (σ : mS) (x1 : Int32) (x2 : Int32) (s0 : Int32) (s1 : Int32) (H : Heap) (locs : List Loc) (ls : Array Slot), mM D ca α A s.heap σ H locs → lv_has ls 6 [(0, .ref (α 0)), (1, .int x1), (2, .int x2)] → fm_steps_69 k_43 σ x1 x2 s0 s1 = some o → mGI p l e rmX12_steps s m args below meth c D ca α A o H locs 69 ls [.int s0, .int s1, .ref (α 51)] := by
  have hx := C.1
  have hb := C.2.1
  intro σ x1 x2 s0 s1 H locs ls hM hl h
  unfold fm_steps_69 at h
  obtain ⟨c_1, h⟩ := ko_of h
  refine m_iast C hM (k := 50) rfl c_1 dX12_steps_69 (fun H locs hM => ?_)
  refine lv_iinc (v := (x2 + (1 : Int32))) (lv' := [(2, .int (x2 + (1 : Int32))), (0, .ref (α 0)), (1, .int x1)]) hx hb dX12_steps_70 hl (k := 2) rfl rfl (by decide) rfl (fun ls hl => ?_)
  refine lv_goto (tgt := 43) hx hb dX12_steps_73 (by decide) ?_
  exact hk_43 _ _ _ _ _ _ hM (lv_sub hl [1, 2, 0] rfl) h
def fm_steps_161 (k_78 : mS → Int32 → Int32 → Option (Int32 × mS)) (k_88 : mS → Int32 → Int32 → Int32 → Option (Int32 × mS)) (k_99 : mS → Int32 → Int32 → Int32 → Int32 → Option (Int32 × mS)) (σ : mS) (x1 : Int32) (x2 : Int32) (x3 : Int32) (x4 : Int32) : Option (Int32 × mS) :=
  k_99 σ x1 x2 x3 (x4 + (1 : Int32))
set_option maxHeartbeats 4000000 in
set_option maxRecDepth 100000 in
theorem gm_steps_161 {p : Program} {l : Launch} {e : Env} {s : State} {m : MethodId} {args : Array Value} {below : List Frame} {meth : Method} {c : Code} {D : va_G} {ca : Nat → ClassId} {α : Nat → Nat} {A : Nat → Prop} {o : Int32 × mS} {k_78 : mS → Int32 → Int32 → Option (Int32 × mS)} {k_88 : mS → Int32 → Int32 → Int32 → Option (Int32 × mS)} {k_99 : mS → Int32 → Int32 → Int32 → Int32 → Option (Int32 × mS)} (C : mC p s m args c cX12_steps 6 D ca) (hr : meth.sig.returnType = some .int) (hlk : meth.locks = false) (hk_78 : ∀ (σ : mS) (x1 : Int32) (x2 : Int32) (H : Heap) (locs : List Loc) (ls : Array Slot), mM D ca α A s.heap σ H locs → lv_has ls 6 [(0, .ref (α 0)), (1, .int x1), (2, .int x2)] → k_78 σ x1 x2 = some o → mGI p l e rmX12_steps s m args below meth c D ca α A o H locs 78 ls []) (hk_88 : ∀ (σ : mS) (x1 : Int32) (x2 : Int32) (x3 : Int32) (H : Heap) (locs : List Loc) (ls : Array Slot), mM D ca α A s.heap σ H locs → lv_has ls 6 [(0, .ref (α 0)), (1, .int x1), (2, .int x2), (3, .int x3)] → k_88 σ x1 x2 x3 = some o → mGI p l e rmX12_steps s m args below meth c D ca α A o H locs 88 ls []) (hk_99 : ∀ (σ : mS) (x1 : Int32) (x2 : Int32) (x3 : Int32) (x4 : Int32) (H : Heap) (locs : List Loc) (ls : Array Slot), mM D ca α A s.heap σ H locs → lv_has ls 6 [(0, .ref (α 0)), (1, .int x1), (2, .int x2), (3, .int x3), (4, .int x4)] → k_99 σ x1 x2 x3 x4 = some o → mGI p l e rmX12_steps s m args below meth c D ca α A o H locs 99 ls []) : ∀ (σ : mS) (x1 : Int32) (x2 : Int32) (x3 : Int32) (x4 : Int32) (H : Heap) (locs : List Loc) (ls : Array Slot), mM D ca α A s.heap σ H locs → lv_has ls 6 [(0, .ref (α 0)), (1, .int x1), (2, .int x2), (3, .int x3), (4, .int x4)] → fm_steps_161 k_78 k_88 k_99 σ x1 x2 x3 x4 = some o → mGI p l e rmX12_steps s m args below meth c D ca α A o H locs 161 ls [] := by
  have hx := C.1
  have hb := C.2.1
  intro σ x1 x2 x3 x4 H locs ls hM hl h
  unfold fm_steps_161 at h
  refine lv_iinc (v := (x4 + (1 : Int32))) (lv' := [(4, .int (x4 + (1 : Int32))), (0, .ref (α 0)), (1, .int x1), (2, .int x2), (3, .int x3)]) hx hb dX12_steps_161 hl (k := 4) rfl rfl (by decide) rfl (fun ls hl => ?_)
  refine lv_goto (tgt := 99) hx hb dX12_steps_164 (by decide) ?_
  exact hk_99 _ _ _ _ _ _ _ _ hM (lv_sub hl [1, 2, 3, 4, 0] rfl) h
def fm_steps_167 (k_78 : mS → Int32 → Int32 → Option (Int32 × mS)) (k_88 : mS → Int32 → Int32 → Int32 → Option (Int32 × mS)) (σ : mS) (x1 : Int32) (x2 : Int32) (x3 : Int32) : Option (Int32 × mS) :=
  k_88 σ x1 x2 (x3 + (1 : Int32))
set_option maxHeartbeats 4000000 in
set_option maxRecDepth 100000 in
theorem gm_steps_167 {p : Program} {l : Launch} {e : Env} {s : State} {m : MethodId} {args : Array Value} {below : List Frame} {meth : Method} {c : Code} {D : va_G} {ca : Nat → ClassId} {α : Nat → Nat} {A : Nat → Prop} {o : Int32 × mS} {k_78 : mS → Int32 → Int32 → Option (Int32 × mS)} {k_88 : mS → Int32 → Int32 → Int32 → Option (Int32 × mS)} (C : mC p s m args c cX12_steps 6 D ca) (hr : meth.sig.returnType = some .int) (hlk : meth.locks = false) (hk_78 : ∀ (σ : mS) (x1 : Int32) (x2 : Int32) (H : Heap) (locs : List Loc) (ls : Array Slot), mM D ca α A s.heap σ H locs → lv_has ls 6 [(0, .ref (α 0)), (1, .int x1), (2, .int x2)] → k_78 σ x1 x2 = some o → mGI p l e rmX12_steps s m args below meth c D ca α A o H locs 78 ls []) (hk_88 : ∀ (σ : mS) (x1 : Int32) (x2 : Int32) (x3 : Int32) (H : Heap) (locs : List Loc) (ls : Array Slot), mM D ca α A s.heap σ H locs → lv_has ls 6 [(0, .ref (α 0)), (1, .int x1), (2, .int x2), (3, .int x3)] → k_88 σ x1 x2 x3 = some o → mGI p l e rmX12_steps s m args below meth c D ca α A o H locs 88 ls []) : ∀ (σ : mS) (x1 : Int32) (x2 : Int32) (x3 : Int32) (H : Heap) (locs : List Loc) (ls : Array Slot), mM D ca α A s.heap σ H locs → lv_has ls 6 [(0, .ref (α 0)), (1, .int x1), (2, .int x2), (3, .int x3)] → fm_steps_167 k_78 k_88 σ x1 x2 x3 = some o → mGI p l e rmX12_steps s m args below meth c D ca α A o H locs 167 ls [] := by
  have hx := C.1
  have hb := C.2.1
  intro σ x1 x2 x3 H locs ls hM hl h
  unfold fm_steps_167 at h
  refine lv_iinc (v := (x3 + (1 : Int32))) (lv' := [(3, .int (x3 + (1 : Int32))), (0, .ref (α 0)), (1, .int x1), (2, .int x2)]) hx hb dX12_steps_167 hl (k := 3) rfl rfl (by decide) rfl (fun ls hl => ?_)
  refine lv_goto (tgt := 88) hx hb dX12_steps_170 (by decide) ?_
  exact hk_88 _ _ _ _ _ _ _ hM (lv_sub hl [1, 2, 3, 0] rfl) h
def fm_steps_99 (k_78 : mS → Int32 → Int32 → Option (Int32 × mS)) (k_88 : mS → Int32 → Int32 → Int32 → Option (Int32 × mS)) : Nat → mS → Int32 → Int32 → Int32 → Int32 → Option (Int32 × mS)
  | 0, _, _, _, _, _ => none
  | n + 1, σ, x1, x2, x3, x4 =>
    if (6 : Int32) ≤ x4 then
      fm_steps_167 k_78 k_88 σ x1 x2 x3
    else
      if x3 < 0 ∨ 12 ≤ x3.toNatClampNeg then none else
      if (σ.2.2.1 50 x3.toNatClampNeg) = x2 then
        if (((6 : Int32) * x3) + x4) < 0 ∨ 72 ≤ (((6 : Int32) * x3) + x4).toNatClampNeg then none else
        (fm_isFree σ x3 x4).bind fun r_1 =>
        if r_1.1 = 0 then
          fm_steps_161 k_78 k_88 (fm_steps_99 k_78 k_88 n) r_1.2 x1 x2 x3 x4
        else
          if (σ.2.2.1 7 (((6 : Int32) * x3) + x4).toNatClampNeg) < 0 ∨ 12 ≤ (σ.2.2.1 7 (((6 : Int32) * x3) + x4).toNatClampNeg).toNatClampNeg then none else
          if (r_1.2.2.2.1 50 (σ.2.2.1 7 (((6 : Int32) * x3) + x4).toNatClampNeg).toNatClampNeg) = (-1 : Int32) then
            if (σ.2.2.1 7 (((6 : Int32) * x3) + x4).toNatClampNeg) < 0 ∨ 12 ≤ (σ.2.2.1 7 (((6 : Int32) * x3) + x4).toNatClampNeg).toNatClampNeg then none else
            fm_steps_161 k_78 k_88 (fm_steps_99 k_78 k_88 n) (mA r_1.2 50 (σ.2.2.1 7 (((6 : Int32) * x3) + x4).toNatClampNeg).toNatClampNeg (x2 + (1 : Int32))) x1 x2 x3 x4
          else
            fm_steps_161 k_78 k_88 (fm_steps_99 k_78 k_88 n) r_1.2 x1 x2 x3 x4
      else
        fm_steps_167 k_78 k_88 σ x1 x2 x3
set_option maxHeartbeats 4000000 in
set_option maxRecDepth 100000 in
theorem gm_steps_99 {p : Program} {l : Launch} {e : Env} {s : State} {m : MethodId} {args : Array Value} {below : List Frame} {meth : Method} {c : Code} {D : va_G} {ca : Nat → ClassId} {α : Nat → Nat} {A : Nat → Prop} {o : Int32 × mS} {k_78 : mS → Int32 → Int32 → Option (Int32 × mS)} {k_88 : mS → Int32 → Int32 → Int32 → Option (Int32 × mS)} (C : mC p s m args c cX12_steps 6 D ca) (hr : meth.sig.returnType = some .int) (hlk : meth.locks = false) (hk_78 : ∀ (σ : mS) (x1 : Int32) (x2 : Int32) (H : Heap) (locs : List Loc) (ls : Array Slot), mM D ca α A s.heap σ H locs → lv_has ls 6 [(0, .ref (α 0)), (1, .int x1), (2, .int x2)] → k_78 σ x1 x2 = some o → mGI p l e rmX12_steps s m args below meth c D ca α A o H locs 78 ls []) (hk_88 : ∀ (σ : mS) (x1 : Int32) (x2 : Int32) (x3 : Int32) (H : Heap) (locs : List Loc) (ls : Array Slot), mM D ca α A s.heap σ H locs → lv_has ls 6 [(0, .ref (α 0)), (1, .int x1), (2, .int x2), (3, .int x3)] → k_88 σ x1 x2 x3 = some o → mGI p l e rmX12_steps s m args below meth c D ca α A o H locs 88 ls []) : ∀ (n : Nat) (σ : mS) (x1 : Int32) (x2 : Int32) (x3 : Int32) (x4 : Int32) (H : Heap) (locs : List Loc) (ls : Array Slot), mM D ca α A s.heap σ H locs → lv_has ls 6 [(0, .ref (α 0)), (1, .int x1), (2, .int x2), (3, .int x3), (4, .int x4)] → fm_steps_99 k_78 k_88 n σ x1 x2 x3 x4 = some o → mGI p l e rmX12_steps s m args below meth c D ca α A o H locs 99 ls [] := by
  have hx := C.1
  have hb := C.2.1
  intro n
  induction n with
  | zero =>
    intro σ x1 x2 x3 x4 H locs ls hM hl h
    cases h
  | succ n ih =>
    intro σ x1 x2 x3 x4 H locs ls hM hl h
    rw [fm_steps_99] at h
    refine lv_iload hx hb dX12_steps_99 (lv_at hl 4 rfl) ?_
    refine lv_bipush (v := (6 : Int32)) hx hb dX12_steps_101 (by decide) ?_
    refine lv_icmp_ge (tgt := 167) hx hb dX12_steps_103 (by decide) (fun c_1 => ?_) (fun c_1 => ?_)
    · have h := br_T c_1 h
      exact gm_steps_167 C hr hlk hk_78 hk_88 _ _ _ _ _ _ _ hM (lv_sub hl [0, 1, 2, 3] rfl) h
    · have h := br_F c_1 h
      refine lv_aload_n hx hb dX12_steps_106 rfl (lv_at hl 0 rfl) ?_
      refine m_geta C hM (k := 50) (by decide) rfl dX12_steps_107 ?_
      refine lv_iload_n hx hb dX12_steps_110 rfl (lv_at hl 3 rfl) ?_
      obtain ⟨c_2, h⟩ := ko_of h
      refine m_iald C hM (k := 50) rfl c_2 dX12_steps_111 ?_
      refine lv_iload_n hx hb dX12_steps_112 rfl (lv_at hl 2 rfl) ?_
      refine lv_icmp_ne (tgt := 167) hx hb dX12_steps_113 (by decide) (fun c_3 => ?_) (fun c_3 => ?_)
      · have h := br_F c_3 h
        exact gm_steps_167 C hr hlk hk_78 hk_88 _ _ _ _ _ _ _ hM (lv_sub hl [0, 1, 2, 3] rfl) h
      · have h := br_T c_3 h
        refine lv_aload_n hx hb dX12_steps_116 rfl (lv_at hl 0 rfl) ?_
        refine m_geta C hM (k := 7) (by decide) rfl dX12_steps_117 ?_
        refine lv_bipush (v := (6 : Int32)) hx hb dX12_steps_120 (by decide) ?_
        refine lv_iload_n hx hb dX12_steps_122 rfl (lv_at hl 3 rfl) ?_
        refine lv_imul hx hb dX12_steps_123 ?_
        refine lv_iload hx hb dX12_steps_124 (lv_at hl 4 rfl) ?_
        refine lv_iadd hx hb dX12_steps_126 ?_
        obtain ⟨c_4, h⟩ := ko_of h
        refine m_iald C hM (k := 7) rfl c_4 dX12_steps_127 ?_
        refine lv_istore (lv' := [(5, .int (σ.2.2.1 7 (((6 : Int32) * x3) + x4).toNatClampNeg)), (0, .ref (α 0)), (1, .int x1), (2, .int x2), (3, .int x3), (4, .int x4)]) hx hb dX12_steps_128 hl (by decide) rfl (fun ls hl => ?_)
        refine lv_aload_n hx hb dX12_steps_130 rfl (lv_at hl 1 rfl) ?_
        refine lv_iload_n hx hb dX12_steps_131 rfl (lv_at hl 4 rfl) ?_
        refine lv_iload hx hb dX12_steps_132 (lv_at hl 5 rfl) ?_
        obtain ⟨r_1, hr_1, h⟩ := bd_of h
        refine m_cVi (As := [.int x3, .int x4]) (rest := []) C hM (cm_isFree l D ca α A σ x3 x4 r_1 hr_1) mwy_isFree ⟨rfl, rfl⟩ ⟨Nat.le_of_ble_eq_true rfl, Nat.le_of_ble_eq_true rfl⟩ rfl rfl (Nat.le_of_ble_eq_true rfl) hl.1 dX12_steps_134 ⟨rfl, rfl⟩ (fun H locs hM => ?_)
        refine lv_if_eq (tgt := 161) hx hb dX12_steps_137 (by decide) (fun c_5 => ?_) (fun c_5 => ?_)
        · have h := br_T c_5 h
          exact gm_steps_161 C hr hlk hk_78 hk_88 ih _ _ _ _ _ _ _ _ hM (lv_sub hl [1, 2, 3, 4, 5] rfl) h
        · have h := br_F c_5 h
          refine lv_aload_n hx hb dX12_steps_140 rfl (lv_at hl 1 rfl) ?_
          refine m_geta C hM (k := 50) (by decide) rfl dX12_steps_141 ?_
          refine lv_iload hx hb dX12_steps_144 (lv_at hl 0 rfl) ?_
          obtain ⟨c_6, h⟩ := ko_of h
          refine m_iald C hM (k := 50) rfl c_6 dX12_steps_146 ?_
          refine lv_iconst (v := (-1 : Int32)) hx hb dX12_steps_147 (by decide) ?_
          refine lv_icmp_ne (tgt := 161) hx hb dX12_steps_148 (by decide) (fun c_7 => ?_) (fun c_7 => ?_)
          · have h := br_F c_7 h
            exact gm_steps_161 C hr hlk hk_78 hk_88 ih _ _ _ _ _ _ _ _ hM (lv_sub hl [1, 2, 3, 4, 5] rfl) h
          · have h := br_T c_7 h
            refine lv_aload_n hx hb dX12_steps_151 rfl (lv_at hl 1 rfl) ?_
            refine m_geta C hM (k := 50) (by decide) rfl dX12_steps_152 ?_
            refine lv_iload hx hb dX12_steps_155 (lv_at hl 0 rfl) ?_
            refine lv_iload_n hx hb dX12_steps_157 rfl (lv_at hl 3 rfl) ?_
            refine lv_iconst (v := (1 : Int32)) hx hb dX12_steps_158 (by decide) ?_
            refine lv_iadd hx hb dX12_steps_159 ?_
            obtain ⟨c_8, h⟩ := ko_of h
            refine m_iast C hM (k := 50) rfl c_8 dX12_steps_160 (fun H locs hM => ?_)
            exact gm_steps_161 C hr hlk hk_78 hk_88 ih _ _ _ _ _ _ _ _ hM (lv_sub hl [1, 2, 3, 4, 5] rfl) h
def fm_steps_88 (k_78 : mS → Int32 → Int32 → Option (Int32 × mS)) : Nat → mS → Int32 → Int32 → Int32 → Option (Int32 × mS)
  | 0, _, _, _, _ => none
  | n + 1, σ, x1, x2, x3 =>
    if (σ.1 9) ≤ x3 then
      k_78 σ x1 (x2 + (1 : Int32))
    else
      fm_steps_99 k_78 (fm_steps_88 k_78 n) 3000 σ x1 x2 x3 (0 : Int32)
set_option maxHeartbeats 4000000 in
set_option maxRecDepth 100000 in
theorem gm_steps_88 {p : Program} {l : Launch} {e : Env} {s : State} {m : MethodId} {args : Array Value} {below : List Frame} {meth : Method} {c : Code} {D : va_G} {ca : Nat → ClassId} {α : Nat → Nat} {A : Nat → Prop} {o : Int32 × mS} {k_78 : mS → Int32 → Int32 → Option (Int32 × mS)} (C : mC p s m args c cX12_steps 6 D ca) (hr : meth.sig.returnType = some .int) (hlk : meth.locks = false) (hk_78 : ∀ (σ : mS) (x1 : Int32) (x2 : Int32) (H : Heap) (locs : List Loc) (ls : Array Slot), mM D ca α A s.heap σ H locs → lv_has ls 6 [(0, .ref (α 0)), (1, .int x1), (2, .int x2)] → k_78 σ x1 x2 = some o → mGI p l e rmX12_steps s m args below meth c D ca α A o H locs 78 ls []) : ∀ (n : Nat) (σ : mS) (x1 : Int32) (x2 : Int32) (x3 : Int32) (H : Heap) (locs : List Loc) (ls : Array Slot), mM D ca α A s.heap σ H locs → lv_has ls 6 [(0, .ref (α 0)), (1, .int x1), (2, .int x2), (3, .int x3)] → fm_steps_88 k_78 n σ x1 x2 x3 = some o → mGI p l e rmX12_steps s m args below meth c D ca α A o H locs 88 ls [] := by
  have hx := C.1
  have hb := C.2.1
  intro n
  induction n with
  | zero =>
    intro σ x1 x2 x3 H locs ls hM hl h
    cases h
  | succ n ih =>
    intro σ x1 x2 x3 H locs ls hM hl h
    rw [fm_steps_88] at h
    refine lv_iload_n hx hb dX12_steps_88 rfl (lv_at hl 3 rfl) ?_
    refine lv_aload_n hx hb dX12_steps_89 rfl (lv_at hl 0 rfl) ?_
    refine m_geti C hM (k := 9) (Or.inl rfl) rfl dX12_steps_90 ?_
    refine lv_icmp_ge (tgt := 173) hx hb dX12_steps_93 (by decide) (fun c_1 => ?_) (fun c_1 => ?_)
    · have h := br_T c_1 h
      refine lv_iinc (v := (x2 + (1 : Int32))) (lv' := [(2, .int (x2 + (1 : Int32))), (0, .ref (α 0)), (1, .int x1), (3, .int x3)]) hx hb dX12_steps_173 hl (k := 2) rfl rfl (by decide) rfl (fun ls hl => ?_)
      refine lv_goto (tgt := 78) hx hb dX12_steps_176 (by decide) ?_
      exact hk_78 _ _ _ _ _ _ hM (lv_sub hl [1, 2, 0] rfl) h
    · have h := br_F c_1 h
      refine lv_iconst (v := (0 : Int32)) hx hb dX12_steps_96 (by decide) ?_
      refine lv_istore (lv' := [(4, .int (0 : Int32)), (0, .ref (α 0)), (1, .int x1), (2, .int x2), (3, .int x3)]) hx hb dX12_steps_97 hl (by decide) rfl (fun ls hl => ?_)
      exact gm_steps_99 C hr hlk hk_78 ih _ _ _ _ _ _ _ _ _ hM (lv_sub hl [1, 2, 3, 4, 0] rfl) h
def fm_steps_211 (σ : mS) (s0 : Int32) : Option (Int32 × mS) :=
  some (s0, σ)
set_option maxHeartbeats 4000000 in
set_option maxRecDepth 100000 in
theorem gm_steps_211 {p : Program} {l : Launch} {e : Env} {s : State} {m : MethodId} {args : Array Value} {below : List Frame} {meth : Method} {c : Code} {D : va_G} {ca : Nat → ClassId} {α : Nat → Nat} {A : Nat → Prop} {o : Int32 × mS} (C : mC p s m args c cX12_steps 6 D ca) (hr : meth.sig.returnType = some .int) (hlk : meth.locks = false) : ∀ (σ : mS) (s0 : Int32) (H : Heap) (locs : List Loc) (ls : Array Slot), mM D ca α A s.heap σ H locs → lv_has ls 6 [(0, .ref (α 0))] → fm_steps_211 σ s0 = some o → mGI p l e rmX12_steps s m args below meth c D ca α A o H locs 211 ls [.int s0] := by
  have hx := C.1
  have hb := C.2.1
  intro σ s0 H locs ls hM hl h
  unfold fm_steps_211 at h
  exact m_ri C hM hr hlk dX12_steps_211 h
def fm_steps_195 (σ : mS) (x1 : Int32) (s0 : Int32) : Option (Int32 × mS) :=
  (fm_isWrong σ s0).bind fun r_1 =>
  if r_1.1 = 0 then
    if x1 < 0 ∨ 12 ≤ x1.toNatClampNeg then none else
    fm_steps_211 r_1.2 (r_1.2.2.2.1 50 x1.toNatClampNeg)
  else
    fm_steps_211 r_1.2 (0 : Int32)
set_option maxHeartbeats 4000000 in
set_option maxRecDepth 100000 in
theorem gm_steps_195 {p : Program} {l : Launch} {e : Env} {s : State} {m : MethodId} {args : Array Value} {below : List Frame} {meth : Method} {c : Code} {D : va_G} {ca : Nat → ClassId} {α : Nat → Nat} {A : Nat → Prop} {o : Int32 × mS} (C : mC p s m args c cX12_steps 6 D ca) (hr : meth.sig.returnType = some .int) (hlk : meth.locks = false) : ∀ (σ : mS) (x1 : Int32) (s0 : Int32) (H : Heap) (locs : List Loc) (ls : Array Slot), mM D ca α A s.heap σ H locs → lv_has ls 6 [(0, .ref (α 0)), (1, .int x1)] → fm_steps_195 σ x1 s0 = some o → mGI p l e rmX12_steps s m args below meth c D ca α A o H locs 195 ls [.int s0, .ref (α 0)] := by
  have hx := C.1
  have hb := C.2.1
  intro σ x1 s0 H locs ls hM hl h
  unfold fm_steps_195 at h
  obtain ⟨r_1, hr_1, h⟩ := bd_of h
  refine m_cVi (As := [.int s0]) (rest := []) C hM (cm_isWrong l D ca α A σ s0 r_1 hr_1) mwy_isWrong ⟨rfl, rfl⟩ ⟨Nat.le_of_ble_eq_true rfl, Nat.le_of_ble_eq_true rfl⟩ rfl rfl (Nat.le_of_ble_eq_true rfl) hl.1 dX12_steps_195 ⟨rfl, rfl⟩ (fun H locs hM => ?_)
  refine lv_if_eq (tgt := 205) hx hb dX12_steps_198 (by decide) (fun c_1 => ?_) (fun c_1 => ?_)
  · have h := br_T c_1 h
    refine lv_aload_n hx hb dX12_steps_205 rfl (lv_at hl 0 rfl) ?_
    refine m_geta C hM (k := 50) (by decide) rfl dX12_steps_206 ?_
    refine lv_iload_n hx hb dX12_steps_209 rfl (lv_at hl 1 rfl) ?_
    obtain ⟨c_2, h⟩ := ko_of h
    refine m_iald C hM (k := 50) rfl c_2 dX12_steps_210 ?_
    exact gm_steps_211 C hr hlk  _ _ _ _ _ hM (lv_sub hl [0] rfl) h
  · have h := br_F c_1 h
    refine lv_iconst (v := (0 : Int32)) hx hb dX12_steps_201 (by decide) ?_
    refine lv_goto (tgt := 211) hx hb dX12_steps_202 (by decide) ?_
    exact gm_steps_211 C hr hlk  _ _ _ _ _ hM (lv_sub hl [0] rfl) h
def fm_steps_78 : Nat → mS → Int32 → Int32 → Option (Int32 × mS)
  | 0, _, _, _ => none
  | n + 1, σ, x1, x2 =>
    if (σ.1 9) ≤ x2 then
      if x1 < 0 ∨ 12 ≤ x1.toNatClampNeg then none else
      if (σ.2.2.1 50 x1.toNatClampNeg) = (-1 : Int32) then
        fm_steps_195 σ x1 (3 : Int32)
      else
        fm_steps_195 σ x1 (0 : Int32)
    else
      fm_steps_88 (fm_steps_78 n) 3000 σ x1 x2 (0 : Int32)
set_option maxHeartbeats 4000000 in
set_option maxRecDepth 100000 in
theorem gm_steps_78 {p : Program} {l : Launch} {e : Env} {s : State} {m : MethodId} {args : Array Value} {below : List Frame} {meth : Method} {c : Code} {D : va_G} {ca : Nat → ClassId} {α : Nat → Nat} {A : Nat → Prop} {o : Int32 × mS} (C : mC p s m args c cX12_steps 6 D ca) (hr : meth.sig.returnType = some .int) (hlk : meth.locks = false) : ∀ (n : Nat) (σ : mS) (x1 : Int32) (x2 : Int32) (H : Heap) (locs : List Loc) (ls : Array Slot), mM D ca α A s.heap σ H locs → lv_has ls 6 [(0, .ref (α 0)), (1, .int x1), (2, .int x2)] → fm_steps_78 n σ x1 x2 = some o → mGI p l e rmX12_steps s m args below meth c D ca α A o H locs 78 ls [] := by
  have hx := C.1
  have hb := C.2.1
  intro n
  induction n with
  | zero =>
    intro σ x1 x2 H locs ls hM hl h
    cases h
  | succ n ih =>
    intro σ x1 x2 H locs ls hM hl h
    rw [fm_steps_78] at h
    refine lv_iload_n hx hb dX12_steps_78 rfl (lv_at hl 2 rfl) ?_
    refine lv_aload_n hx hb dX12_steps_79 rfl (lv_at hl 0 rfl) ?_
    refine m_geti C hM (k := 9) (Or.inl rfl) rfl dX12_steps_80 ?_
    refine lv_icmp_ge (tgt := 179) hx hb dX12_steps_83 (by decide) (fun c_1 => ?_) (fun c_1 => ?_)
    · have h := br_T c_1 h
      refine lv_aload_n hx hb dX12_steps_179 rfl (lv_at hl 0 rfl) ?_
      refine lv_aload_n hx hb dX12_steps_180 rfl (lv_at hl 0 rfl) ?_
      refine m_geta C hM (k := 50) (by decide) rfl dX12_steps_181 ?_
      refine lv_iload_n hx hb dX12_steps_184 rfl (lv_at hl 1 rfl) ?_
      obtain ⟨c_2, h⟩ := ko_of h
      refine m_iald C hM (k := 50) rfl c_2 dX12_steps_185 ?_
      refine lv_iconst (v := (-1 : Int32)) hx hb dX12_steps_186 (by decide) ?_
      refine lv_icmp_ne (tgt := 194) hx hb dX12_steps_187 (by decide) (fun c_3 => ?_) (fun c_3 => ?_)
      · have h := br_F c_3 h
        refine lv_iconst (v := (0 : Int32)) hx hb dX12_steps_194 (by decide) ?_
        exact gm_steps_195 C hr hlk  _ _ _ _ _ _ hM (lv_sub hl [0, 1] rfl) h
      · have h := br_T c_3 h
        refine lv_iconst (v := (3 : Int32)) hx hb dX12_steps_190 (by decide) ?_
        refine lv_goto (tgt := 195) hx hb dX12_steps_191 (by decide) ?_
        exact gm_steps_195 C hr hlk  _ _ _ _ _ _ hM (lv_sub hl [0, 1] rfl) h
    · have h := br_F c_1 h
      refine lv_iconst (v := (0 : Int32)) hx hb dX12_steps_86 (by decide) ?_
      refine lv_istore_n (lv' := [(3, .int (0 : Int32)), (0, .ref (α 0)), (1, .int x1), (2, .int x2)]) hx hb dX12_steps_87 rfl hl (by decide) rfl (fun ls hl => ?_)
      exact gm_steps_88 C hr hlk ih _ _ _ _ _ _ _ _ hM (lv_sub hl [1, 2, 3, 0] rfl) h
def fm_steps_43 : Nat → mS → Int32 → Int32 → Option (Int32 × mS)
  | 0, _, _, _ => none
  | n + 1, σ, x1, x2 =>
    if (σ.1 9) ≤ x2 then
      fm_steps_78 3000 σ x1 (0 : Int32)
    else
      if x2 = (σ.1 35) then
        fm_steps_69 (fm_steps_43 n) σ x1 x2 (0 : Int32) x2
      else
        fm_steps_69 (fm_steps_43 n) σ x1 x2 (-1 : Int32) x2
set_option maxHeartbeats 4000000 in
set_option maxRecDepth 100000 in
theorem gm_steps_43 {p : Program} {l : Launch} {e : Env} {s : State} {m : MethodId} {args : Array Value} {below : List Frame} {meth : Method} {c : Code} {D : va_G} {ca : Nat → ClassId} {α : Nat → Nat} {A : Nat → Prop} {o : Int32 × mS} (C : mC p s m args c cX12_steps 6 D ca) (hr : meth.sig.returnType = some .int) (hlk : meth.locks = false) : ∀ (n : Nat) (σ : mS) (x1 : Int32) (x2 : Int32) (H : Heap) (locs : List Loc) (ls : Array Slot), mM D ca α A s.heap σ H locs → lv_has ls 6 [(0, .ref (α 0)), (1, .int x1), (2, .int x2)] → fm_steps_43 n σ x1 x2 = some o → mGI p l e rmX12_steps s m args below meth c D ca α A o H locs 43 ls [] := by
  have hx := C.1
  have hb := C.2.1
  intro n
  induction n with
  | zero =>
    intro σ x1 x2 H locs ls hM hl h
    cases h
  | succ n ih =>
    intro σ x1 x2 H locs ls hM hl h
    rw [fm_steps_43] at h
    refine lv_iload_n hx hb dX12_steps_43 rfl (lv_at hl 2 rfl) ?_
    refine lv_aload_n hx hb dX12_steps_44 rfl (lv_at hl 0 rfl) ?_
    refine m_geti C hM (k := 9) (Or.inl rfl) rfl dX12_steps_45 ?_
    refine lv_icmp_ge (tgt := 76) hx hb dX12_steps_48 (by decide) (fun c_1 => ?_) (fun c_1 => ?_)
    · have h := br_T c_1 h
      refine lv_iconst (v := (0 : Int32)) hx hb dX12_steps_76 (by decide) ?_
      refine lv_istore_n (lv' := [(2, .int (0 : Int32)), (0, .ref (α 0)), (1, .int x1)]) hx hb dX12_steps_77 rfl hl (by decide) rfl (fun ls hl => ?_)
      exact gm_steps_78 C hr hlk  _ _ _ _ _ _ _ hM (lv_sub hl [1, 2, 0] rfl) h
    · have h := br_F c_1 h
      refine lv_aload_n hx hb dX12_steps_51 rfl (lv_at hl 0 rfl) ?_
      refine m_geta C hM (k := 50) (by decide) rfl dX12_steps_52 ?_
      refine lv_iload_n hx hb dX12_steps_55 rfl (lv_at hl 2 rfl) ?_
      refine lv_iload_n hx hb dX12_steps_56 rfl (lv_at hl 2 rfl) ?_
      refine lv_aload_n hx hb dX12_steps_57 rfl (lv_at hl 0 rfl) ?_
      refine m_geti C hM (k := 35) (Or.inl rfl) rfl dX12_steps_58 ?_
      refine lv_icmp_ne (tgt := 68) hx hb dX12_steps_61 (by decide) (fun c_2 => ?_) (fun c_2 => ?_)
      · have h := br_F c_2 h
        refine lv_iconst (v := (-1 : Int32)) hx hb dX12_steps_68 (by decide) ?_
        exact gm_steps_69 C hr hlk ih _ _ _ _ _ _ _ _ hM (lv_sub hl [0, 1, 2] rfl) h
      · have h := br_T c_2 h
        refine lv_iconst (v := (0 : Int32)) hx hb dX12_steps_64 (by decide) ?_
        refine lv_goto (tgt := 69) hx hb dX12_steps_65 (by decide) ?_
        exact gm_steps_69 C hr hlk ih _ _ _ _ _ _ _ _ hM (lv_sub hl [0, 1, 2] rfl) h
def fm_steps_25 (σ : mS) (x1 : Int32) (s0 : Int32) : Option (Int32 × mS) :=
  (fm_isWrong σ s0).bind fun r_1 =>
  if r_1.1 = 0 then
    (fm_takesUp r_1.2 (r_1.2.1 34)).bind fun r_2 =>
    fm_steps_43 3000 r_2 x1 (0 : Int32)
  else
    some ((0 : Int32), r_1.2)
set_option maxHeartbeats 4000000 in
set_option maxRecDepth 100000 in
theorem gm_steps_25 {p : Program} {l : Launch} {e : Env} {s : State} {m : MethodId} {args : Array Value} {below : List Frame} {meth : Method} {c : Code} {D : va_G} {ca : Nat → ClassId} {α : Nat → Nat} {A : Nat → Prop} {o : Int32 × mS} (C : mC p s m args c cX12_steps 6 D ca) (hr : meth.sig.returnType = some .int) (hlk : meth.locks = false) : ∀ (σ : mS) (x1 : Int32) (s0 : Int32) (H : Heap) (locs : List Loc) (ls : Array Slot), mM D ca α A s.heap σ H locs → lv_has ls 6 [(0, .ref (α 0)), (1, .int x1)] → fm_steps_25 σ x1 s0 = some o → mGI p l e rmX12_steps s m args below meth c D ca α A o H locs 25 ls [.int s0, .ref (α 0)] := by
  have hx := C.1
  have hb := C.2.1
  intro σ x1 s0 H locs ls hM hl h
  unfold fm_steps_25 at h
  obtain ⟨r_1, hr_1, h⟩ := bd_of h
  refine m_cVi (As := [.int s0]) (rest := []) C hM (cm_isWrong l D ca α A σ s0 r_1 hr_1) mwy_isWrong ⟨rfl, rfl⟩ ⟨Nat.le_of_ble_eq_true rfl, Nat.le_of_ble_eq_true rfl⟩ rfl rfl (Nat.le_of_ble_eq_true rfl) hl.1 dX12_steps_25 ⟨rfl, rfl⟩ (fun H locs hM => ?_)
  refine lv_if_eq (tgt := 33) hx hb dX12_steps_28 (by decide) (fun c_1 => ?_) (fun c_1 => ?_)
  · have h := br_T c_1 h
    refine lv_aload_n hx hb dX12_steps_33 rfl (lv_at hl 0 rfl) ?_
    refine lv_aload_n hx hb dX12_steps_34 rfl (lv_at hl 0 rfl) ?_
    refine m_geti C hM (k := 34) (Or.inl rfl) rfl dX12_steps_35 ?_
    obtain ⟨r_2, hr_2, h⟩ := bd_of h
    refine m_cVv (As := [.int (r_1.2.1 34)]) (rest := []) C hM (cm_takesUp l D ca α A r_1.2 (r_1.2.1 34) r_2 hr_2) mwy_takesUp ⟨rfl, rfl⟩ ⟨Nat.le_of_ble_eq_true rfl, Nat.le_of_ble_eq_true rfl⟩ rfl rfl (Nat.le_of_ble_eq_true rfl) hl.1 dX12_steps_38 ⟨rfl, rfl⟩ (fun H locs hM => ?_)
    refine lv_iconst (v := (0 : Int32)) hx hb dX12_steps_41 (by decide) ?_
    refine lv_istore_n (lv' := [(2, .int (0 : Int32)), (0, .ref (α 0)), (1, .int x1)]) hx hb dX12_steps_42 rfl hl (by decide) rfl (fun ls hl => ?_)
    exact gm_steps_43 C hr hlk  _ _ _ _ _ _ _ hM (lv_sub hl [1, 2, 0] rfl) h
  · have h := br_F c_1 h
    refine lv_iconst (v := (0 : Int32)) hx hb dX12_steps_31 (by decide) ?_
    exact m_ri C hM hr hlk dX12_steps_32 h
def fm_steps (σ : mS) (x1 : Int32) : Option (Int32 × mS) :=
  (fm_isRoom σ x1).bind fun r_1 =>
  if r_1.1 = 0 then
    fm_steps_25 r_1.2 x1 (1 : Int32)
  else
    if (r_1.2.1 20) = 0 then
      fm_steps_25 r_1.2 x1 (2 : Int32)
    else
      fm_steps_25 r_1.2 x1 (0 : Int32)
set_option maxHeartbeats 4000000 in
set_option maxRecDepth 100000 in
theorem cm_steps (l : Launch) (D : va_G) (ca : Nat → ClassId) (α : Nat → Nat) (A : Nat → Prop) (σ : mS) (x1 : Int32) (o : Int32 × mS) (h : fm_steps σ x1 = some o) : mMetI l yX12_steps cX12_steps 6 (some .int) rmX12_steps D ca α A σ [.int x1] o := by
  refine Met.ofW (cc := cX12_steps) (maxL := 6) (ret := some .int) (by decide) rfl ?_
  intro p e s m args below meth c s₁ B hml hv
  obtain ⟨rfl, hP, hK, hD0⟩ := hv
  have C : mC p s m _ c cX12_steps 6 D ca := ⟨B.exec, B.bytes, hml, findClass_of_methodNamed B.named, fun w hw => atoms_spec (ws := mWs yX12_steps cX12_steps 6 (some .int)) B.pre w (List.mem_cons_of_mem _ hw), hK⟩
  have hM : mM D ca α A s.heap σ s.heap [] := ⟨hP, hD0, va_S.rf⟩
  have hr := B.returns
  have hlk := B.notSynchronized
  have hx := C.1
  have hb := C.2.1
  have hl := lv_entry ([.ref (α 0), .int x1]) (n := 6) (Nat.le_of_ble_eq_true rfl)
  rw [lg_entry_eq]
  generalize (lg_sl ([.ref (α 0), .int x1]) ++ List.replicate (6 - (lg_sl ([.ref (α 0), .int x1])).length) Slot.unset).toArray = ls at hl ⊢
  have hl : lv_has ls 6 [(0, .ref (α 0)), (1, .int x1)] := hl
  unfold fm_steps at h
  refine lv_aload_n hx hb dX12_steps_0 rfl (lv_at hl 0 rfl) ?_
  refine lv_aload_n hx hb dX12_steps_1 rfl (lv_at hl 0 rfl) ?_
  refine lv_iload_n hx hb dX12_steps_2 rfl (lv_at hl 1 rfl) ?_
  obtain ⟨r_1, hr_1, h⟩ := bd_of h
  refine m_cVi (As := [.int x1]) (rest := [.ref (α 0)]) C hM (cm_isRoom l D ca α A σ x1 r_1 hr_1) mwy_isRoom ⟨rfl, rfl⟩ ⟨Nat.le_of_ble_eq_true rfl, Nat.le_of_ble_eq_true rfl⟩ rfl rfl (Nat.le_of_ble_eq_true rfl) hl.1 dX12_steps_3 ⟨rfl, rfl⟩ (fun H locs hM => ?_)
  refine lv_if_ne (tgt := 13) hx hb dX12_steps_6 (by decide) (fun c_1 => ?_) (fun c_1 => ?_)
  · have h := br_F c_1 h
    refine lv_aload_n hx hb dX12_steps_13 rfl (lv_at hl 0 rfl) ?_
    refine m_geti C hM (k := 20) (Or.inr rfl) rfl dX12_steps_14 ?_
    refine lv_if_ne (tgt := 24) hx hb dX12_steps_17 (by decide) (fun c_2 => ?_) (fun c_2 => ?_)
    · have h := br_F c_2 h
      refine lv_iconst (v := (0 : Int32)) hx hb dX12_steps_24 (by decide) ?_
      exact gm_steps_25 C hr hlk  _ _ _ _ _ _ hM (lv_sub hl [0, 1] rfl) h
    · have h := br_T c_2 h
      refine lv_iconst (v := (2 : Int32)) hx hb dX12_steps_20 (by decide) ?_
      refine lv_goto (tgt := 25) hx hb dX12_steps_21 (by decide) ?_
      exact gm_steps_25 C hr hlk  _ _ _ _ _ _ hM (lv_sub hl [0, 1] rfl) h
  · have h := br_T c_1 h
    refine lv_iconst (v := (1 : Int32)) hx hb dX12_steps_9 (by decide) ?_
    refine lv_goto (tgt := 25) hx hb dX12_steps_10 (by decide) ?_
    exact gm_steps_25 C hr hlk  _ _ _ _ _ _ hM (lv_sub hl [0, 1] rfl) h
/-! adds(I)V -/
abbrev rmX12_adds : Room := { frames := 0, cells := 0, slots := 0, locals := 0 }
def fm_adds (σ : mS) (x1 : Int32) : Option (mS) :=
  if (σ.1 52) < 0 ∨ 200 ≤ (σ.1 52).toNatClampNeg then none else
  some (mI (mA σ 51 (σ.1 52).toNatClampNeg x1) 52 (((mA σ 51 (σ.1 52).toNatClampNeg x1).1 52) + (1 : Int32)))
set_option maxHeartbeats 4000000 in
set_option maxRecDepth 100000 in
theorem cm_adds (l : Launch) (D : va_G) (ca : Nat → ClassId) (α : Nat → Nat) (A : Nat → Prop) (σ : mS) (x1 : Int32) (o : mS) (h : fm_adds σ x1 = some o) : mMetV l yX12_adds cX12_adds 2 (none) rmX12_adds D ca α A σ [.int x1] o := by
  refine Met.ofW (cc := cX12_adds) (maxL := 2) (ret := none) (by decide) rfl ?_
  intro p e s m args below meth c s₁ B hml hv
  obtain ⟨rfl, hP, hK, hD0⟩ := hv
  have C : mC p s m _ c cX12_adds 2 D ca := ⟨B.exec, B.bytes, hml, findClass_of_methodNamed B.named, fun w hw => atoms_spec (ws := mWs yX12_adds cX12_adds 2 (none)) B.pre w (List.mem_cons_of_mem _ hw), hK⟩
  have hM : mM D ca α A s.heap σ s.heap [] := ⟨hP, hD0, va_S.rf⟩
  have hr := B.returns
  have hlk := B.notSynchronized
  have hx := C.1
  have hb := C.2.1
  have hl := lv_entry ([.ref (α 0), .int x1]) (n := 2) (Nat.le_of_ble_eq_true rfl)
  rw [lg_entry_eq]
  generalize (lg_sl ([.ref (α 0), .int x1]) ++ List.replicate (2 - (lg_sl ([.ref (α 0), .int x1])).length) Slot.unset).toArray = ls at hl ⊢
  have hl : lv_has ls 2 [(0, .ref (α 0)), (1, .int x1)] := hl
  unfold fm_adds at h
  refine lv_aload_n hx hb dX12_adds_0 rfl (lv_at hl 0 rfl) ?_
  refine m_geta C hM (k := 51) (by decide) rfl dX12_adds_1 ?_
  refine lv_aload_n hx hb dX12_adds_4 rfl (lv_at hl 0 rfl) ?_
  refine m_geti C hM (k := 52) (Or.inl rfl) rfl dX12_adds_5 ?_
  refine lv_iload_n hx hb dX12_adds_8 rfl (lv_at hl 1 rfl) ?_
  obtain ⟨c_1, h⟩ := ko_of h
  refine m_iast C hM (k := 51) rfl c_1 dX12_adds_9 (fun H locs hM => ?_)
  refine lv_aload_n hx hb dX12_adds_10 rfl (lv_at hl 0 rfl) ?_
  refine lv_dup hx hb dX12_adds_11 rfl ?_
  refine m_geti C hM (k := 52) (Or.inl rfl) rfl dX12_adds_12 ?_
  refine lv_iconst (v := (1 : Int32)) hx hb dX12_adds_15 (by decide) ?_
  refine lv_iadd hx hb dX12_adds_16 ?_
  refine m_puti C hM (k := 52) rfl rfl dX12_adds_17 (fun H locs hM => ?_)
  exact m_rv C hM hr hlk dX12_adds_20 h
theorem mwy_adds : mCallV RX12 333 yX12_adds cX12_adds 2 (none) 1 := ⟨⟨wl_in (i := 2393) (by decide +kernel), wl_in (i := 2395) (by decide +kernel), wl_inp (i := 69) (by decide +kernel), wl_in (i := 16) (by decide +kernel), wl_in (i := 2396) (by decide +kernel)⟩, rfl, by decide, by decide, by decide +kernel⟩
/-! addsAll(IIIII)V -/
abbrev rmX12_addsAll : Room := { frames := 1, cells := 0, slots := 0, locals := 21 }
def fm_addsAll_37 (σ : mS) : Option (mS) :=
  some σ
set_option maxHeartbeats 4000000 in
set_option maxRecDepth 100000 in
theorem gm_addsAll_37 {p : Program} {l : Launch} {e : Env} {s : State} {m : MethodId} {args : Array Value} {below : List Frame} {meth : Method} {c : Code} {D : va_G} {ca : Nat → ClassId} {α : Nat → Nat} {A : Nat → Prop} {o : mS} (C : mC p s m args c cX12_addsAll 6 D ca) (hr : meth.sig.returnType = none) (hlk : meth.locks = false) : ∀ (σ : mS) (H : Heap) (locs : List Loc) (ls : Array Slot), mM D ca α A s.heap σ H locs → lv_has ls 6 [(0, .ref (α 0))] → fm_addsAll_37 σ = some o → mGV p l e rmX12_addsAll s m args below meth c D ca α A o H locs 37 ls [] := by
  have hx := C.1
  have hb := C.2.1
  intro σ H locs ls hM hl h
  unfold fm_addsAll_37 at h
  exact m_rv C hM hr hlk dX12_addsAll_37 h
def fm_addsAll_26 (σ : mS) (x5 : Int32) : Option (mS) :=
  if x5 ≤ 0 then
    fm_addsAll_37 σ
  else
    (fm_adds σ x5).bind fun r_1 =>
    fm_addsAll_37 r_1
set_option maxHeartbeats 4000000 in
set_option maxRecDepth 100000 in
theorem gm_addsAll_26 {p : Program} {l : Launch} {e : Env} {s : State} {m : MethodId} {args : Array Value} {below : List Frame} {meth : Method} {c : Code} {D : va_G} {ca : Nat → ClassId} {α : Nat → Nat} {A : Nat → Prop} {o : mS} (C : mC p s m args c cX12_addsAll 6 D ca) (hr : meth.sig.returnType = none) (hlk : meth.locks = false) : ∀ (σ : mS) (x5 : Int32) (H : Heap) (locs : List Loc) (ls : Array Slot), mM D ca α A s.heap σ H locs → lv_has ls 6 [(0, .ref (α 0)), (5, .int x5)] → fm_addsAll_26 σ x5 = some o → mGV p l e rmX12_addsAll s m args below meth c D ca α A o H locs 26 ls [] := by
  have hx := C.1
  have hb := C.2.1
  intro σ x5 H locs ls hM hl h
  unfold fm_addsAll_26 at h
  refine lv_iload hx hb dX12_addsAll_26 (lv_at hl 1 rfl) ?_
  refine lv_if_le (tgt := 37) hx hb dX12_addsAll_28 (by decide) (fun c_1 => ?_) (fun c_1 => ?_)
  · have h := br_T c_1 h
    exact gm_addsAll_37 C hr hlk  _ _ _ _ hM (lv_sub hl [0] rfl) h
  · have h := br_F c_1 h
    refine lv_aload_n hx hb dX12_addsAll_31 rfl (lv_at hl 0 rfl) ?_
    refine lv_iload hx hb dX12_addsAll_32 (lv_at hl 1 rfl) ?_
    obtain ⟨r_1, hr_1, h⟩ := bd_of h
    refine m_cVv (As := [.int x5]) (rest := []) C hM (cm_adds l D ca α A σ x5 r_1 hr_1) mwy_adds ⟨rfl, rfl⟩ ⟨Nat.le_of_ble_eq_true rfl, Nat.le_of_ble_eq_true rfl⟩ rfl rfl (Nat.le_of_ble_eq_true rfl) hl.1 dX12_addsAll_34 ⟨rfl, rfl⟩ (fun H locs hM => ?_)
    exact gm_addsAll_37 C hr hlk  _ _ _ _ hM (lv_sub hl [0] rfl) h
def fm_addsAll (σ : mS) (x1 : Int32) (x2 : Int32) (x3 : Int32) (x4 : Int32) (x5 : Int32) : Option (mS) :=
  (fm_adds σ x1).bind fun r_1 =>
  (fm_adds r_1 x2).bind fun r_2 =>
  (fm_adds r_2 x3).bind fun r_3 =>
  if x4 ≤ 0 then
    fm_addsAll_26 r_3 x5
  else
    (fm_adds r_3 x4).bind fun r_4 =>
    fm_addsAll_26 r_4 x5
set_option maxHeartbeats 4000000 in
set_option maxRecDepth 100000 in
theorem cm_addsAll (l : Launch) (D : va_G) (ca : Nat → ClassId) (α : Nat → Nat) (A : Nat → Prop) (σ : mS) (x1 : Int32) (x2 : Int32) (x3 : Int32) (x4 : Int32) (x5 : Int32) (o : mS) (h : fm_addsAll σ x1 x2 x3 x4 x5 = some o) : mMetV l yX12_addsAll cX12_addsAll 6 (none) rmX12_addsAll D ca α A σ [.int x1, .int x2, .int x3, .int x4, .int x5] o := by
  refine Met.ofW (cc := cX12_addsAll) (maxL := 6) (ret := none) (by decide) rfl ?_
  intro p e s m args below meth c s₁ B hml hv
  obtain ⟨rfl, hP, hK, hD0⟩ := hv
  have C : mC p s m _ c cX12_addsAll 6 D ca := ⟨B.exec, B.bytes, hml, findClass_of_methodNamed B.named, fun w hw => atoms_spec (ws := mWs yX12_addsAll cX12_addsAll 6 (none)) B.pre w (List.mem_cons_of_mem _ hw), hK⟩
  have hM : mM D ca α A s.heap σ s.heap [] := ⟨hP, hD0, va_S.rf⟩
  have hr := B.returns
  have hlk := B.notSynchronized
  have hx := C.1
  have hb := C.2.1
  have hl := lv_entry ([.ref (α 0), .int x1, .int x2, .int x3, .int x4, .int x5]) (n := 6) (Nat.le_of_ble_eq_true rfl)
  rw [lg_entry_eq]
  generalize (lg_sl ([.ref (α 0), .int x1, .int x2, .int x3, .int x4, .int x5]) ++ List.replicate (6 - (lg_sl ([.ref (α 0), .int x1, .int x2, .int x3, .int x4, .int x5])).length) Slot.unset).toArray = ls at hl ⊢
  have hl : lv_has ls 6 [(0, .ref (α 0)), (1, .int x1), (2, .int x2), (3, .int x3), (4, .int x4), (5, .int x5)] := hl
  unfold fm_addsAll at h
  refine lv_aload_n hx hb dX12_addsAll_0 rfl (lv_at hl 0 rfl) ?_
  refine lv_iload_n hx hb dX12_addsAll_1 rfl (lv_at hl 1 rfl) ?_
  obtain ⟨r_1, hr_1, h⟩ := bd_of h
  refine m_cVv (As := [.int x1]) (rest := []) C hM (cm_adds l D ca α A σ x1 r_1 hr_1) mwy_adds ⟨rfl, rfl⟩ ⟨Nat.le_of_ble_eq_true rfl, Nat.le_of_ble_eq_true rfl⟩ rfl rfl (Nat.le_of_ble_eq_true rfl) hl.1 dX12_addsAll_2 ⟨rfl, rfl⟩ (fun H locs hM => ?_)
  refine lv_aload_n hx hb dX12_addsAll_5 rfl (lv_at hl 0 rfl) ?_
  refine lv_iload_n hx hb dX12_addsAll_6 rfl (lv_at hl 2 rfl) ?_
  obtain ⟨r_2, hr_2, h⟩ := bd_of h
  refine m_cVv (As := [.int x2]) (rest := []) C hM (cm_adds l D ca α A r_1 x2 r_2 hr_2) mwy_adds ⟨rfl, rfl⟩ ⟨Nat.le_of_ble_eq_true rfl, Nat.le_of_ble_eq_true rfl⟩ rfl rfl (Nat.le_of_ble_eq_true rfl) hl.1 dX12_addsAll_7 ⟨rfl, rfl⟩ (fun H locs hM => ?_)
  refine lv_aload_n hx hb dX12_addsAll_10 rfl (lv_at hl 0 rfl) ?_
  refine lv_iload_n hx hb dX12_addsAll_11 rfl (lv_at hl 3 rfl) ?_
  obtain ⟨r_3, hr_3, h⟩ := bd_of h
  refine m_cVv (As := [.int x3]) (rest := []) C hM (cm_adds l D ca α A r_2 x3 r_3 hr_3) mwy_adds ⟨rfl, rfl⟩ ⟨Nat.le_of_ble_eq_true rfl, Nat.le_of_ble_eq_true rfl⟩ rfl rfl (Nat.le_of_ble_eq_true rfl) hl.1 dX12_addsAll_12 ⟨rfl, rfl⟩ (fun H locs hM => ?_)
  refine lv_iload hx hb dX12_addsAll_15 (lv_at hl 4 rfl) ?_
  refine lv_if_le (tgt := 26) hx hb dX12_addsAll_17 (by decide) (fun c_1 => ?_) (fun c_1 => ?_)
  · have h := br_T c_1 h
    exact gm_addsAll_26 C hr hlk  _ _ _ _ _ hM (lv_sub hl [0, 5] rfl) h
  · have h := br_F c_1 h
    refine lv_aload_n hx hb dX12_addsAll_20 rfl (lv_at hl 0 rfl) ?_
    refine lv_iload hx hb dX12_addsAll_21 (lv_at hl 4 rfl) ?_
    obtain ⟨r_4, hr_4, h⟩ := bd_of h
    refine m_cVv (As := [.int x4]) (rest := []) C hM (cm_adds l D ca α A r_3 x4 r_4 hr_4) mwy_adds ⟨rfl, rfl⟩ ⟨Nat.le_of_ble_eq_true rfl, Nat.le_of_ble_eq_true rfl⟩ rfl rfl (Nat.le_of_ble_eq_true rfl) hl.1 dX12_addsAll_23 ⟨rfl, rfl⟩ (fun H locs hM => ?_)
    exact gm_addsAll_26 C hr hlk  _ _ _ _ _ hM (lv_sub hl [0, 5] rfl) h
theorem mwy_addsAll : mCallV RX12 336 yX12_addsAll cX12_addsAll 6 (none) 5 := ⟨⟨wl_in (i := 2389) (by decide +kernel), wl_in (i := 2391) (by decide +kernel), wl_inp (i := 68) (by decide +kernel), wl_in (i := 16) (by decide +kernel), wl_in (i := 2392) (by decide +kernel)⟩, rfl, by decide, by decide, by decide +kernel⟩
