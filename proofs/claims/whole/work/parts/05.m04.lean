/-! The reference's methods: what each makes of the state (fm_..), as the bytecode has it; and that it does (cm_..). -/

/-! isPart(IJ)Z -/
abbrev rmX12_isPart : Room := { frames := 0, cells := 0, slots := 0, locals := 0 }
def fm_isPart_68 (k_11 : mS → Int32 → Int64 → Int64 → Int32 → Option (Int32 × mS)) (σ : mS) (x1 : Int32) (x2 : Int64) (x6 : Int32) (s0 : Int64) : Option (Int32 × mS) :=
  k_11 σ x1 x2 s0 (x6 + (1 : Int32))
set_option maxHeartbeats 4000000 in
set_option maxRecDepth 100000 in
theorem gm_isPart_68 {p : Program} {l : Launch} {e : Env} {s : State} {m : MethodId} {args : Array Value} {below : List Frame} {meth : Method} {c : Code} {D : va_G} {ca : Nat → ClassId} {α : Nat → Nat} {A : Nat → Prop} {o : Int32 × mS} {k_11 : mS → Int32 → Int64 → Int64 → Int32 → Option (Int32 × mS)} (C : mC p s m args c cX12_isPart 7 D ca) (hr : meth.sig.returnType = some .boolean) (hlk : meth.locks = false) (hk_11 : ∀ (σ : mS) (x1 : Int32) (x2 : Int64) (x4 : Int64) (x6 : Int32) (H : Heap) (locs : List Loc) (ls : Array Slot), mM D ca α A s.heap σ H locs → lv_has ls 7 [(0, .ref (α 0)), (1, .int x1), (2, .long x2), (4, .long x4), (6, .int x6)] → k_11 σ x1 x2 x4 x6 = some o → mGI p l e rmX12_isPart s m args below meth c D ca α A o H locs 11 ls []) : ∀ (σ : mS) (x1 : Int32) (x2 : Int64) (x6 : Int32) (s0 : Int64) (H : Heap) (locs : List Loc) (ls : Array Slot), mM D ca α A s.heap σ H locs → lv_has ls 7 [(0, .ref (α 0)), (1, .int x1), (2, .long x2), (6, .int x6)] → fm_isPart_68 k_11 σ x1 x2 x6 s0 = some o → mGI p l e rmX12_isPart s m args below meth c D ca α A o H locs 68 ls [.long s0] := by
  have hx := C.1
  have hb := C.2.1
  intro σ x1 x2 x6 s0 H locs ls hM hl h
  unfold fm_isPart_68 at h
  refine lv_lstore (lv' := [(4, .long s0), (0, .ref (α 0)), (1, .int x1), (2, .long x2), (6, .int x6)]) hx hb dX12_isPart_68 hl (by decide) rfl (fun ls hl => ?_)
  refine lv_iinc (v := (x6 + (1 : Int32))) (lv' := [(6, .int (x6 + (1 : Int32))), (4, .long s0), (0, .ref (α 0)), (1, .int x1), (2, .long x2)]) hx hb dX12_isPart_70 hl (k := 4) rfl rfl (by decide) rfl (fun ls hl => ?_)
  refine lv_goto (tgt := 11) hx hb dX12_isPart_73 (by decide) ?_
  exact hk_11 _ _ _ _ _ _ _ _ hM (lv_sub hl [2, 3, 4, 1, 0] rfl) h
def fm_isPart_43 (k_11 : mS → Int32 → Int64 → Int64 → Int32 → Option (Int32 × mS)) (σ : mS) (x1 : Int32) (x2 : Int64) (x6 : Int32) : Option (Int32 × mS) :=
  fm_isPart_68 k_11 σ x1 x2 x6 (-1 : Int64)
set_option maxHeartbeats 4000000 in
set_option maxRecDepth 100000 in
theorem gm_isPart_43 {p : Program} {l : Launch} {e : Env} {s : State} {m : MethodId} {args : Array Value} {below : List Frame} {meth : Method} {c : Code} {D : va_G} {ca : Nat → ClassId} {α : Nat → Nat} {A : Nat → Prop} {o : Int32 × mS} {k_11 : mS → Int32 → Int64 → Int64 → Int32 → Option (Int32 × mS)} (C : mC p s m args c cX12_isPart 7 D ca) (hr : meth.sig.returnType = some .boolean) (hlk : meth.locks = false) (hk_11 : ∀ (σ : mS) (x1 : Int32) (x2 : Int64) (x4 : Int64) (x6 : Int32) (H : Heap) (locs : List Loc) (ls : Array Slot), mM D ca α A s.heap σ H locs → lv_has ls 7 [(0, .ref (α 0)), (1, .int x1), (2, .long x2), (4, .long x4), (6, .int x6)] → k_11 σ x1 x2 x4 x6 = some o → mGI p l e rmX12_isPart s m args below meth c D ca α A o H locs 11 ls []) : ∀ (σ : mS) (x1 : Int32) (x2 : Int64) (x6 : Int32) (H : Heap) (locs : List Loc) (ls : Array Slot), mM D ca α A s.heap σ H locs → lv_has ls 7 [(0, .ref (α 0)), (1, .int x1), (2, .long x2), (6, .int x6)] → fm_isPart_43 k_11 σ x1 x2 x6 = some o → mGI p l e rmX12_isPart s m args below meth c D ca α A o H locs 43 ls [] := by
  have hx := C.1
  have hb := C.2.1
  intro σ x1 x2 x6 H locs ls hM hl h
  unfold fm_isPart_43 at h
  refine lv_ldc2 (own := RX12) (v := (-1 : Int64)) hx hb C.2.2.2.1 (C.2.2.2.2.1 _ (wl_in (i := 2152) (by decide +kernel))) dX12_isPart_43 ?_
  refine lv_goto (tgt := 68) hx hb dX12_isPart_46 (by decide) ?_
  exact gm_isPart_68 C hr hlk hk_11 _ _ _ _ _ _ _ _ hM (lv_sub hl [0, 1, 2, 3] rfl) h
def fm_isPart_88 (σ : mS) (s0 : Int32) : Option (Int32 × mS) :=
  if s0 &&& 1 = s0 then some (s0, σ) else none
set_option maxHeartbeats 4000000 in
set_option maxRecDepth 100000 in
theorem gm_isPart_88 {p : Program} {l : Launch} {e : Env} {s : State} {m : MethodId} {args : Array Value} {below : List Frame} {meth : Method} {c : Code} {D : va_G} {ca : Nat → ClassId} {α : Nat → Nat} {A : Nat → Prop} {o : Int32 × mS} (C : mC p s m args c cX12_isPart 7 D ca) (hr : meth.sig.returnType = some .boolean) (hlk : meth.locks = false) : ∀ (σ : mS) (s0 : Int32) (H : Heap) (locs : List Loc) (ls : Array Slot), mM D ca α A s.heap σ H locs → lv_has ls 7 [(0, .ref (α 0))] → fm_isPart_88 σ s0 = some o → mGI p l e rmX12_isPart s m args below meth c D ca α A o H locs 88 ls [.int s0] := by
  have hx := C.1
  have hb := C.2.1
  intro σ s0 H locs ls hM hl h
  unfold fm_isPart_88 at h
  exact m_rz C hM hr hlk dX12_isPart_88 h
def fm_isPart_11 : Nat → mS → Int32 → Int64 → Int64 → Int32 → Option (Int32 × mS)
  | 0, _, _, _, _, _ => none
  | n + 1, σ, x1, x2, x4, x6 =>
    if x1 < 0 ∨ 31 ≤ x1.toNatClampNeg then none else
    if (σ.2.2.1 41 x1.toNatClampNeg) ≤ x6 then
      if (lg_cmp x4 x2) = 0 then
        fm_isPart_88 σ (1 : Int32)
      else
        fm_isPart_88 σ (0 : Int32)
    else
      if x6 < 0 ∨ 30 ≤ x6.toNatClampNeg then none else
      if (σ.2.2.1 1 x6.toNatClampNeg) = (32 : Int32) then
        fm_isPart_43 (fm_isPart_11 n) σ x1 x2 x6
      else
        if (lg_cmp x4 (1125899906842624 : Int64)) ≤ 0 then
          if x6 < 0 ∨ 30 ≤ x6.toNatClampNeg then none else
          fm_isPart_68 (fm_isPart_11 n) σ x1 x2 x6 ((((32 : Int64) * x4) + ((σ.2.2.1 1 x6.toNatClampNeg).toInt64)) - (96 : Int64))
        else
          fm_isPart_43 (fm_isPart_11 n) σ x1 x2 x6
set_option maxHeartbeats 4000000 in
set_option maxRecDepth 100000 in
theorem gm_isPart_11 {p : Program} {l : Launch} {e : Env} {s : State} {m : MethodId} {args : Array Value} {below : List Frame} {meth : Method} {c : Code} {D : va_G} {ca : Nat → ClassId} {α : Nat → Nat} {A : Nat → Prop} {o : Int32 × mS} (C : mC p s m args c cX12_isPart 7 D ca) (hr : meth.sig.returnType = some .boolean) (hlk : meth.locks = false) : ∀ (n : Nat) (σ : mS) (x1 : Int32) (x2 : Int64) (x4 : Int64) (x6 : Int32) (H : Heap) (locs : List Loc) (ls : Array Slot), mM D ca α A s.heap σ H locs → lv_has ls 7 [(0, .ref (α 0)), (1, .int x1), (2, .long x2), (4, .long x4), (6, .int x6)] → fm_isPart_11 n σ x1 x2 x4 x6 = some o → mGI p l e rmX12_isPart s m args below meth c D ca α A o H locs 11 ls [] := by
  have hx := C.1
  have hb := C.2.1
  intro n
  induction n with
  | zero =>
    intro σ x1 x2 x4 x6 H locs ls hM hl h
    cases h
  | succ n ih =>
    intro σ x1 x2 x4 x6 H locs ls hM hl h
    rw [fm_isPart_11] at h
    refine lv_iload hx hb dX12_isPart_11 (lv_at hl 4 rfl) ?_
    refine lv_aload_n hx hb dX12_isPart_13 rfl (lv_at hl 0 rfl) ?_
    refine m_geta C hM (k := 41) (by decide) rfl dX12_isPart_14 ?_
    refine lv_iload_n hx hb dX12_isPart_17 rfl (lv_at hl 1 rfl) ?_
    obtain ⟨c_1, h⟩ := ko_of h
    refine m_iald C hM (k := 41) rfl c_1 dX12_isPart_18 ?_
    refine lv_icmp_ge (tgt := 76) hx hb dX12_isPart_19 (by decide) (fun c_2 => ?_) (fun c_2 => ?_)
    · have h := br_T c_2 h
      refine lv_lload hx hb dX12_isPart_76 (lv_at hl 3 rfl) ?_
      refine lv_lload_n hx hb dX12_isPart_78 rfl (lv_at hl 2 rfl) ?_
      refine W.lcmp hx hb dX12_isPart_79 ?_
      refine lv_if_ne (tgt := 87) hx hb dX12_isPart_80 (by decide) (fun c_3 => ?_) (fun c_3 => ?_)
      · have h := br_F c_3 h
        refine lv_iconst (v := (0 : Int32)) hx hb dX12_isPart_87 (by decide) ?_
        exact gm_isPart_88 C hr hlk  _ _ _ _ _ hM (lv_sub hl [0] rfl) h
      · have h := br_T c_3 h
        refine lv_iconst (v := (1 : Int32)) hx hb dX12_isPart_83 (by decide) ?_
        refine lv_goto (tgt := 88) hx hb dX12_isPart_84 (by decide) ?_
        exact gm_isPart_88 C hr hlk  _ _ _ _ _ hM (lv_sub hl [0] rfl) h
    · have h := br_F c_2 h
      refine lv_aload_n hx hb dX12_isPart_22 rfl (lv_at hl 0 rfl) ?_
      refine m_geta C hM (k := 1) (by decide) rfl dX12_isPart_23 ?_
      refine lv_iload hx hb dX12_isPart_26 (lv_at hl 4 rfl) ?_
      obtain ⟨c_4, h⟩ := ko_of h
      refine m_iald C hM (k := 1) rfl c_4 dX12_isPart_28 ?_
      refine lv_bipush (v := (32 : Int32)) hx hb dX12_isPart_29 (by decide) ?_
      refine lv_icmp_eq (tgt := 43) hx hb dX12_isPart_31 (by decide) (fun c_5 => ?_) (fun c_5 => ?_)
      · have h := br_T c_5 h
        exact gm_isPart_43 C hr hlk ih _ _ _ _ _ _ _ hM (lv_sub hl [0, 1, 2, 4] rfl) h
      · have h := br_F c_5 h
        refine lv_lload hx hb dX12_isPart_34 (lv_at hl 3 rfl) ?_
        refine lv_ldc2 (own := RX12) (v := (1125899906842624 : Int64)) hx hb C.2.2.2.1 (C.2.2.2.2.1 _ (wl_in (i := 2151) (by decide +kernel))) dX12_isPart_36 ?_
        refine W.lcmp hx hb dX12_isPart_39 ?_
        refine lv_if_le (tgt := 49) hx hb dX12_isPart_40 (by decide) (fun c_6 => ?_) (fun c_6 => ?_)
        · have h := br_T c_6 h
          refine lv_ldc2 (own := RX12) (v := (32 : Int64)) hx hb C.2.2.2.1 (C.2.2.2.2.1 _ (wl_in (i := 2145) (by decide +kernel))) dX12_isPart_49 ?_
          refine lv_lload hx hb dX12_isPart_52 (lv_at hl 3 rfl) ?_
          refine lv_lmul hx hb dX12_isPart_54 ?_
          refine lv_aload_n hx hb dX12_isPart_55 rfl (lv_at hl 0 rfl) ?_
          refine m_geta C hM (k := 1) (by decide) rfl dX12_isPart_56 ?_
          refine lv_iload hx hb dX12_isPart_59 (lv_at hl 4 rfl) ?_
          obtain ⟨c_7, h⟩ := ko_of h
          refine m_iald C hM (k := 1) rfl c_7 dX12_isPart_61 ?_
          refine lv_i2l (v := (σ.2.2.1 1 x6.toNatClampNeg).toInt64) hx hb dX12_isPart_62 rfl ?_
          refine lv_ladd hx hb dX12_isPart_63 ?_
          refine lv_ldc2 (own := RX12) (v := (96 : Int64)) hx hb C.2.2.2.1 (C.2.2.2.2.1 _ (wl_in (i := 2146) (by decide +kernel))) dX12_isPart_64 ?_
          refine lv_lsub hx hb dX12_isPart_67 ?_
          exact gm_isPart_68 C hr hlk ih _ _ _ _ _ _ _ _ hM (lv_sub hl [0, 1, 2, 4] rfl) h
        · have h := br_F c_6 h
          exact gm_isPart_43 C hr hlk ih _ _ _ _ _ _ _ hM (lv_sub hl [0, 1, 2, 4] rfl) h
def fm_isPart (σ : mS) (x1 : Int32) (x2 : Int64) : Option (Int32 × mS) :=
  if x1 < 0 ∨ 31 ≤ x1.toNatClampNeg then none else
  fm_isPart_11 3000 σ x1 x2 (0 : Int64) (σ.2.2.1 40 x1.toNatClampNeg)
set_option maxHeartbeats 4000000 in
set_option maxRecDepth 100000 in
theorem cm_isPart (l : Launch) (D : va_G) (ca : Nat → ClassId) (α : Nat → Nat) (A : Nat → Prop) (σ : mS) (x1 : Int32) (x2 : Int64) (o : Int32 × mS) (h : fm_isPart σ x1 x2 = some o) : mMetI l yX12_isPart cX12_isPart 7 (some .boolean) rmX12_isPart D ca α A σ [.int x1, .long x2] o := by
  refine Met.ofW (cc := cX12_isPart) (maxL := 7) (ret := some .boolean) (by decide) rfl ?_
  intro p e s m args below meth c s₁ B hml hv
  obtain ⟨rfl, hP, hK, hD0⟩ := hv
  have C : mC p s m _ c cX12_isPart 7 D ca := ⟨B.exec, B.bytes, hml, findClass_of_methodNamed B.named, fun w hw => atoms_spec (ws := mWs yX12_isPart cX12_isPart 7 (some .boolean)) B.pre w (List.mem_cons_of_mem _ hw), hK⟩
  have hM : mM D ca α A s.heap σ s.heap [] := ⟨hP, hD0, va_S.rf⟩
  have hr := B.returns
  have hlk := B.notSynchronized
  have hx := C.1
  have hb := C.2.1
  have hl := lv_entry ([.ref (α 0), .int x1, .long x2]) (n := 7) (Nat.le_of_ble_eq_true rfl)
  rw [lg_entry_eq]
  generalize (lg_sl ([.ref (α 0), .int x1, .long x2]) ++ List.replicate (7 - (lg_sl ([.ref (α 0), .int x1, .long x2])).length) Slot.unset).toArray = ls at hl ⊢
  have hl : lv_has ls 7 [(0, .ref (α 0)), (1, .int x1), (2, .long x2)] := hl
  unfold fm_isPart at h
  refine lv_lconst (v := (0 : Int64)) hx hb dX12_isPart_0 (by decide) ?_
  refine lv_lstore (lv' := [(4, .long (0 : Int64)), (0, .ref (α 0)), (1, .int x1), (2, .long x2)]) hx hb dX12_isPart_1 hl (by decide) rfl (fun ls hl => ?_)
  refine lv_aload_n hx hb dX12_isPart_3 rfl (lv_at hl 1 rfl) ?_
  refine m_geta C hM (k := 40) (by decide) rfl dX12_isPart_4 ?_
  refine lv_iload_n hx hb dX12_isPart_7 rfl (lv_at hl 2 rfl) ?_
  obtain ⟨c_1, h⟩ := ko_of h
  refine m_iald C hM (k := 40) rfl c_1 dX12_isPart_8 ?_
  refine lv_istore (lv' := [(6, .int (σ.2.2.1 40 x1.toNatClampNeg)), (4, .long (0 : Int64)), (0, .ref (α 0)), (1, .int x1), (2, .long x2)]) hx hb dX12_isPart_9 hl (by decide) rfl (fun ls hl => ?_)
  exact gm_isPart_11 C hr hlk  _ _ _ _ _ _ _ _ _ hM (lv_sub hl [2, 3, 4, 1, 0] rfl) h
theorem mwy_isPart : mCallV RX12 252 yX12_isPart cX12_isPart 7 (some .boolean) 2 := ⟨⟨wl_in (i := 2147) (by decide +kernel), wl_in (i := 2149) (by decide +kernel), wl_inp (i := 44) (by decide +kernel), wl_in (i := 16) (by decide +kernel), wl_in (i := 2150) (by decide +kernel)⟩, rfl, by decide, by decide, by decide +kernel⟩
/-! row(IIIII)J -/
abbrev rmX12_row : Room := { frames := 0, cells := 0, slots := 0, locals := 0 }
def fm_row_123 (s0 : Int64) : Option (Int64) :=
  some s0
set_option maxHeartbeats 4000000 in
set_option maxRecDepth 100000 in
theorem gm_row_123 {p : Program} {l : Launch} {e : Env} {s : State} {m : MethodId} {args : Array Value} {below : List Frame} {meth : Method} {c : Code} {D : va_G} {ca : Nat → ClassId} {α : Nat → Nat} {A : Nat → Prop} {σ : mS} {o : Int64} (C : mC p s m args c cX12_row 7 D ca) (hr : meth.sig.returnType = some .long) (hlk : meth.locks = false) : ∀ (s0 : Int64) (H : Heap) (locs : List Loc) (ls : Array Slot), mM D ca α A s.heap σ H locs → lv_has ls 7 [] → fm_row_123 s0 = some o → mGL p l e rmX12_row s m args below meth c D ca α A (o, σ) H locs 123 ls [.long s0] := by
  have hx := C.1
  have hb := C.2.1
  intro s0 H locs ls hM hl h
  unfold fm_row_123 at h
  exact m_rl C hM hr hlk dX12_row_123 (by rw [Option.some.inj h])
def fm_row_97 (x4 : Int32) (s0 : Int64) : Option (Int64) :=
  if x4 ≤ 0 then
    fm_row_123 s0
  else
    fm_row_123 ((((32 : Int64) * s0) + (x4.toInt64)) - (96 : Int64))
set_option maxHeartbeats 4000000 in
set_option maxRecDepth 100000 in
theorem gm_row_97 {p : Program} {l : Launch} {e : Env} {s : State} {m : MethodId} {args : Array Value} {below : List Frame} {meth : Method} {c : Code} {D : va_G} {ca : Nat → ClassId} {α : Nat → Nat} {A : Nat → Prop} {σ : mS} {o : Int64} (C : mC p s m args c cX12_row 7 D ca) (hr : meth.sig.returnType = some .long) (hlk : meth.locks = false) : ∀ (x4 : Int32) (s0 : Int64) (H : Heap) (locs : List Loc) (ls : Array Slot), mM D ca α A s.heap σ H locs → lv_has ls 7 [(4, .int x4)] → fm_row_97 x4 s0 = some o → mGL p l e rmX12_row s m args below meth c D ca α A (o, σ) H locs 97 ls [.long s0] := by
  have hx := C.1
  have hb := C.2.1
  intro x4 s0 H locs ls hM hl h
  unfold fm_row_97 at h
  refine lv_lstore (lv' := [(5, .long s0), (4, .int x4)]) hx hb dX12_row_97 hl (by decide) rfl (fun ls hl => ?_)
  refine lv_iload hx hb dX12_row_99 (lv_at hl 1 rfl) ?_
  refine lv_if_le (tgt := 121) hx hb dX12_row_101 (by decide) (fun c_1 => ?_) (fun c_1 => ?_)
  · have h := br_T c_1 h
    refine lv_lload hx hb dX12_row_121 (lv_at hl 0 rfl) ?_
    exact gm_row_123 C hr hlk  _ _ _ _ hM (lv_sub hl [] rfl) h
  · have h := br_F c_1 h
    refine lv_ldc2 (own := RX12) (v := (32 : Int64)) hx hb C.2.2.2.1 (C.2.2.2.2.1 _ (wl_in (i := 2145) (by decide +kernel))) dX12_row_104 ?_
    refine lv_lload hx hb dX12_row_107 (lv_at hl 0 rfl) ?_
    refine lv_lmul hx hb dX12_row_109 ?_
    refine lv_iload hx hb dX12_row_110 (lv_at hl 1 rfl) ?_
    refine lv_i2l (v := x4.toInt64) hx hb dX12_row_112 rfl ?_
    refine lv_ladd hx hb dX12_row_113 ?_
    refine lv_ldc2 (own := RX12) (v := (96 : Int64)) hx hb C.2.2.2.1 (C.2.2.2.2.1 _ (wl_in (i := 2146) (by decide +kernel))) dX12_row_114 ?_
    refine lv_lsub hx hb dX12_row_117 ?_
    refine lv_goto (tgt := 123) hx hb dX12_row_118 (by decide) ?_
    exact gm_row_123 C hr hlk  _ _ _ _ hM (lv_sub hl [] rfl) h
def fm_row_73 (x3 : Int32) (x4 : Int32) (s0 : Int64) : Option (Int64) :=
  if x3 ≤ 0 then
    fm_row_97 x4 s0
  else
    fm_row_97 x4 ((((32 : Int64) * s0) + (x3.toInt64)) - (96 : Int64))
set_option maxHeartbeats 4000000 in
set_option maxRecDepth 100000 in
theorem gm_row_73 {p : Program} {l : Launch} {e : Env} {s : State} {m : MethodId} {args : Array Value} {below : List Frame} {meth : Method} {c : Code} {D : va_G} {ca : Nat → ClassId} {α : Nat → Nat} {A : Nat → Prop} {σ : mS} {o : Int64} (C : mC p s m args c cX12_row 7 D ca) (hr : meth.sig.returnType = some .long) (hlk : meth.locks = false) : ∀ (x3 : Int32) (x4 : Int32) (s0 : Int64) (H : Heap) (locs : List Loc) (ls : Array Slot), mM D ca α A s.heap σ H locs → lv_has ls 7 [(3, .int x3), (4, .int x4)] → fm_row_73 x3 x4 s0 = some o → mGL p l e rmX12_row s m args below meth c D ca α A (o, σ) H locs 73 ls [.long s0] := by
  have hx := C.1
  have hb := C.2.1
  intro x3 x4 s0 H locs ls hM hl h
  unfold fm_row_73 at h
  refine lv_lstore (lv' := [(5, .long s0), (3, .int x3), (4, .int x4)]) hx hb dX12_row_73 hl (by decide) rfl (fun ls hl => ?_)
  refine lv_iload_n hx hb dX12_row_75 rfl (lv_at hl 1 rfl) ?_
  refine lv_if_le (tgt := 95) hx hb dX12_row_76 (by decide) (fun c_1 => ?_) (fun c_1 => ?_)
  · have h := br_T c_1 h
    refine lv_lload hx hb dX12_row_95 (lv_at hl 0 rfl) ?_
    exact gm_row_97 C hr hlk  _ _ _ _ _ hM (lv_sub hl [2] rfl) h
  · have h := br_F c_1 h
    refine lv_ldc2 (own := RX12) (v := (32 : Int64)) hx hb C.2.2.2.1 (C.2.2.2.2.1 _ (wl_in (i := 2145) (by decide +kernel))) dX12_row_79 ?_
    refine lv_lload hx hb dX12_row_82 (lv_at hl 0 rfl) ?_
    refine lv_lmul hx hb dX12_row_84 ?_
    refine lv_iload_n hx hb dX12_row_85 rfl (lv_at hl 1 rfl) ?_
    refine lv_i2l (v := x3.toInt64) hx hb dX12_row_86 rfl ?_
    refine lv_ladd hx hb dX12_row_87 ?_
    refine lv_ldc2 (own := RX12) (v := (96 : Int64)) hx hb C.2.2.2.1 (C.2.2.2.2.1 _ (wl_in (i := 2146) (by decide +kernel))) dX12_row_88 ?_
    refine lv_lsub hx hb dX12_row_91 ?_
    refine lv_goto (tgt := 97) hx hb dX12_row_92 (by decide) ?_
    exact gm_row_97 C hr hlk  _ _ _ _ _ hM (lv_sub hl [2] rfl) h
def fm_row_49 (x2 : Int32) (x3 : Int32) (x4 : Int32) (s0 : Int64) : Option (Int64) :=
  if x2 ≤ 0 then
    fm_row_73 x3 x4 s0
  else
    fm_row_73 x3 x4 ((((32 : Int64) * s0) + (x2.toInt64)) - (96 : Int64))
set_option maxHeartbeats 4000000 in
set_option maxRecDepth 100000 in
theorem gm_row_49 {p : Program} {l : Launch} {e : Env} {s : State} {m : MethodId} {args : Array Value} {below : List Frame} {meth : Method} {c : Code} {D : va_G} {ca : Nat → ClassId} {α : Nat → Nat} {A : Nat → Prop} {σ : mS} {o : Int64} (C : mC p s m args c cX12_row 7 D ca) (hr : meth.sig.returnType = some .long) (hlk : meth.locks = false) : ∀ (x2 : Int32) (x3 : Int32) (x4 : Int32) (s0 : Int64) (H : Heap) (locs : List Loc) (ls : Array Slot), mM D ca α A s.heap σ H locs → lv_has ls 7 [(2, .int x2), (3, .int x3), (4, .int x4)] → fm_row_49 x2 x3 x4 s0 = some o → mGL p l e rmX12_row s m args below meth c D ca α A (o, σ) H locs 49 ls [.long s0] := by
  have hx := C.1
  have hb := C.2.1
  intro x2 x3 x4 s0 H locs ls hM hl h
  unfold fm_row_49 at h
  refine lv_lstore (lv' := [(5, .long s0), (2, .int x2), (3, .int x3), (4, .int x4)]) hx hb dX12_row_49 hl (by decide) rfl (fun ls hl => ?_)
  refine lv_iload_n hx hb dX12_row_51 rfl (lv_at hl 1 rfl) ?_
  refine lv_if_le (tgt := 71) hx hb dX12_row_52 (by decide) (fun c_1 => ?_) (fun c_1 => ?_)
  · have h := br_T c_1 h
    refine lv_lload hx hb dX12_row_71 (lv_at hl 0 rfl) ?_
    exact gm_row_73 C hr hlk  _ _ _ _ _ _ hM (lv_sub hl [2, 3] rfl) h
  · have h := br_F c_1 h
    refine lv_ldc2 (own := RX12) (v := (32 : Int64)) hx hb C.2.2.2.1 (C.2.2.2.2.1 _ (wl_in (i := 2145) (by decide +kernel))) dX12_row_55 ?_
    refine lv_lload hx hb dX12_row_58 (lv_at hl 0 rfl) ?_
    refine lv_lmul hx hb dX12_row_60 ?_
    refine lv_iload_n hx hb dX12_row_61 rfl (lv_at hl 1 rfl) ?_
    refine lv_i2l (v := x2.toInt64) hx hb dX12_row_62 rfl ?_
    refine lv_ladd hx hb dX12_row_63 ?_
    refine lv_ldc2 (own := RX12) (v := (96 : Int64)) hx hb C.2.2.2.1 (C.2.2.2.2.1 _ (wl_in (i := 2146) (by decide +kernel))) dX12_row_64 ?_
    refine lv_lsub hx hb dX12_row_67 ?_
    refine lv_goto (tgt := 73) hx hb dX12_row_68 (by decide) ?_
    exact gm_row_73 C hr hlk  _ _ _ _ _ _ hM (lv_sub hl [2, 3] rfl) h
def fm_row_25 (x1 : Int32) (x2 : Int32) (x3 : Int32) (x4 : Int32) (s0 : Int64) : Option (Int64) :=
  if x1 ≤ 0 then
    fm_row_49 x2 x3 x4 s0
  else
    fm_row_49 x2 x3 x4 ((((32 : Int64) * s0) + (x1.toInt64)) - (96 : Int64))
set_option maxHeartbeats 4000000 in
set_option maxRecDepth 100000 in
theorem gm_row_25 {p : Program} {l : Launch} {e : Env} {s : State} {m : MethodId} {args : Array Value} {below : List Frame} {meth : Method} {c : Code} {D : va_G} {ca : Nat → ClassId} {α : Nat → Nat} {A : Nat → Prop} {σ : mS} {o : Int64} (C : mC p s m args c cX12_row 7 D ca) (hr : meth.sig.returnType = some .long) (hlk : meth.locks = false) : ∀ (x1 : Int32) (x2 : Int32) (x3 : Int32) (x4 : Int32) (s0 : Int64) (H : Heap) (locs : List Loc) (ls : Array Slot), mM D ca α A s.heap σ H locs → lv_has ls 7 [(1, .int x1), (2, .int x2), (3, .int x3), (4, .int x4)] → fm_row_25 x1 x2 x3 x4 s0 = some o → mGL p l e rmX12_row s m args below meth c D ca α A (o, σ) H locs 25 ls [.long s0] := by
  have hx := C.1
  have hb := C.2.1
  intro x1 x2 x3 x4 s0 H locs ls hM hl h
  unfold fm_row_25 at h
  refine lv_lstore (lv' := [(5, .long s0), (1, .int x1), (2, .int x2), (3, .int x3), (4, .int x4)]) hx hb dX12_row_25 hl (by decide) rfl (fun ls hl => ?_)
  refine lv_iload_n hx hb dX12_row_27 rfl (lv_at hl 1 rfl) ?_
  refine lv_if_le (tgt := 47) hx hb dX12_row_28 (by decide) (fun c_1 => ?_) (fun c_1 => ?_)
  · have h := br_T c_1 h
    refine lv_lload hx hb dX12_row_47 (lv_at hl 0 rfl) ?_
    exact gm_row_49 C hr hlk  _ _ _ _ _ _ _ hM (lv_sub hl [2, 3, 4] rfl) h
  · have h := br_F c_1 h
    refine lv_ldc2 (own := RX12) (v := (32 : Int64)) hx hb C.2.2.2.1 (C.2.2.2.2.1 _ (wl_in (i := 2145) (by decide +kernel))) dX12_row_31 ?_
    refine lv_lload hx hb dX12_row_34 (lv_at hl 0 rfl) ?_
    refine lv_lmul hx hb dX12_row_36 ?_
    refine lv_iload_n hx hb dX12_row_37 rfl (lv_at hl 1 rfl) ?_
    refine lv_i2l (v := x1.toInt64) hx hb dX12_row_38 rfl ?_
    refine lv_ladd hx hb dX12_row_39 ?_
    refine lv_ldc2 (own := RX12) (v := (96 : Int64)) hx hb C.2.2.2.1 (C.2.2.2.2.1 _ (wl_in (i := 2146) (by decide +kernel))) dX12_row_40 ?_
    refine lv_lsub hx hb dX12_row_43 ?_
    refine lv_goto (tgt := 49) hx hb dX12_row_44 (by decide) ?_
    exact gm_row_49 C hr hlk  _ _ _ _ _ _ _ hM (lv_sub hl [2, 3, 4] rfl) h
def fm_row (x0 : Int32) (x1 : Int32) (x2 : Int32) (x3 : Int32) (x4 : Int32) : Option (Int64) :=
  if x0 ≤ 0 then
    fm_row_25 x1 x2 x3 x4 (0 : Int64)
  else
    fm_row_25 x1 x2 x3 x4 ((((32 : Int64) * (0 : Int64)) + (x0.toInt64)) - (96 : Int64))
set_option maxHeartbeats 4000000 in
set_option maxRecDepth 100000 in
theorem cm_row (l : Launch) (D : va_G) (ca : Nat → ClassId) (α : Nat → Nat) (A : Nat → Prop) (σ : mS) (x0 : Int32) (x1 : Int32) (x2 : Int32) (x3 : Int32) (x4 : Int32) (o : Int64) (h : fm_row x0 x1 x2 x3 x4 = some o) : mMetSL l yX12_row cX12_row 7 (some .long) rmX12_row D ca α A σ [.int x0, .int x1, .int x2, .int x3, .int x4] o := by
  refine Met.ofW (cc := cX12_row) (maxL := 7) (ret := some .long) (by decide) rfl ?_
  intro p e s m args below meth c s₁ B hml hv
  obtain ⟨rfl, hP, hK, hD0⟩ := hv
  have C : mC p s m _ c cX12_row 7 D ca := ⟨B.exec, B.bytes, hml, findClass_of_methodNamed B.named, fun w hw => atoms_spec (ws := mWs yX12_row cX12_row 7 (some .long)) B.pre w (List.mem_cons_of_mem _ hw), hK⟩
  have hM : mM D ca α A s.heap σ s.heap [] := ⟨hP, hD0, va_S.rf⟩
  have hr := B.returns
  have hlk := B.notSynchronized
  have hx := C.1
  have hb := C.2.1
  have hl := lv_entry ([.int x0, .int x1, .int x2, .int x3, .int x4]) (n := 7) (Nat.le_of_ble_eq_true rfl)
  rw [lg_entry_eq]
  generalize (lg_sl ([.int x0, .int x1, .int x2, .int x3, .int x4]) ++ List.replicate (7 - (lg_sl ([.int x0, .int x1, .int x2, .int x3, .int x4])).length) Slot.unset).toArray = ls at hl ⊢
  have hl : lv_has ls 7 [(0, .int x0), (1, .int x1), (2, .int x2), (3, .int x3), (4, .int x4)] := hl
  unfold fm_row at h
  refine lv_lconst (v := (0 : Int64)) hx hb dX12_row_0 (by decide) ?_
  refine lv_lstore (lv' := [(5, .long (0 : Int64)), (0, .int x0), (1, .int x1), (2, .int x2), (3, .int x3), (4, .int x4)]) hx hb dX12_row_1 hl (by decide) rfl (fun ls hl => ?_)
  refine lv_iload_n hx hb dX12_row_3 rfl (lv_at hl 1 rfl) ?_
  refine lv_if_le (tgt := 23) hx hb dX12_row_4 (by decide) (fun c_1 => ?_) (fun c_1 => ?_)
  · have h := br_T c_1 h
    refine lv_lload hx hb dX12_row_23 (lv_at hl 0 rfl) ?_
    exact gm_row_25 C hr hlk  _ _ _ _ _ _ _ _ hM (lv_sub hl [2, 3, 4, 5] rfl) h
  · have h := br_F c_1 h
    refine lv_ldc2 (own := RX12) (v := (32 : Int64)) hx hb C.2.2.2.1 (C.2.2.2.2.1 _ (wl_in (i := 2145) (by decide +kernel))) dX12_row_7 ?_
    refine lv_lload hx hb dX12_row_10 (lv_at hl 0 rfl) ?_
    refine lv_lmul hx hb dX12_row_12 ?_
    refine lv_iload_n hx hb dX12_row_13 rfl (lv_at hl 1 rfl) ?_
    refine lv_i2l (v := x0.toInt64) hx hb dX12_row_14 rfl ?_
    refine lv_ladd hx hb dX12_row_15 ?_
    refine lv_ldc2 (own := RX12) (v := (96 : Int64)) hx hb C.2.2.2.1 (C.2.2.2.2.1 _ (wl_in (i := 2146) (by decide +kernel))) dX12_row_16 ?_
    refine lv_lsub hx hb dX12_row_19 ?_
    refine lv_goto (tgt := 25) hx hb dX12_row_20 (by decide) ?_
    exact gm_row_25 C hr hlk  _ _ _ _ _ _ _ _ hM (lv_sub hl [2, 3, 4, 5] rfl) h
theorem mwy_row : mCallS RX12 248 yX12_row cX12_row 7 (some .long) 5 := ⟨⟨wl_in (i := 2142) (by decide +kernel), wl_in (i := 2143) (by decide +kernel), wl_in (i := 16) (by decide +kernel), wl_in (i := 2144) (by decide +kernel)⟩, by decide, by decide, by decide +kernel⟩
/-! verb()I -/
abbrev rmX12_verb : Room := { frames := 1, cells := 0, slots := 0, locals := 26 }
def fm_verb_37 (k_8 : mS → Int32 → Int32 → Option (Int32 × mS)) (σ : mS) (x2 : Int32) (s0 : Int32) (s1 : Int32) : Option (Int32 × mS) :=
  k_8 σ (s1 &&& s0) (x2 + (1 : Int32))
set_option maxHeartbeats 4000000 in
set_option maxRecDepth 100000 in
theorem gm_verb_37 {p : Program} {l : Launch} {e : Env} {s : State} {m : MethodId} {args : Array Value} {below : List Frame} {meth : Method} {c : Code} {D : va_G} {ca : Nat → ClassId} {α : Nat → Nat} {A : Nat → Prop} {o : Int32 × mS} {k_8 : mS → Int32 → Int32 → Option (Int32 × mS)} (C : mC p s m args c cX12_verb 3 D ca) (hr : meth.sig.returnType = some .int) (hlk : meth.locks = false) (hk_8 : ∀ (σ : mS) (x1 : Int32) (x2 : Int32) (H : Heap) (locs : List Loc) (ls : Array Slot), mM D ca α A s.heap σ H locs → lv_has ls 3 [(0, .ref (α 0)), (1, .int x1), (2, .int x2)] → k_8 σ x1 x2 = some o → mGI p l e rmX12_verb s m args below meth c D ca α A o H locs 8 ls []) : ∀ (σ : mS) (x2 : Int32) (s0 : Int32) (s1 : Int32) (H : Heap) (locs : List Loc) (ls : Array Slot), mM D ca α A s.heap σ H locs → lv_has ls 3 [(0, .ref (α 0)), (2, .int x2)] → fm_verb_37 k_8 σ x2 s0 s1 = some o → mGI p l e rmX12_verb s m args below meth c D ca α A o H locs 37 ls [.int s0, .int s1] := by
  have hx := C.1
  have hb := C.2.1
  intro σ x2 s0 s1 H locs ls hM hl h
  unfold fm_verb_37 at h
  refine lv_iand hx hb dX12_verb_37 ?_
  refine lv_istore_n (lv' := [(1, .int (s1 &&& s0)), (0, .ref (α 0)), (2, .int x2)]) hx hb dX12_verb_38 rfl hl (by decide) rfl (fun ls hl => ?_)
  refine lv_iinc (v := (x2 + (1 : Int32))) (lv' := [(2, .int (x2 + (1 : Int32))), (1, .int (s1 &&& s0)), (0, .ref (α 0))]) hx hb dX12_verb_39 hl (k := 2) rfl rfl (by decide) rfl (fun ls hl => ?_)
  refine lv_goto (tgt := 8) hx hb dX12_verb_42 (by decide) ?_
  exact hk_8 _ _ _ _ _ _ hM (lv_sub hl [2, 1, 0] rfl) h
def fm_verb_110 (σ : mS) (s0 : Int32) : Option (Int32 × mS) :=
  some (s0, σ)
set_option maxHeartbeats 4000000 in
set_option maxRecDepth 100000 in
theorem gm_verb_110 {p : Program} {l : Launch} {e : Env} {s : State} {m : MethodId} {args : Array Value} {below : List Frame} {meth : Method} {c : Code} {D : va_G} {ca : Nat → ClassId} {α : Nat → Nat} {A : Nat → Prop} {o : Int32 × mS} (C : mC p s m args c cX12_verb 3 D ca) (hr : meth.sig.returnType = some .int) (hlk : meth.locks = false) : ∀ (σ : mS) (s0 : Int32) (H : Heap) (locs : List Loc) (ls : Array Slot), mM D ca α A s.heap σ H locs → lv_has ls 3 [(0, .ref (α 0))] → fm_verb_110 σ s0 = some o → mGI p l e rmX12_verb s m args below meth c D ca α A o H locs 110 ls [.int s0] := by
  have hx := C.1
  have hb := C.2.1
  intro σ s0 H locs ls hM hl h
  unfold fm_verb_110 at h
  exact m_ri C hM hr hlk dX12_verb_110 h
def fm_verb_162 (σ : mS) (s0 : Int32) : Option (Int32 × mS) :=
  some (s0, σ)
set_option maxHeartbeats 4000000 in
set_option maxRecDepth 100000 in
theorem gm_verb_162 {p : Program} {l : Launch} {e : Env} {s : State} {m : MethodId} {args : Array Value} {below : List Frame} {meth : Method} {c : Code} {D : va_G} {ca : Nat → ClassId} {α : Nat → Nat} {A : Nat → Prop} {o : Int32 × mS} (C : mC p s m args c cX12_verb 3 D ca) (hr : meth.sig.returnType = some .int) (hlk : meth.locks = false) : ∀ (σ : mS) (s0 : Int32) (H : Heap) (locs : List Loc) (ls : Array Slot), mM D ca α A s.heap σ H locs → lv_has ls 3 [(0, .ref (α 0))] → fm_verb_162 σ s0 = some o → mGI p l e rmX12_verb s m args below meth c D ca α A o H locs 162 ls [.int s0] := by
  have hx := C.1
  have hb := C.2.1
  intro σ s0 H locs ls hM hl h
  unfold fm_verb_162 at h
  exact m_ri C hM hr hlk dX12_verb_162 h
def fm_verb_161 (σ : mS) : Option (Int32 × mS) :=
  fm_verb_162 σ (0 : Int32)
set_option maxHeartbeats 4000000 in
set_option maxRecDepth 100000 in
theorem gm_verb_161 {p : Program} {l : Launch} {e : Env} {s : State} {m : MethodId} {args : Array Value} {below : List Frame} {meth : Method} {c : Code} {D : va_G} {ca : Nat → ClassId} {α : Nat → Nat} {A : Nat → Prop} {o : Int32 × mS} (C : mC p s m args c cX12_verb 3 D ca) (hr : meth.sig.returnType = some .int) (hlk : meth.locks = false) : ∀ (σ : mS) (H : Heap) (locs : List Loc) (ls : Array Slot), mM D ca α A s.heap σ H locs → lv_has ls 3 [(0, .ref (α 0))] → fm_verb_161 σ = some o → mGI p l e rmX12_verb s m args below meth c D ca α A o H locs 161 ls [] := by
  have hx := C.1
  have hb := C.2.1
  intro σ H locs ls hM hl h
  unfold fm_verb_161 at h
  refine lv_iconst (v := (0 : Int32)) hx hb dX12_verb_161 (by decide) ?_
  exact gm_verb_162 C hr hlk  _ _ _ _ _ hM (lv_sub hl [0] rfl) h
def fm_verb_231 (σ : mS) (s0 : Int32) : Option (Int32 × mS) :=
  some (s0, σ)
set_option maxHeartbeats 4000000 in
set_option maxRecDepth 100000 in
theorem gm_verb_231 {p : Program} {l : Launch} {e : Env} {s : State} {m : MethodId} {args : Array Value} {below : List Frame} {meth : Method} {c : Code} {D : va_G} {ca : Nat → ClassId} {α : Nat → Nat} {A : Nat → Prop} {o : Int32 × mS} (C : mC p s m args c cX12_verb 3 D ca) (hr : meth.sig.returnType = some .int) (hlk : meth.locks = false) : ∀ (σ : mS) (s0 : Int32) (H : Heap) (locs : List Loc) (ls : Array Slot), mM D ca α A s.heap σ H locs → lv_has ls 3 [(0, .ref (α 0))] → fm_verb_231 σ s0 = some o → mGI p l e rmX12_verb s m args below meth c D ca α A o H locs 231 ls [.int s0] := by
  have hx := C.1
  have hb := C.2.1
  intro σ s0 H locs ls hM hl h
  unfold fm_verb_231 at h
  exact m_ri C hM hr hlk dX12_verb_231 h
def fm_verb_230 (σ : mS) : Option (Int32 × mS) :=
  fm_verb_231 σ (0 : Int32)
set_option maxHeartbeats 4000000 in
set_option maxRecDepth 100000 in
theorem gm_verb_230 {p : Program} {l : Launch} {e : Env} {s : State} {m : MethodId} {args : Array Value} {below : List Frame} {meth : Method} {c : Code} {D : va_G} {ca : Nat → ClassId} {α : Nat → Nat} {A : Nat → Prop} {o : Int32 × mS} (C : mC p s m args c cX12_verb 3 D ca) (hr : meth.sig.returnType = some .int) (hlk : meth.locks = false) : ∀ (σ : mS) (H : Heap) (locs : List Loc) (ls : Array Slot), mM D ca α A s.heap σ H locs → lv_has ls 3 [(0, .ref (α 0))] → fm_verb_230 σ = some o → mGI p l e rmX12_verb s m args below meth c D ca α A o H locs 230 ls [] := by
  have hx := C.1
  have hb := C.2.1
  intro σ H locs ls hM hl h
  unfold fm_verb_230 at h
  refine lv_iconst (v := (0 : Int32)) hx hb dX12_verb_230 (by decide) ?_
  exact gm_verb_231 C hr hlk  _ _ _ _ _ hM (lv_sub hl [0] rfl) h
def fm_verb_395 (σ : mS) (s0 : Int32) : Option (Int32 × mS) :=
  some (s0, σ)
set_option maxHeartbeats 4000000 in
set_option maxRecDepth 100000 in
theorem gm_verb_395 {p : Program} {l : Launch} {e : Env} {s : State} {m : MethodId} {args : Array Value} {below : List Frame} {meth : Method} {c : Code} {D : va_G} {ca : Nat → ClassId} {α : Nat → Nat} {A : Nat → Prop} {o : Int32 × mS} (C : mC p s m args c cX12_verb 3 D ca) (hr : meth.sig.returnType = some .int) (hlk : meth.locks = false) : ∀ (σ : mS) (s0 : Int32) (H : Heap) (locs : List Loc) (ls : Array Slot), mM D ca α A s.heap σ H locs → lv_has ls 3 [(0, .ref (α 0))] → fm_verb_395 σ s0 = some o → mGI p l e rmX12_verb s m args below meth c D ca α A o H locs 395 ls [.int s0] := by
  have hx := C.1
  have hb := C.2.1
  intro σ s0 H locs ls hM hl h
  unfold fm_verb_395 at h
  exact m_ri C hM hr hlk dX12_verb_395 h
def fm_verb_8 : Nat → mS → Int32 → Int32 → Option (Int32 × mS)
  | 0, _, _, _ => none
  | n + 1, σ, x1, x2 =>
    if (σ.1 42) ≤ x2 then
      if x1 = 0 then
        some ((0 : Int32), σ)
      else
        if (σ.1 42) = (1 : Int32) then
          (fm_row (108 : Int32) (111 : Int32) (111 : Int32) (107 : Int32) (0 : Int32)).bind fun r_22 =>
          (fm_isPart σ (0 : Int32) r_22).bind fun r_23 =>
          if r_23.1 = 0 then
            (fm_row (119 : Int32) (97 : Int32) (105 : Int32) (116 : Int32) (0 : Int32)).bind fun r_24 =>
            (fm_isPart r_23.2 (0 : Int32) r_24).bind fun r_25 =>
            if r_25.1 = 0 then
              fm_verb_110 r_25.2 (0 : Int32)
            else
              fm_verb_110 r_25.2 (11 : Int32)
          else
            fm_verb_110 r_23.2 (10 : Int32)
        else
          if (σ.1 42) = (4 : Int32) then
            (fm_row (112 : Int32) (117 : Int32) (116 : Int32) (0 : Int32) (0 : Int32)).bind fun r_18 =>
            (fm_isPart σ (0 : Int32) r_18).bind fun r_19 =>
            if r_19.1 = 0 then
              fm_verb_161 r_19.2
            else
              (fm_row (105 : Int32) (110 : Int32) (0 : Int32) (0 : Int32) (0 : Int32)).bind fun r_20 =>
              (fm_isPart r_19.2 (2 : Int32) r_20).bind fun r_21 =>
              if r_21.1 = 0 then
                fm_verb_161 r_21.2
              else
                fm_verb_162 r_21.2 (9 : Int32)
          else
            if (σ.1 42) = (2 : Int32) then
              (fm_row (103 : Int32) (111 : Int32) (0 : Int32) (0 : Int32) (0 : Int32)).bind fun r_1 =>
              (fm_isPart σ (0 : Int32) r_1).bind fun r_2 =>
              if r_2.1 = 0 then
                (fm_row (116 : Int32) (97 : Int32) (107 : Int32) (101 : Int32) (0 : Int32)).bind fun r_3 =>
                (fm_isPart r_2.2 (0 : Int32) r_3).bind fun r_4 =>
                if r_4.1 = 0 then
                  (fm_row (100 : Int32) (114 : Int32) (111 : Int32) (112 : Int32) (0 : Int32)).bind fun r_5 =>
                  (fm_isPart r_4.2 (0 : Int32) r_5).bind fun r_6 =>
                  if r_6.1 = 0 then
                    (fm_row (111 : Int32) (112 : Int32) (101 : Int32) (110 : Int32) (0 : Int32)).bind fun r_7 =>
                    (fm_isPart r_6.2 (0 : Int32) r_7).bind fun r_8 =>
                    if r_8.1 = 0 then
                      (fm_row (99 : Int32) (108 : Int32) (111 : Int32) (115 : Int32) (101 : Int32)).bind fun r_9 =>
                      (fm_isPart r_8.2 (0 : Int32) r_9).bind fun r_10 =>
                      if r_10.1 = 0 then
                        (fm_row (108 : Int32) (105 : Int32) (103 : Int32) (104 : Int32) (116 : Int32)).bind fun r_11 =>
                        (fm_isPart r_10.2 (0 : Int32) r_11).bind fun r_12 =>
                        if r_12.1 = 0 then
                          (fm_row (100 : Int32) (111 : Int32) (117 : Int32) (115 : Int32) (101 : Int32)).bind fun r_13 =>
                          (fm_isPart r_12.2 (0 : Int32) r_13).bind fun r_14 =>
                          if r_14.1 = 0 then
                            (fm_row (108 : Int32) (111 : Int32) (111 : Int32) (107 : Int32) (0 : Int32)).bind fun r_15 =>
                            (fm_isPart r_14.2 (0 : Int32) r_15).bind fun r_16 =>
                            if r_16.1 = 0 then
                              fm_verb_395 r_16.2 (0 : Int32)
                            else
                              fm_verb_395 r_16.2 (8 : Int32)
                          else
                            some ((7 : Int32), r_14.2)
                        else
                          some ((6 : Int32), r_12.2)
                      else
                        some ((5 : Int32), r_10.2)
                    else
                      some ((4 : Int32), r_8.2)
                  else
                    some ((3 : Int32), r_6.2)
                else
                  some ((2 : Int32), r_4.2)
              else
                if (1 : Int32) < 0 ∨ 31 ≤ (1 : Int32).toNatClampNeg then none else
                if (1 : Int32) < 0 ∨ 31 ≤ (1 : Int32).toNatClampNeg then none else
                if ((r_2.2.2.2.1 41 (1 : Int32).toNatClampNeg) - (r_2.2.2.2.1 40 (1 : Int32).toNatClampNeg)) = (1 : Int32) then
                  if (1 : Int32) < 0 ∨ 31 ≤ (1 : Int32).toNatClampNeg then none else
                  if (r_2.2.2.2.1 40 (1 : Int32).toNatClampNeg) < 0 ∨ 30 ≤ (r_2.2.2.2.1 40 (1 : Int32).toNatClampNeg).toNatClampNeg then none else
                  (fm_directionOf (r_2.2.2.2.1 1 (r_2.2.2.2.1 40 (1 : Int32).toNatClampNeg).toNatClampNeg)).bind fun r_17 =>
                  if r_17 = (-1 : Int32) then
                    fm_verb_230 r_2.2
                  else
                    fm_verb_231 r_2.2 (1 : Int32)
                else
                  fm_verb_230 r_2.2
            else
              some ((0 : Int32), σ)
    else
      if x2 < 0 ∨ 31 ≤ x2.toNatClampNeg then none else
      if x2 < 0 ∨ 31 ≤ x2.toNatClampNeg then none else
      if (σ.2.2.1 41 x2.toNatClampNeg) ≤ (σ.2.2.1 40 x2.toNatClampNeg) then
        fm_verb_37 (fm_verb_8 n) σ x2 (0 : Int32) x1
      else
        fm_verb_37 (fm_verb_8 n) σ x2 (1 : Int32) x1
set_option maxHeartbeats 4000000 in
set_option maxRecDepth 100000 in
theorem gm_verb_8 {p : Program} {l : Launch} {e : Env} {s : State} {m : MethodId} {args : Array Value} {below : List Frame} {meth : Method} {c : Code} {D : va_G} {ca : Nat → ClassId} {α : Nat → Nat} {A : Nat → Prop} {o : Int32 × mS} (C : mC p s m args c cX12_verb 3 D ca) (hr : meth.sig.returnType = some .int) (hlk : meth.locks = false) : ∀ (n : Nat) (σ : mS) (x1 : Int32) (x2 : Int32) (H : Heap) (locs : List Loc) (ls : Array Slot), mM D ca α A s.heap σ H locs → lv_has ls 3 [(0, .ref (α 0)), (1, .int x1), (2, .int x2)] → fm_verb_8 n σ x1 x2 = some o → mGI p l e rmX12_verb s m args below meth c D ca α A o H locs 8 ls [] := by
  have hx := C.1
  have hb := C.2.1
  intro n
  induction n with
  | zero =>
    intro σ x1 x2 H locs ls hM hl h
    cases h
  | succ n ih =>
    intro σ x1 x2 H locs ls hM hl h
    rw [fm_verb_8] at h
    refine lv_iload_n hx hb dX12_verb_8 rfl (lv_at hl 2 rfl) ?_
    refine lv_aload_n hx hb dX12_verb_9 rfl (lv_at hl 0 rfl) ?_
    refine m_geti C hM (k := 42) (Or.inl rfl) rfl dX12_verb_10 ?_
    refine lv_icmp_ge (tgt := 45) hx hb dX12_verb_13 (by decide) (fun c_1 => ?_) (fun c_1 => ?_)
    · have h := br_T c_1 h
      refine lv_iload_n hx hb dX12_verb_45 rfl (lv_at hl 1 rfl) ?_
      refine lv_if_ne (tgt := 51) hx hb dX12_verb_46 (by decide) (fun c_2 => ?_) (fun c_2 => ?_)
      · have h := br_F c_2 h
        refine lv_aload_n hx hb dX12_verb_51 rfl (lv_at hl 0 rfl) ?_
        refine m_geti C hM (k := 42) (Or.inl rfl) rfl dX12_verb_52 ?_
        refine lv_iconst (v := (1 : Int32)) hx hb dX12_verb_55 (by decide) ?_
        refine lv_icmp_ne (tgt := 111) hx hb dX12_verb_56 (by decide) (fun c_3 => ?_) (fun c_3 => ?_)
        · have h := br_F c_3 h
          refine lv_aload_n hx hb dX12_verb_111 rfl (lv_at hl 0 rfl) ?_
          refine m_geti C hM (k := 42) (Or.inl rfl) rfl dX12_verb_112 ?_
          refine lv_iconst (v := (4 : Int32)) hx hb dX12_verb_115 (by decide) ?_
          refine lv_icmp_ne (tgt := 163) hx hb dX12_verb_116 (by decide) (fun c_4 => ?_) (fun c_4 => ?_)
          · have h := br_F c_4 h
            refine lv_aload_n hx hb dX12_verb_163 rfl (lv_at hl 0 rfl) ?_
            refine m_geti C hM (k := 42) (Or.inl rfl) rfl dX12_verb_164 ?_
            refine lv_iconst (v := (2 : Int32)) hx hb dX12_verb_167 (by decide) ?_
            refine lv_icmp_eq (tgt := 173) hx hb dX12_verb_168 (by decide) (fun c_5 => ?_) (fun c_5 => ?_)
            · have h := br_T c_5 h
              refine lv_aload_n hx hb dX12_verb_173 rfl (lv_at hl 0 rfl) ?_
              refine lv_iconst (v := (0 : Int32)) hx hb dX12_verb_174 (by decide) ?_
              refine lv_bipush (v := (103 : Int32)) hx hb dX12_verb_175 (by decide) ?_
              refine lv_bipush (v := (111 : Int32)) hx hb dX12_verb_177 (by decide) ?_
              refine lv_iconst (v := (0 : Int32)) hx hb dX12_verb_179 (by decide) ?_
              refine lv_iconst (v := (0 : Int32)) hx hb dX12_verb_180 (by decide) ?_
              refine lv_iconst (v := (0 : Int32)) hx hb dX12_verb_181 (by decide) ?_
              obtain ⟨r_1, hr_1, h⟩ := bd_of h
              refine m_cSl (As := [.int (103 : Int32), .int (111 : Int32), .int (0 : Int32), .int (0 : Int32), .int (0 : Int32)]) (rest := [.int (0 : Int32), .ref (α 0)]) C hM (cm_row l D ca α A σ (103 : Int32) (111 : Int32) (0 : Int32) (0 : Int32) (0 : Int32) r_1 hr_1) mwy_row ⟨rfl, rfl⟩ ⟨Nat.le_of_ble_eq_true rfl, Nat.le_of_ble_eq_true rfl⟩ rfl rfl (Nat.le_of_ble_eq_true rfl) hl.1 dX12_verb_182 ⟨rfl, rfl⟩ (fun H locs hM => ?_)
              obtain ⟨r_2, hr_2, h⟩ := bd_of h
              refine m_cVi (As := [.int (0 : Int32), .long r_1]) (rest := []) C hM (cm_isPart l D ca α A σ (0 : Int32) r_1 r_2 hr_2) mwy_isPart ⟨rfl, rfl⟩ ⟨Nat.le_of_ble_eq_true rfl, Nat.le_of_ble_eq_true rfl⟩ rfl rfl (Nat.le_of_ble_eq_true rfl) hl.1 dX12_verb_185 ⟨rfl, rfl⟩ (fun H locs hM => ?_)
              refine lv_if_eq (tgt := 232) hx hb dX12_verb_188 (by decide) (fun c_6 => ?_) (fun c_6 => ?_)
              · have h := br_T c_6 h
                refine lv_aload_n hx hb dX12_verb_232 rfl (lv_at hl 0 rfl) ?_
                refine lv_iconst (v := (0 : Int32)) hx hb dX12_verb_233 (by decide) ?_
                refine lv_bipush (v := (116 : Int32)) hx hb dX12_verb_234 (by decide) ?_
                refine lv_bipush (v := (97 : Int32)) hx hb dX12_verb_236 (by decide) ?_
                refine lv_bipush (v := (107 : Int32)) hx hb dX12_verb_238 (by decide) ?_
                refine lv_bipush (v := (101 : Int32)) hx hb dX12_verb_240 (by decide) ?_
                refine lv_iconst (v := (0 : Int32)) hx hb dX12_verb_242 (by decide) ?_
                obtain ⟨r_3, hr_3, h⟩ := bd_of h
                refine m_cSl (As := [.int (116 : Int32), .int (97 : Int32), .int (107 : Int32), .int (101 : Int32), .int (0 : Int32)]) (rest := [.int (0 : Int32), .ref (α 0)]) C hM (cm_row l D ca α A r_2.2 (116 : Int32) (97 : Int32) (107 : Int32) (101 : Int32) (0 : Int32) r_3 hr_3) mwy_row ⟨rfl, rfl⟩ ⟨Nat.le_of_ble_eq_true rfl, Nat.le_of_ble_eq_true rfl⟩ rfl rfl (Nat.le_of_ble_eq_true rfl) hl.1 dX12_verb_243 ⟨rfl, rfl⟩ (fun H locs hM => ?_)
                obtain ⟨r_4, hr_4, h⟩ := bd_of h
                refine m_cVi (As := [.int (0 : Int32), .long r_3]) (rest := []) C hM (cm_isPart l D ca α A r_2.2 (0 : Int32) r_3 r_4 hr_4) mwy_isPart ⟨rfl, rfl⟩ ⟨Nat.le_of_ble_eq_true rfl, Nat.le_of_ble_eq_true rfl⟩ rfl rfl (Nat.le_of_ble_eq_true rfl) hl.1 dX12_verb_246 ⟨rfl, rfl⟩ (fun H locs hM => ?_)
                refine lv_if_eq (tgt := 254) hx hb dX12_verb_249 (by decide) (fun c_7 => ?_) (fun c_7 => ?_)
                · have h := br_T c_7 h
                  refine lv_aload_n hx hb dX12_verb_254 rfl (lv_at hl 0 rfl) ?_
                  refine lv_iconst (v := (0 : Int32)) hx hb dX12_verb_255 (by decide) ?_
                  refine lv_bipush (v := (100 : Int32)) hx hb dX12_verb_256 (by decide) ?_
                  refine lv_bipush (v := (114 : Int32)) hx hb dX12_verb_258 (by decide) ?_
                  refine lv_bipush (v := (111 : Int32)) hx hb dX12_verb_260 (by decide) ?_
                  refine lv_bipush (v := (112 : Int32)) hx hb dX12_verb_262 (by decide) ?_
                  refine lv_iconst (v := (0 : Int32)) hx hb dX12_verb_264 (by decide) ?_
                  obtain ⟨r_5, hr_5, h⟩ := bd_of h
                  refine m_cSl (As := [.int (100 : Int32), .int (114 : Int32), .int (111 : Int32), .int (112 : Int32), .int (0 : Int32)]) (rest := [.int (0 : Int32), .ref (α 0)]) C hM (cm_row l D ca α A r_4.2 (100 : Int32) (114 : Int32) (111 : Int32) (112 : Int32) (0 : Int32) r_5 hr_5) mwy_row ⟨rfl, rfl⟩ ⟨Nat.le_of_ble_eq_true rfl, Nat.le_of_ble_eq_true rfl⟩ rfl rfl (Nat.le_of_ble_eq_true rfl) hl.1 dX12_verb_265 ⟨rfl, rfl⟩ (fun H locs hM => ?_)
                  obtain ⟨r_6, hr_6, h⟩ := bd_of h
                  refine m_cVi (As := [.int (0 : Int32), .long r_5]) (rest := []) C hM (cm_isPart l D ca α A r_4.2 (0 : Int32) r_5 r_6 hr_6) mwy_isPart ⟨rfl, rfl⟩ ⟨Nat.le_of_ble_eq_true rfl, Nat.le_of_ble_eq_true rfl⟩ rfl rfl (Nat.le_of_ble_eq_true rfl) hl.1 dX12_verb_268 ⟨rfl, rfl⟩ (fun H locs hM => ?_)
                  refine lv_if_eq (tgt := 276) hx hb dX12_verb_271 (by decide) (fun c_8 => ?_) (fun c_8 => ?_)
                  · have h := br_T c_8 h
                    refine lv_aload_n hx hb dX12_verb_276 rfl (lv_at hl 0 rfl) ?_
                    refine lv_iconst (v := (0 : Int32)) hx hb dX12_verb_277 (by decide) ?_
                    refine lv_bipush (v := (111 : Int32)) hx hb dX12_verb_278 (by decide) ?_
                    refine lv_bipush (v := (112 : Int32)) hx hb dX12_verb_280 (by decide) ?_
                    refine lv_bipush (v := (101 : Int32)) hx hb dX12_verb_282 (by decide) ?_
                    refine lv_bipush (v := (110 : Int32)) hx hb dX12_verb_284 (by decide) ?_
                    refine lv_iconst (v := (0 : Int32)) hx hb dX12_verb_286 (by decide) ?_
                    obtain ⟨r_7, hr_7, h⟩ := bd_of h
                    refine m_cSl (As := [.int (111 : Int32), .int (112 : Int32), .int (101 : Int32), .int (110 : Int32), .int (0 : Int32)]) (rest := [.int (0 : Int32), .ref (α 0)]) C hM (cm_row l D ca α A r_6.2 (111 : Int32) (112 : Int32) (101 : Int32) (110 : Int32) (0 : Int32) r_7 hr_7) mwy_row ⟨rfl, rfl⟩ ⟨Nat.le_of_ble_eq_true rfl, Nat.le_of_ble_eq_true rfl⟩ rfl rfl (Nat.le_of_ble_eq_true rfl) hl.1 dX12_verb_287 ⟨rfl, rfl⟩ (fun H locs hM => ?_)
                    obtain ⟨r_8, hr_8, h⟩ := bd_of h
                    refine m_cVi (As := [.int (0 : Int32), .long r_7]) (rest := []) C hM (cm_isPart l D ca α A r_6.2 (0 : Int32) r_7 r_8 hr_8) mwy_isPart ⟨rfl, rfl⟩ ⟨Nat.le_of_ble_eq_true rfl, Nat.le_of_ble_eq_true rfl⟩ rfl rfl (Nat.le_of_ble_eq_true rfl) hl.1 dX12_verb_290 ⟨rfl, rfl⟩ (fun H locs hM => ?_)
                    refine lv_if_eq (tgt := 298) hx hb dX12_verb_293 (by decide) (fun c_9 => ?_) (fun c_9 => ?_)
                    · have h := br_T c_9 h
                      refine lv_aload_n hx hb dX12_verb_298 rfl (lv_at hl 0 rfl) ?_
                      refine lv_iconst (v := (0 : Int32)) hx hb dX12_verb_299 (by decide) ?_
                      refine lv_bipush (v := (99 : Int32)) hx hb dX12_verb_300 (by decide) ?_
                      refine lv_bipush (v := (108 : Int32)) hx hb dX12_verb_302 (by decide) ?_
                      refine lv_bipush (v := (111 : Int32)) hx hb dX12_verb_304 (by decide) ?_
                      refine lv_bipush (v := (115 : Int32)) hx hb dX12_verb_306 (by decide) ?_
                      refine lv_bipush (v := (101 : Int32)) hx hb dX12_verb_308 (by decide) ?_
                      obtain ⟨r_9, hr_9, h⟩ := bd_of h
                      refine m_cSl (As := [.int (99 : Int32), .int (108 : Int32), .int (111 : Int32), .int (115 : Int32), .int (101 : Int32)]) (rest := [.int (0 : Int32), .ref (α 0)]) C hM (cm_row l D ca α A r_8.2 (99 : Int32) (108 : Int32) (111 : Int32) (115 : Int32) (101 : Int32) r_9 hr_9) mwy_row ⟨rfl, rfl⟩ ⟨Nat.le_of_ble_eq_true rfl, Nat.le_of_ble_eq_true rfl⟩ rfl rfl (Nat.le_of_ble_eq_true rfl) hl.1 dX12_verb_310 ⟨rfl, rfl⟩ (fun H locs hM => ?_)
                      obtain ⟨r_10, hr_10, h⟩ := bd_of h
                      refine m_cVi (As := [.int (0 : Int32), .long r_9]) (rest := []) C hM (cm_isPart l D ca α A r_8.2 (0 : Int32) r_9 r_10 hr_10) mwy_isPart ⟨rfl, rfl⟩ ⟨Nat.le_of_ble_eq_true rfl, Nat.le_of_ble_eq_true rfl⟩ rfl rfl (Nat.le_of_ble_eq_true rfl) hl.1 dX12_verb_313 ⟨rfl, rfl⟩ (fun H locs hM => ?_)
                      refine lv_if_eq (tgt := 321) hx hb dX12_verb_316 (by decide) (fun c_10 => ?_) (fun c_10 => ?_)
                      · have h := br_T c_10 h
                        refine lv_aload_n hx hb dX12_verb_321 rfl (lv_at hl 0 rfl) ?_
                        refine lv_iconst (v := (0 : Int32)) hx hb dX12_verb_322 (by decide) ?_
                        refine lv_bipush (v := (108 : Int32)) hx hb dX12_verb_323 (by decide) ?_
                        refine lv_bipush (v := (105 : Int32)) hx hb dX12_verb_325 (by decide) ?_
                        refine lv_bipush (v := (103 : Int32)) hx hb dX12_verb_327 (by decide) ?_
                        refine lv_bipush (v := (104 : Int32)) hx hb dX12_verb_329 (by decide) ?_
                        refine lv_bipush (v := (116 : Int32)) hx hb dX12_verb_331 (by decide) ?_
                        obtain ⟨r_11, hr_11, h⟩ := bd_of h
                        refine m_cSl (As := [.int (108 : Int32), .int (105 : Int32), .int (103 : Int32), .int (104 : Int32), .int (116 : Int32)]) (rest := [.int (0 : Int32), .ref (α 0)]) C hM (cm_row l D ca α A r_10.2 (108 : Int32) (105 : Int32) (103 : Int32) (104 : Int32) (116 : Int32) r_11 hr_11) mwy_row ⟨rfl, rfl⟩ ⟨Nat.le_of_ble_eq_true rfl, Nat.le_of_ble_eq_true rfl⟩ rfl rfl (Nat.le_of_ble_eq_true rfl) hl.1 dX12_verb_333 ⟨rfl, rfl⟩ (fun H locs hM => ?_)
                        obtain ⟨r_12, hr_12, h⟩ := bd_of h
                        refine m_cVi (As := [.int (0 : Int32), .long r_11]) (rest := []) C hM (cm_isPart l D ca α A r_10.2 (0 : Int32) r_11 r_12 hr_12) mwy_isPart ⟨rfl, rfl⟩ ⟨Nat.le_of_ble_eq_true rfl, Nat.le_of_ble_eq_true rfl⟩ rfl rfl (Nat.le_of_ble_eq_true rfl) hl.1 dX12_verb_336 ⟨rfl, rfl⟩ (fun H locs hM => ?_)
                        refine lv_if_eq (tgt := 345) hx hb dX12_verb_339 (by decide) (fun c_11 => ?_) (fun c_11 => ?_)
                        · have h := br_T c_11 h
                          refine lv_aload_n hx hb dX12_verb_345 rfl (lv_at hl 0 rfl) ?_
                          refine lv_iconst (v := (0 : Int32)) hx hb dX12_verb_346 (by decide) ?_
                          refine lv_bipush (v := (100 : Int32)) hx hb dX12_verb_347 (by decide) ?_
                          refine lv_bipush (v := (111 : Int32)) hx hb dX12_verb_349 (by decide) ?_
                          refine lv_bipush (v := (117 : Int32)) hx hb dX12_verb_351 (by decide) ?_
                          refine lv_bipush (v := (115 : Int32)) hx hb dX12_verb_353 (by decide) ?_
                          refine lv_bipush (v := (101 : Int32)) hx hb dX12_verb_355 (by decide) ?_
                          obtain ⟨r_13, hr_13, h⟩ := bd_of h
                          refine m_cSl (As := [.int (100 : Int32), .int (111 : Int32), .int (117 : Int32), .int (115 : Int32), .int (101 : Int32)]) (rest := [.int (0 : Int32), .ref (α 0)]) C hM (cm_row l D ca α A r_12.2 (100 : Int32) (111 : Int32) (117 : Int32) (115 : Int32) (101 : Int32) r_13 hr_13) mwy_row ⟨rfl, rfl⟩ ⟨Nat.le_of_ble_eq_true rfl, Nat.le_of_ble_eq_true rfl⟩ rfl rfl (Nat.le_of_ble_eq_true rfl) hl.1 dX12_verb_357 ⟨rfl, rfl⟩ (fun H locs hM => ?_)
                          obtain ⟨r_14, hr_14, h⟩ := bd_of h
                          refine m_cVi (As := [.int (0 : Int32), .long r_13]) (rest := []) C hM (cm_isPart l D ca α A r_12.2 (0 : Int32) r_13 r_14 hr_14) mwy_isPart ⟨rfl, rfl⟩ ⟨Nat.le_of_ble_eq_true rfl, Nat.le_of_ble_eq_true rfl⟩ rfl rfl (Nat.le_of_ble_eq_true rfl) hl.1 dX12_verb_360 ⟨rfl, rfl⟩ (fun H locs hM => ?_)
                          refine lv_if_eq (tgt := 369) hx hb dX12_verb_363 (by decide) (fun c_12 => ?_) (fun c_12 => ?_)
                          · have h := br_T c_12 h
                            refine lv_aload_n hx hb dX12_verb_369 rfl (lv_at hl 0 rfl) ?_
                            refine lv_iconst (v := (0 : Int32)) hx hb dX12_verb_370 (by decide) ?_
                            refine lv_bipush (v := (108 : Int32)) hx hb dX12_verb_371 (by decide) ?_
                            refine lv_bipush (v := (111 : Int32)) hx hb dX12_verb_373 (by decide) ?_
                            refine lv_bipush (v := (111 : Int32)) hx hb dX12_verb_375 (by decide) ?_
                            refine lv_bipush (v := (107 : Int32)) hx hb dX12_verb_377 (by decide) ?_
                            refine lv_iconst (v := (0 : Int32)) hx hb dX12_verb_379 (by decide) ?_
                            obtain ⟨r_15, hr_15, h⟩ := bd_of h
                            refine m_cSl (As := [.int (108 : Int32), .int (111 : Int32), .int (111 : Int32), .int (107 : Int32), .int (0 : Int32)]) (rest := [.int (0 : Int32), .ref (α 0)]) C hM (cm_row l D ca α A r_14.2 (108 : Int32) (111 : Int32) (111 : Int32) (107 : Int32) (0 : Int32) r_15 hr_15) mwy_row ⟨rfl, rfl⟩ ⟨Nat.le_of_ble_eq_true rfl, Nat.le_of_ble_eq_true rfl⟩ rfl rfl (Nat.le_of_ble_eq_true rfl) hl.1 dX12_verb_380 ⟨rfl, rfl⟩ (fun H locs hM => ?_)
                            obtain ⟨r_16, hr_16, h⟩ := bd_of h
                            refine m_cVi (As := [.int (0 : Int32), .long r_15]) (rest := []) C hM (cm_isPart l D ca α A r_14.2 (0 : Int32) r_15 r_16 hr_16) mwy_isPart ⟨rfl, rfl⟩ ⟨Nat.le_of_ble_eq_true rfl, Nat.le_of_ble_eq_true rfl⟩ rfl rfl (Nat.le_of_ble_eq_true rfl) hl.1 dX12_verb_383 ⟨rfl, rfl⟩ (fun H locs hM => ?_)
                            refine lv_if_eq (tgt := 394) hx hb dX12_verb_386 (by decide) (fun c_13 => ?_) (fun c_13 => ?_)
                            · have h := br_T c_13 h
                              refine lv_iconst (v := (0 : Int32)) hx hb dX12_verb_394 (by decide) ?_
                              exact gm_verb_395 C hr hlk  _ _ _ _ _ hM (lv_sub hl [0] rfl) h
                            · have h := br_F c_13 h
                              refine lv_bipush (v := (8 : Int32)) hx hb dX12_verb_389 (by decide) ?_
                              refine lv_goto (tgt := 395) hx hb dX12_verb_391 (by decide) ?_
                              exact gm_verb_395 C hr hlk  _ _ _ _ _ hM (lv_sub hl [0] rfl) h
                          · have h := br_F c_12 h
                            refine lv_bipush (v := (7 : Int32)) hx hb dX12_verb_366 (by decide) ?_
                            exact m_ri C hM hr hlk dX12_verb_368 h
                        · have h := br_F c_11 h
                          refine lv_bipush (v := (6 : Int32)) hx hb dX12_verb_342 (by decide) ?_
                          exact m_ri C hM hr hlk dX12_verb_344 h
                      · have h := br_F c_10 h
                        refine lv_iconst (v := (5 : Int32)) hx hb dX12_verb_319 (by decide) ?_
                        exact m_ri C hM hr hlk dX12_verb_320 h
                    · have h := br_F c_9 h
                      refine lv_iconst (v := (4 : Int32)) hx hb dX12_verb_296 (by decide) ?_
                      exact m_ri C hM hr hlk dX12_verb_297 h
                  · have h := br_F c_8 h
                    refine lv_iconst (v := (3 : Int32)) hx hb dX12_verb_274 (by decide) ?_
                    exact m_ri C hM hr hlk dX12_verb_275 h
                · have h := br_F c_7 h
                  refine lv_iconst (v := (2 : Int32)) hx hb dX12_verb_252 (by decide) ?_
                  exact m_ri C hM hr hlk dX12_verb_253 h
              · have h := br_F c_6 h
                refine lv_aload_n hx hb dX12_verb_191 rfl (lv_at hl 0 rfl) ?_
                refine m_geta C hM (k := 41) (by decide) rfl dX12_verb_192 ?_
                refine lv_iconst (v := (1 : Int32)) hx hb dX12_verb_195 (by decide) ?_
                obtain ⟨c_14, h⟩ := ko_of h
                refine m_iald C hM (k := 41) rfl c_14 dX12_verb_196 ?_
                refine lv_aload_n hx hb dX12_verb_197 rfl (lv_at hl 0 rfl) ?_
                refine m_geta C hM (k := 40) (by decide) rfl dX12_verb_198 ?_
                refine lv_iconst (v := (1 : Int32)) hx hb dX12_verb_201 (by decide) ?_
                obtain ⟨c_15, h⟩ := ko_of h
                refine m_iald C hM (k := 40) rfl c_15 dX12_verb_202 ?_
                refine lv_isub hx hb dX12_verb_203 ?_
                refine lv_iconst (v := (1 : Int32)) hx hb dX12_verb_204 (by decide) ?_
                refine lv_icmp_ne (tgt := 230) hx hb dX12_verb_205 (by decide) (fun c_16 => ?_) (fun c_16 => ?_)
                · have h := br_F c_16 h
                  exact gm_verb_230 C hr hlk  _ _ _ _ hM (lv_sub hl [0] rfl) h
                · have h := br_T c_16 h
                  refine lv_aload_n hx hb dX12_verb_208 rfl (lv_at hl 0 rfl) ?_
                  refine m_geta C hM (k := 1) (by decide) rfl dX12_verb_209 ?_
                  refine lv_aload_n hx hb dX12_verb_212 rfl (lv_at hl 0 rfl) ?_
                  refine m_geta C hM (k := 40) (by decide) rfl dX12_verb_213 ?_
                  refine lv_iconst (v := (1 : Int32)) hx hb dX12_verb_216 (by decide) ?_
                  obtain ⟨c_17, h⟩ := ko_of h
                  refine m_iald C hM (k := 40) rfl c_17 dX12_verb_217 ?_
                  obtain ⟨c_18, h⟩ := ko_of h
                  refine m_iald C hM (k := 1) rfl c_18 dX12_verb_218 ?_
                  obtain ⟨r_17, hr_17, h⟩ := bd_of h
                  refine m_cSi (As := [.int (r_2.2.2.2.1 1 (r_2.2.2.2.1 40 (1 : Int32).toNatClampNeg).toNatClampNeg)]) (rest := []) C hM (cm_directionOf l D ca α A r_2.2 (r_2.2.2.2.1 1 (r_2.2.2.2.1 40 (1 : Int32).toNatClampNeg).toNatClampNeg) r_17 hr_17) mwy_directionOf ⟨rfl, rfl⟩ ⟨Nat.le_of_ble_eq_true rfl, Nat.le_of_ble_eq_true rfl⟩ rfl rfl (Nat.le_of_ble_eq_true rfl) hl.1 dX12_verb_219 ⟨rfl, rfl⟩ (fun H locs hM => ?_)
                  refine lv_iconst (v := (-1 : Int32)) hx hb dX12_verb_222 (by decide) ?_
                  refine lv_icmp_eq (tgt := 230) hx hb dX12_verb_223 (by decide) (fun c_19 => ?_) (fun c_19 => ?_)
                  · have h := br_T c_19 h
                    exact gm_verb_230 C hr hlk  _ _ _ _ hM (lv_sub hl [0] rfl) h
                  · have h := br_F c_19 h
                    refine lv_iconst (v := (1 : Int32)) hx hb dX12_verb_226 (by decide) ?_
                    refine lv_goto (tgt := 231) hx hb dX12_verb_227 (by decide) ?_
                    exact gm_verb_231 C hr hlk  _ _ _ _ _ hM (lv_sub hl [0] rfl) h
            · have h := br_F c_5 h
              refine lv_iconst (v := (0 : Int32)) hx hb dX12_verb_171 (by decide) ?_
              exact m_ri C hM hr hlk dX12_verb_172 h
          · have h := br_T c_4 h
            refine lv_aload_n hx hb dX12_verb_119 rfl (lv_at hl 0 rfl) ?_
            refine lv_iconst (v := (0 : Int32)) hx hb dX12_verb_120 (by decide) ?_
            refine lv_bipush (v := (112 : Int32)) hx hb dX12_verb_121 (by decide) ?_
            refine lv_bipush (v := (117 : Int32)) hx hb dX12_verb_123 (by decide) ?_
            refine lv_bipush (v := (116 : Int32)) hx hb dX12_verb_125 (by decide) ?_
            refine lv_iconst (v := (0 : Int32)) hx hb dX12_verb_127 (by decide) ?_
            refine lv_iconst (v := (0 : Int32)) hx hb dX12_verb_128 (by decide) ?_
            obtain ⟨r_18, hr_18, h⟩ := bd_of h
            refine m_cSl (As := [.int (112 : Int32), .int (117 : Int32), .int (116 : Int32), .int (0 : Int32), .int (0 : Int32)]) (rest := [.int (0 : Int32), .ref (α 0)]) C hM (cm_row l D ca α A σ (112 : Int32) (117 : Int32) (116 : Int32) (0 : Int32) (0 : Int32) r_18 hr_18) mwy_row ⟨rfl, rfl⟩ ⟨Nat.le_of_ble_eq_true rfl, Nat.le_of_ble_eq_true rfl⟩ rfl rfl (Nat.le_of_ble_eq_true rfl) hl.1 dX12_verb_129 ⟨rfl, rfl⟩ (fun H locs hM => ?_)
            obtain ⟨r_19, hr_19, h⟩ := bd_of h
            refine m_cVi (As := [.int (0 : Int32), .long r_18]) (rest := []) C hM (cm_isPart l D ca α A σ (0 : Int32) r_18 r_19 hr_19) mwy_isPart ⟨rfl, rfl⟩ ⟨Nat.le_of_ble_eq_true rfl, Nat.le_of_ble_eq_true rfl⟩ rfl rfl (Nat.le_of_ble_eq_true rfl) hl.1 dX12_verb_132 ⟨rfl, rfl⟩ (fun H locs hM => ?_)
            refine lv_if_eq (tgt := 161) hx hb dX12_verb_135 (by decide) (fun c_20 => ?_) (fun c_20 => ?_)
            · have h := br_T c_20 h
              exact gm_verb_161 C hr hlk  _ _ _ _ hM (lv_sub hl [0] rfl) h
            · have h := br_F c_20 h
              refine lv_aload_n hx hb dX12_verb_138 rfl (lv_at hl 0 rfl) ?_
              refine lv_iconst (v := (2 : Int32)) hx hb dX12_verb_139 (by decide) ?_
              refine lv_bipush (v := (105 : Int32)) hx hb dX12_verb_140 (by decide) ?_
              refine lv_bipush (v := (110 : Int32)) hx hb dX12_verb_142 (by decide) ?_
              refine lv_iconst (v := (0 : Int32)) hx hb dX12_verb_144 (by decide) ?_
              refine lv_iconst (v := (0 : Int32)) hx hb dX12_verb_145 (by decide) ?_
              refine lv_iconst (v := (0 : Int32)) hx hb dX12_verb_146 (by decide) ?_
              obtain ⟨r_20, hr_20, h⟩ := bd_of h
              refine m_cSl (As := [.int (105 : Int32), .int (110 : Int32), .int (0 : Int32), .int (0 : Int32), .int (0 : Int32)]) (rest := [.int (2 : Int32), .ref (α 0)]) C hM (cm_row l D ca α A r_19.2 (105 : Int32) (110 : Int32) (0 : Int32) (0 : Int32) (0 : Int32) r_20 hr_20) mwy_row ⟨rfl, rfl⟩ ⟨Nat.le_of_ble_eq_true rfl, Nat.le_of_ble_eq_true rfl⟩ rfl rfl (Nat.le_of_ble_eq_true rfl) hl.1 dX12_verb_147 ⟨rfl, rfl⟩ (fun H locs hM => ?_)
              obtain ⟨r_21, hr_21, h⟩ := bd_of h
              refine m_cVi (As := [.int (2 : Int32), .long r_20]) (rest := []) C hM (cm_isPart l D ca α A r_19.2 (2 : Int32) r_20 r_21 hr_21) mwy_isPart ⟨rfl, rfl⟩ ⟨Nat.le_of_ble_eq_true rfl, Nat.le_of_ble_eq_true rfl⟩ rfl rfl (Nat.le_of_ble_eq_true rfl) hl.1 dX12_verb_150 ⟨rfl, rfl⟩ (fun H locs hM => ?_)
              refine lv_if_eq (tgt := 161) hx hb dX12_verb_153 (by decide) (fun c_21 => ?_) (fun c_21 => ?_)
              · have h := br_T c_21 h
                exact gm_verb_161 C hr hlk  _ _ _ _ hM (lv_sub hl [0] rfl) h
              · have h := br_F c_21 h
                refine lv_bipush (v := (9 : Int32)) hx hb dX12_verb_156 (by decide) ?_
                refine lv_goto (tgt := 162) hx hb dX12_verb_158 (by decide) ?_
                exact gm_verb_162 C hr hlk  _ _ _ _ _ hM (lv_sub hl [0] rfl) h
        · have h := br_T c_3 h
          refine lv_aload_n hx hb dX12_verb_59 rfl (lv_at hl 0 rfl) ?_
          refine lv_iconst (v := (0 : Int32)) hx hb dX12_verb_60 (by decide) ?_
          refine lv_bipush (v := (108 : Int32)) hx hb dX12_verb_61 (by decide) ?_
          refine lv_bipush (v := (111 : Int32)) hx hb dX12_verb_63 (by decide) ?_
          refine lv_bipush (v := (111 : Int32)) hx hb dX12_verb_65 (by decide) ?_
          refine lv_bipush (v := (107 : Int32)) hx hb dX12_verb_67 (by decide) ?_
          refine lv_iconst (v := (0 : Int32)) hx hb dX12_verb_69 (by decide) ?_
          obtain ⟨r_22, hr_22, h⟩ := bd_of h
          refine m_cSl (As := [.int (108 : Int32), .int (111 : Int32), .int (111 : Int32), .int (107 : Int32), .int (0 : Int32)]) (rest := [.int (0 : Int32), .ref (α 0)]) C hM (cm_row l D ca α A σ (108 : Int32) (111 : Int32) (111 : Int32) (107 : Int32) (0 : Int32) r_22 hr_22) mwy_row ⟨rfl, rfl⟩ ⟨Nat.le_of_ble_eq_true rfl, Nat.le_of_ble_eq_true rfl⟩ rfl rfl (Nat.le_of_ble_eq_true rfl) hl.1 dX12_verb_70 ⟨rfl, rfl⟩ (fun H locs hM => ?_)
          obtain ⟨r_23, hr_23, h⟩ := bd_of h
          refine m_cVi (As := [.int (0 : Int32), .long r_22]) (rest := []) C hM (cm_isPart l D ca α A σ (0 : Int32) r_22 r_23 hr_23) mwy_isPart ⟨rfl, rfl⟩ ⟨Nat.le_of_ble_eq_true rfl, Nat.le_of_ble_eq_true rfl⟩ rfl rfl (Nat.le_of_ble_eq_true rfl) hl.1 dX12_verb_73 ⟨rfl, rfl⟩ (fun H locs hM => ?_)
          refine lv_if_eq (tgt := 84) hx hb dX12_verb_76 (by decide) (fun c_22 => ?_) (fun c_22 => ?_)
          · have h := br_T c_22 h
            refine lv_aload_n hx hb dX12_verb_84 rfl (lv_at hl 0 rfl) ?_
            refine lv_iconst (v := (0 : Int32)) hx hb dX12_verb_85 (by decide) ?_
            refine lv_bipush (v := (119 : Int32)) hx hb dX12_verb_86 (by decide) ?_
            refine lv_bipush (v := (97 : Int32)) hx hb dX12_verb_88 (by decide) ?_
            refine lv_bipush (v := (105 : Int32)) hx hb dX12_verb_90 (by decide) ?_
            refine lv_bipush (v := (116 : Int32)) hx hb dX12_verb_92 (by decide) ?_
            refine lv_iconst (v := (0 : Int32)) hx hb dX12_verb_94 (by decide) ?_
            obtain ⟨r_24, hr_24, h⟩ := bd_of h
            refine m_cSl (As := [.int (119 : Int32), .int (97 : Int32), .int (105 : Int32), .int (116 : Int32), .int (0 : Int32)]) (rest := [.int (0 : Int32), .ref (α 0)]) C hM (cm_row l D ca α A r_23.2 (119 : Int32) (97 : Int32) (105 : Int32) (116 : Int32) (0 : Int32) r_24 hr_24) mwy_row ⟨rfl, rfl⟩ ⟨Nat.le_of_ble_eq_true rfl, Nat.le_of_ble_eq_true rfl⟩ rfl rfl (Nat.le_of_ble_eq_true rfl) hl.1 dX12_verb_95 ⟨rfl, rfl⟩ (fun H locs hM => ?_)
            obtain ⟨r_25, hr_25, h⟩ := bd_of h
            refine m_cVi (As := [.int (0 : Int32), .long r_24]) (rest := []) C hM (cm_isPart l D ca α A r_23.2 (0 : Int32) r_24 r_25 hr_25) mwy_isPart ⟨rfl, rfl⟩ ⟨Nat.le_of_ble_eq_true rfl, Nat.le_of_ble_eq_true rfl⟩ rfl rfl (Nat.le_of_ble_eq_true rfl) hl.1 dX12_verb_98 ⟨rfl, rfl⟩ (fun H locs hM => ?_)
            refine lv_if_eq (tgt := 109) hx hb dX12_verb_101 (by decide) (fun c_23 => ?_) (fun c_23 => ?_)
            · have h := br_T c_23 h
              refine lv_iconst (v := (0 : Int32)) hx hb dX12_verb_109 (by decide) ?_
              exact gm_verb_110 C hr hlk  _ _ _ _ _ hM (lv_sub hl [0] rfl) h
            · have h := br_F c_23 h
              refine lv_bipush (v := (11 : Int32)) hx hb dX12_verb_104 (by decide) ?_
              refine lv_goto (tgt := 110) hx hb dX12_verb_106 (by decide) ?_
              exact gm_verb_110 C hr hlk  _ _ _ _ _ hM (lv_sub hl [0] rfl) h
          · have h := br_F c_22 h
            refine lv_bipush (v := (10 : Int32)) hx hb dX12_verb_79 (by decide) ?_
            refine lv_goto (tgt := 110) hx hb dX12_verb_81 (by decide) ?_
            exact gm_verb_110 C hr hlk  _ _ _ _ _ hM (lv_sub hl [0] rfl) h
      · have h := br_T c_2 h
        refine lv_iconst (v := (0 : Int32)) hx hb dX12_verb_49 (by decide) ?_
        exact m_ri C hM hr hlk dX12_verb_50 h
    · have h := br_F c_1 h
      refine lv_iload_n hx hb dX12_verb_16 rfl (lv_at hl 1 rfl) ?_
      refine lv_aload_n hx hb dX12_verb_17 rfl (lv_at hl 0 rfl) ?_
      refine m_geta C hM (k := 41) (by decide) rfl dX12_verb_18 ?_
      refine lv_iload_n hx hb dX12_verb_21 rfl (lv_at hl 2 rfl) ?_
      obtain ⟨c_24, h⟩ := ko_of h
      refine m_iald C hM (k := 41) rfl c_24 dX12_verb_22 ?_
      refine lv_aload_n hx hb dX12_verb_23 rfl (lv_at hl 0 rfl) ?_
      refine m_geta C hM (k := 40) (by decide) rfl dX12_verb_24 ?_
      refine lv_iload_n hx hb dX12_verb_27 rfl (lv_at hl 2 rfl) ?_
      obtain ⟨c_25, h⟩ := ko_of h
      refine m_iald C hM (k := 40) rfl c_25 dX12_verb_28 ?_
      refine lv_icmp_le (tgt := 36) hx hb dX12_verb_29 (by decide) (fun c_26 => ?_) (fun c_26 => ?_)
      · have h := br_T c_26 h
        refine lv_iconst (v := (0 : Int32)) hx hb dX12_verb_36 (by decide) ?_
        exact gm_verb_37 C hr hlk ih _ _ _ _ _ _ _ hM (lv_sub hl [0, 2] rfl) h
      · have h := br_F c_26 h
        refine lv_iconst (v := (1 : Int32)) hx hb dX12_verb_32 (by decide) ?_
        refine lv_goto (tgt := 37) hx hb dX12_verb_33 (by decide) ?_
        exact gm_verb_37 C hr hlk ih _ _ _ _ _ _ _ hM (lv_sub hl [0, 2] rfl) h
def fm_verb (σ : mS) : Option (Int32 × mS) :=
  (fm_parts σ).bind fun r_1 =>
  fm_verb_8 3000 r_1 (1 : Int32) (0 : Int32)
set_option maxHeartbeats 4000000 in
set_option maxRecDepth 100000 in
theorem cm_verb (l : Launch) (D : va_G) (ca : Nat → ClassId) (α : Nat → Nat) (A : Nat → Prop) (σ : mS) (o : Int32 × mS) (h : fm_verb σ  = some o) : mMetI l yX12_verb cX12_verb 3 (some .int) rmX12_verb D ca α A σ [] o := by
  refine Met.ofW (cc := cX12_verb) (maxL := 3) (ret := some .int) (by decide) rfl ?_
  intro p e s m args below meth c s₁ B hml hv
  obtain ⟨rfl, hP, hK, hD0⟩ := hv
  have C : mC p s m _ c cX12_verb 3 D ca := ⟨B.exec, B.bytes, hml, findClass_of_methodNamed B.named, fun w hw => atoms_spec (ws := mWs yX12_verb cX12_verb 3 (some .int)) B.pre w (List.mem_cons_of_mem _ hw), hK⟩
  have hM : mM D ca α A s.heap σ s.heap [] := ⟨hP, hD0, va_S.rf⟩
  have hr := B.returns
  have hlk := B.notSynchronized
  have hx := C.1
  have hb := C.2.1
  have hl := lv_entry ([.ref (α 0)]) (n := 3) (Nat.le_of_ble_eq_true rfl)
  rw [lg_entry_eq]
  generalize (lg_sl ([.ref (α 0)]) ++ List.replicate (3 - (lg_sl ([.ref (α 0)])).length) Slot.unset).toArray = ls at hl ⊢
  have hl : lv_has ls 3 [(0, .ref (α 0))] := hl
  unfold fm_verb at h
  refine lv_aload_n hx hb dX12_verb_0 rfl (lv_at hl 0 rfl) ?_
  obtain ⟨r_1, hr_1, h⟩ := bd_of h
  refine m_cVv (As := []) (rest := []) C hM (cm_parts l D ca α A σ  r_1 hr_1) mwy_parts ⟨rfl, rfl⟩ ⟨Nat.le_of_ble_eq_true rfl, Nat.le_of_ble_eq_true rfl⟩ rfl rfl (Nat.le_of_ble_eq_true rfl) hl.1 dX12_verb_1 ⟨rfl, rfl⟩ (fun H locs hM => ?_)
  refine lv_iconst (v := (1 : Int32)) hx hb dX12_verb_4 (by decide) ?_
  refine lv_istore_n (lv' := [(1, .int (1 : Int32)), (0, .ref (α 0))]) hx hb dX12_verb_5 rfl hl (by decide) rfl (fun ls hl => ?_)
  refine lv_iconst (v := (0 : Int32)) hx hb dX12_verb_6 (by decide) ?_
  refine lv_istore_n (lv' := [(2, .int (0 : Int32)), (1, .int (1 : Int32)), (0, .ref (α 0))]) hx hb dX12_verb_7 rfl hl (by decide) rfl (fun ls hl => ?_)
  exact gm_verb_8 C hr hlk  _ _ _ _ _ _ _ hM (lv_sub hl [2, 1, 0] rfl) h
theorem mwy_verb : mCallV RX12 268 yX12_verb cX12_verb 3 (some .int) 0 := ⟨⟨wl_in (i := 2134) (by decide +kernel), wl_in (i := 2136) (by decide +kernel), wl_inp (i := 42) (by decide +kernel), wl_in (i := 16) (by decide +kernel), wl_in (i := 2137) (by decide +kernel)⟩, rfl, by decide, by decide, by decide +kernel⟩
/-! thingAt(I)I -/
abbrev rmX12_thingAt : Room := { frames := 1, cells := 0, slots := 0, locals := 26 }
def fm_thingAt_37 (σ : mS) : Option (Int32 × mS) :=
  some ((-1 : Int32), σ)
set_option maxHeartbeats 4000000 in
set_option maxRecDepth 100000 in
theorem gm_thingAt_37 {p : Program} {l : Launch} {e : Env} {s : State} {m : MethodId} {args : Array Value} {below : List Frame} {meth : Method} {c : Code} {D : va_G} {ca : Nat → ClassId} {α : Nat → Nat} {A : Nat → Prop} {o : Int32 × mS} (C : mC p s m args c cX12_thingAt 4 D ca) (hr : meth.sig.returnType = some .int) (hlk : meth.locks = false) : ∀ (σ : mS) (H : Heap) (locs : List Loc) (ls : Array Slot), mM D ca α A s.heap σ H locs → lv_has ls 4 [(0, .ref (α 0))] → fm_thingAt_37 σ = some o → mGI p l e rmX12_thingAt s m args below meth c D ca α A o H locs 37 ls [] := by
  have hx := C.1
  have hb := C.2.1
  intro σ H locs ls hM hl h
  unfold fm_thingAt_37 at h
  refine lv_iconst (v := (-1 : Int32)) hx hb dX12_thingAt_37 (by decide) ?_
  exact m_ri C hM hr hlk dX12_thingAt_38 h
def fm_thingAt_56 (σ : mS) (s0 : Int32) : Option (Int32 × mS) :=
  some (s0, σ)
set_option maxHeartbeats 4000000 in
set_option maxRecDepth 100000 in
theorem gm_thingAt_56 {p : Program} {l : Launch} {e : Env} {s : State} {m : MethodId} {args : Array Value} {below : List Frame} {meth : Method} {c : Code} {D : va_G} {ca : Nat → ClassId} {α : Nat → Nat} {A : Nat → Prop} {o : Int32 × mS} (C : mC p s m args c cX12_thingAt 4 D ca) (hr : meth.sig.returnType = some .int) (hlk : meth.locks = false) : ∀ (σ : mS) (s0 : Int32) (H : Heap) (locs : List Loc) (ls : Array Slot), mM D ca α A s.heap σ H locs → lv_has ls 4 [(0, .ref (α 0))] → fm_thingAt_56 σ s0 = some o → mGI p l e rmX12_thingAt s m args below meth c D ca α A o H locs 56 ls [.int s0] := by
  have hx := C.1
  have hb := C.2.1
  intro σ s0 H locs ls hM hl h
  unfold fm_thingAt_56 at h
  exact m_ri C hM hr hlk dX12_thingAt_56 h
def fm_thingAt (σ : mS) (x1 : Int32) : Option (Int32 × mS) :=
  if x1 < 0 ∨ 31 ≤ x1.toNatClampNeg then none else
  if x1 < 0 ∨ 31 ≤ x1.toNatClampNeg then none else
  (fm_wordAt σ (σ.2.2.1 40 x1.toNatClampNeg) (σ.2.2.1 41 x1.toNatClampNeg)).bind fun r_1 =>
  if r_1.1 = (-1 : Int32) then
    fm_thingAt_37 r_1.2
  else
    (fm_knownAt r_1.2 (r_1.2.1 34)).bind fun r_2 =>
    (fm_has r_2.1 r_1.1).bind fun r_3 =>
    if r_3 = 0 then
      fm_thingAt_37 r_2.2
    else
      (fm_thingOf r_2.2 r_1.1).bind fun r_4 =>
      if r_4.1 = (-1 : Int32) then
        fm_thingAt_56 r_4.2 (-2 : Int32)
      else
        fm_thingAt_56 r_4.2 r_4.1
set_option maxHeartbeats 4000000 in
set_option maxRecDepth 100000 in
theorem cm_thingAt (l : Launch) (D : va_G) (ca : Nat → ClassId) (α : Nat → Nat) (A : Nat → Prop) (σ : mS) (x1 : Int32) (o : Int32 × mS) (h : fm_thingAt σ x1 = some o) : mMetI l yX12_thingAt cX12_thingAt 4 (some .int) rmX12_thingAt D ca α A σ [.int x1] o := by
  refine Met.ofW (cc := cX12_thingAt) (maxL := 4) (ret := some .int) (by decide) rfl ?_
  intro p e s m args below meth c s₁ B hml hv
  obtain ⟨rfl, hP, hK, hD0⟩ := hv
  have C : mC p s m _ c cX12_thingAt 4 D ca := ⟨B.exec, B.bytes, hml, findClass_of_methodNamed B.named, fun w hw => atoms_spec (ws := mWs yX12_thingAt cX12_thingAt 4 (some .int)) B.pre w (List.mem_cons_of_mem _ hw), hK⟩
  have hM : mM D ca α A s.heap σ s.heap [] := ⟨hP, hD0, va_S.rf⟩
  have hr := B.returns
  have hlk := B.notSynchronized
  have hx := C.1
  have hb := C.2.1
  have hl := lv_entry ([.ref (α 0), .int x1]) (n := 4) (Nat.le_of_ble_eq_true rfl)
  rw [lg_entry_eq]
  generalize (lg_sl ([.ref (α 0), .int x1]) ++ List.replicate (4 - (lg_sl ([.ref (α 0), .int x1])).length) Slot.unset).toArray = ls at hl ⊢
  have hl : lv_has ls 4 [(0, .ref (α 0)), (1, .int x1)] := hl
  unfold fm_thingAt at h
  refine lv_aload_n hx hb dX12_thingAt_0 rfl (lv_at hl 0 rfl) ?_
  refine lv_aload_n hx hb dX12_thingAt_1 rfl (lv_at hl 0 rfl) ?_
  refine m_geta C hM (k := 40) (by decide) rfl dX12_thingAt_2 ?_
  refine lv_iload_n hx hb dX12_thingAt_5 rfl (lv_at hl 1 rfl) ?_
  obtain ⟨c_1, h⟩ := ko_of h
  refine m_iald C hM (k := 40) rfl c_1 dX12_thingAt_6 ?_
  refine lv_aload_n hx hb dX12_thingAt_7 rfl (lv_at hl 0 rfl) ?_
  refine m_geta C hM (k := 41) (by decide) rfl dX12_thingAt_8 ?_
  refine lv_iload_n hx hb dX12_thingAt_11 rfl (lv_at hl 1 rfl) ?_
  obtain ⟨c_2, h⟩ := ko_of h
  refine m_iald C hM (k := 41) rfl c_2 dX12_thingAt_12 ?_
  obtain ⟨r_1, hr_1, h⟩ := bd_of h
  refine m_cVi (As := [.int (σ.2.2.1 40 x1.toNatClampNeg), .int (σ.2.2.1 41 x1.toNatClampNeg)]) (rest := []) C hM (cm_wordAt l D ca α A σ (σ.2.2.1 40 x1.toNatClampNeg) (σ.2.2.1 41 x1.toNatClampNeg) r_1 hr_1) mwy_wordAt ⟨rfl, rfl⟩ ⟨Nat.le_of_ble_eq_true rfl, Nat.le_of_ble_eq_true rfl⟩ rfl rfl (Nat.le_of_ble_eq_true rfl) hl.1 dX12_thingAt_13 ⟨rfl, rfl⟩ (fun H locs hM => ?_)
  refine lv_istore_n (lv' := [(2, .int r_1.1), (0, .ref (α 0)), (1, .int x1)]) hx hb dX12_thingAt_16 rfl hl (by decide) rfl (fun ls hl => ?_)
  refine lv_iload_n hx hb dX12_thingAt_17 rfl (lv_at hl 0 rfl) ?_
  refine lv_iconst (v := (-1 : Int32)) hx hb dX12_thingAt_18 (by decide) ?_
  refine lv_icmp_eq (tgt := 37) hx hb dX12_thingAt_19 (by decide) (fun c_3 => ?_) (fun c_3 => ?_)
  · have h := br_T c_3 h
    exact gm_thingAt_37 C hr hlk  _ _ _ _ hM (lv_sub hl [1] rfl) h
  · have h := br_F c_3 h
    refine lv_aload_n hx hb dX12_thingAt_22 rfl (lv_at hl 1 rfl) ?_
    refine lv_aload_n hx hb dX12_thingAt_23 rfl (lv_at hl 1 rfl) ?_
    refine m_geti C hM (k := 34) (Or.inl rfl) rfl dX12_thingAt_24 ?_
    obtain ⟨r_2, hr_2, h⟩ := bd_of h
    refine m_cVl (As := [.int (r_1.2.1 34)]) (rest := []) C hM (cm_knownAt l D ca α A r_1.2 (r_1.2.1 34) r_2 hr_2) mwy_knownAt ⟨rfl, rfl⟩ ⟨Nat.le_of_ble_eq_true rfl, Nat.le_of_ble_eq_true rfl⟩ rfl rfl (Nat.le_of_ble_eq_true rfl) hl.1 dX12_thingAt_27 ⟨rfl, rfl⟩ (fun H locs hM => ?_)
    refine lv_iload_n hx hb dX12_thingAt_30 rfl (lv_at hl 0 rfl) ?_
    obtain ⟨r_3, hr_3, h⟩ := bd_of h
    refine m_cSi (As := [.long r_2.1, .int r_1.1]) (rest := []) C hM (cm_has l D ca α A r_2.2 r_2.1 r_1.1 r_3 hr_3) mwy_has ⟨rfl, rfl⟩ ⟨Nat.le_of_ble_eq_true rfl, Nat.le_of_ble_eq_true rfl⟩ rfl rfl (Nat.le_of_ble_eq_true rfl) hl.1 dX12_thingAt_31 ⟨rfl, rfl⟩ (fun H locs hM => ?_)
    refine lv_if_ne (tgt := 39) hx hb dX12_thingAt_34 (by decide) (fun c_4 => ?_) (fun c_4 => ?_)
    · have h := br_F c_4 h
      refine lv_aload_n hx hb dX12_thingAt_39 rfl (lv_at hl 1 rfl) ?_
      refine lv_iload_n hx hb dX12_thingAt_40 rfl (lv_at hl 0 rfl) ?_
      obtain ⟨r_4, hr_4, h⟩ := bd_of h
      refine m_cVi (As := [.int r_1.1]) (rest := []) C hM (cm_thingOf l D ca α A r_2.2 r_1.1 r_4 hr_4) mwy_thingOf ⟨rfl, rfl⟩ ⟨Nat.le_of_ble_eq_true rfl, Nat.le_of_ble_eq_true rfl⟩ rfl rfl (Nat.le_of_ble_eq_true rfl) hl.1 dX12_thingAt_41 ⟨rfl, rfl⟩ (fun H locs hM => ?_)
      refine lv_istore_n (lv' := [(3, .int r_4.1), (2, .int r_1.1), (0, .ref (α 0)), (1, .int x1)]) hx hb dX12_thingAt_44 rfl hl (by decide) rfl (fun ls hl => ?_)
      refine lv_iload_n hx hb dX12_thingAt_45 rfl (lv_at hl 0 rfl) ?_
      refine lv_iconst (v := (-1 : Int32)) hx hb dX12_thingAt_46 (by decide) ?_
      refine lv_icmp_ne (tgt := 55) hx hb dX12_thingAt_47 (by decide) (fun c_5 => ?_) (fun c_5 => ?_)
      · have h := br_F c_5 h
        refine lv_iload_n hx hb dX12_thingAt_55 rfl (lv_at hl 0 rfl) ?_
        exact gm_thingAt_56 C hr hlk  _ _ _ _ _ hM (lv_sub hl [2] rfl) h
      · have h := br_T c_5 h
        refine lv_bipush (v := (-2 : Int32)) hx hb dX12_thingAt_50 (by decide) ?_
        refine lv_goto (tgt := 56) hx hb dX12_thingAt_52 (by decide) ?_
        exact gm_thingAt_56 C hr hlk  _ _ _ _ _ hM (lv_sub hl [2] rfl) h
    · have h := br_T c_4 h
      exact gm_thingAt_37 C hr hlk  _ _ _ _ hM (lv_sub hl [1] rfl) h
theorem mwy_thingAt : mCallV RX12 275 yX12_thingAt cX12_thingAt 4 (some .int) 1 := ⟨⟨wl_in (i := 2157) (by decide +kernel), wl_in (i := 2159) (by decide +kernel), wl_inp (i := 46) (by decide +kernel), wl_in (i := 16) (by decide +kernel), wl_in (i := 2160) (by decide +kernel)⟩, rfl, by decide, by decide, by decide +kernel⟩
/-! isFree(II)Z -/
abbrev rmX12_isFree : Room := { frames := 0, cells := 0, slots := 0, locals := 0 }
def fm_isFree_48 (σ : mS) (s0 : Int32) : Option (Int32 × mS) :=
  if s0 &&& 1 = s0 then some (s0, σ) else none
set_option maxHeartbeats 4000000 in
set_option maxRecDepth 100000 in
theorem gm_isFree_48 {p : Program} {l : Launch} {e : Env} {s : State} {m : MethodId} {args : Array Value} {below : List Frame} {meth : Method} {c : Code} {D : va_G} {ca : Nat → ClassId} {α : Nat → Nat} {A : Nat → Prop} {o : Int32 × mS} (C : mC p s m args c cX12_isFree 4 D ca) (hr : meth.sig.returnType = some .boolean) (hlk : meth.locks = false) : ∀ (σ : mS) (s0 : Int32) (H : Heap) (locs : List Loc) (ls : Array Slot), mM D ca α A s.heap σ H locs → lv_has ls 4 [(0, .ref (α 0))] → fm_isFree_48 σ s0 = some o → mGI p l e rmX12_isFree s m args below meth c D ca α A o H locs 48 ls [.int s0] := by
  have hx := C.1
  have hb := C.2.1
  intro σ s0 H locs ls hM hl h
  unfold fm_isFree_48 at h
  exact m_rz C hM hr hlk dX12_isFree_48 h
def fm_isFree_43 (σ : mS) : Option (Int32 × mS) :=
  fm_isFree_48 σ (1 : Int32)
set_option maxHeartbeats 4000000 in
set_option maxRecDepth 100000 in
theorem gm_isFree_43 {p : Program} {l : Launch} {e : Env} {s : State} {m : MethodId} {args : Array Value} {below : List Frame} {meth : Method} {c : Code} {D : va_G} {ca : Nat → ClassId} {α : Nat → Nat} {A : Nat → Prop} {o : Int32 × mS} (C : mC p s m args c cX12_isFree 4 D ca) (hr : meth.sig.returnType = some .boolean) (hlk : meth.locks = false) : ∀ (σ : mS) (H : Heap) (locs : List Loc) (ls : Array Slot), mM D ca α A s.heap σ H locs → lv_has ls 4 [(0, .ref (α 0))] → fm_isFree_43 σ = some o → mGI p l e rmX12_isFree s m args below meth c D ca α A o H locs 43 ls [] := by
  have hx := C.1
  have hb := C.2.1
  intro σ H locs ls hM hl h
  unfold fm_isFree_43 at h
  refine lv_iconst (v := (1 : Int32)) hx hb dX12_isFree_43 (by decide) ?_
  refine lv_goto (tgt := 48) hx hb dX12_isFree_44 (by decide) ?_
  exact gm_isFree_48 C hr hlk  _ _ _ _ _ hM (lv_sub hl [0] rfl) h
def fm_isFree_47 (σ : mS) : Option (Int32 × mS) :=
  fm_isFree_48 σ (0 : Int32)
set_option maxHeartbeats 4000000 in
set_option maxRecDepth 100000 in
theorem gm_isFree_47 {p : Program} {l : Launch} {e : Env} {s : State} {m : MethodId} {args : Array Value} {below : List Frame} {meth : Method} {c : Code} {D : va_G} {ca : Nat → ClassId} {α : Nat → Nat} {A : Nat → Prop} {o : Int32 × mS} (C : mC p s m args c cX12_isFree 4 D ca) (hr : meth.sig.returnType = some .boolean) (hlk : meth.locks = false) : ∀ (σ : mS) (H : Heap) (locs : List Loc) (ls : Array Slot), mM D ca α A s.heap σ H locs → lv_has ls 4 [(0, .ref (α 0))] → fm_isFree_47 σ = some o → mGI p l e rmX12_isFree s m args below meth c D ca α A o H locs 47 ls [] := by
  have hx := C.1
  have hb := C.2.1
  intro σ H locs ls hM hl h
  unfold fm_isFree_47 at h
  refine lv_iconst (v := (0 : Int32)) hx hb dX12_isFree_47 (by decide) ?_
  exact gm_isFree_48 C hr hlk  _ _ _ _ _ hM (lv_sub hl [0] rfl) h
def fm_isFree (σ : mS) (x1 : Int32) (x2 : Int32) : Option (Int32 × mS) :=
  if (((6 : Int32) * x1) + x2) < 0 ∨ 72 ≤ (((6 : Int32) * x1) + x2).toNatClampNeg then none else
  if (σ.2.2.1 7 (((6 : Int32) * x1) + x2).toNatClampNeg) = (-1 : Int32) then
    fm_isFree_47 σ
  else
    if (((6 : Int32) * x1) + x2) < 0 ∨ 72 ≤ (((6 : Int32) * x1) + x2).toNatClampNeg then none else
    if (σ.2.2.1 8 (((6 : Int32) * x1) + x2).toNatClampNeg) = (-1 : Int32) then
      fm_isFree_43 σ
    else
      if (((6 : Int32) * x1) + x2) < 0 ∨ 72 ≤ (((6 : Int32) * x1) + x2).toNatClampNeg then none else
      if (σ.2.2.1 8 (((6 : Int32) * x1) + x2).toNatClampNeg) < 0 ∨ 12 ≤ (σ.2.2.1 8 (((6 : Int32) * x1) + x2).toNatClampNeg).toNatClampNeg then none else
      if (σ.2.2.1 36 (σ.2.2.1 8 (((6 : Int32) * x1) + x2).toNatClampNeg).toNatClampNeg) = (100 : Int32) then
        fm_isFree_43 σ
      else
        fm_isFree_47 σ
set_option maxHeartbeats 4000000 in
set_option maxRecDepth 100000 in
theorem cm_isFree (l : Launch) (D : va_G) (ca : Nat → ClassId) (α : Nat → Nat) (A : Nat → Prop) (σ : mS) (x1 : Int32) (x2 : Int32) (o : Int32 × mS) (h : fm_isFree σ x1 x2 = some o) : mMetI l yX12_isFree cX12_isFree 4 (some .boolean) rmX12_isFree D ca α A σ [.int x1, .int x2] o := by
  refine Met.ofW (cc := cX12_isFree) (maxL := 4) (ret := some .boolean) (by decide) rfl ?_
  intro p e s m args below meth c s₁ B hml hv
  obtain ⟨rfl, hP, hK, hD0⟩ := hv
  have C : mC p s m _ c cX12_isFree 4 D ca := ⟨B.exec, B.bytes, hml, findClass_of_methodNamed B.named, fun w hw => atoms_spec (ws := mWs yX12_isFree cX12_isFree 4 (some .boolean)) B.pre w (List.mem_cons_of_mem _ hw), hK⟩
  have hM : mM D ca α A s.heap σ s.heap [] := ⟨hP, hD0, va_S.rf⟩
  have hr := B.returns
  have hlk := B.notSynchronized
  have hx := C.1
  have hb := C.2.1
  have hl := lv_entry ([.ref (α 0), .int x1, .int x2]) (n := 4) (Nat.le_of_ble_eq_true rfl)
  rw [lg_entry_eq]
  generalize (lg_sl ([.ref (α 0), .int x1, .int x2]) ++ List.replicate (4 - (lg_sl ([.ref (α 0), .int x1, .int x2])).length) Slot.unset).toArray = ls at hl ⊢
  have hl : lv_has ls 4 [(0, .ref (α 0)), (1, .int x1), (2, .int x2)] := hl
  unfold fm_isFree at h
  refine lv_bipush (v := (6 : Int32)) hx hb dX12_isFree_0 (by decide) ?_
  refine lv_iload_n hx hb dX12_isFree_2 rfl (lv_at hl 1 rfl) ?_
  refine lv_imul hx hb dX12_isFree_3 ?_
  refine lv_iload_n hx hb dX12_isFree_4 rfl (lv_at hl 2 rfl) ?_
  refine lv_iadd hx hb dX12_isFree_5 ?_
  refine lv_istore_n (lv' := [(3, .int (((6 : Int32) * x1) + x2)), (0, .ref (α 0)), (1, .int x1), (2, .int x2)]) hx hb dX12_isFree_6 rfl hl (by decide) rfl (fun ls hl => ?_)
  refine lv_aload_n hx hb dX12_isFree_7 rfl (lv_at hl 1 rfl) ?_
  refine m_geta C hM (k := 7) (by decide) rfl dX12_isFree_8 ?_
  refine lv_iload_n hx hb dX12_isFree_11 rfl (lv_at hl 0 rfl) ?_
  obtain ⟨c_1, h⟩ := ko_of h
  refine m_iald C hM (k := 7) rfl c_1 dX12_isFree_12 ?_
  refine lv_iconst (v := (-1 : Int32)) hx hb dX12_isFree_13 (by decide) ?_
  refine lv_icmp_eq (tgt := 47) hx hb dX12_isFree_14 (by decide) (fun c_2 => ?_) (fun c_2 => ?_)
  · have h := br_T c_2 h
    exact gm_isFree_47 C hr hlk  _ _ _ _ hM (lv_sub hl [1] rfl) h
  · have h := br_F c_2 h
    refine lv_aload_n hx hb dX12_isFree_17 rfl (lv_at hl 1 rfl) ?_
    refine m_geta C hM (k := 8) (by decide) rfl dX12_isFree_18 ?_
    refine lv_iload_n hx hb dX12_isFree_21 rfl (lv_at hl 0 rfl) ?_
    obtain ⟨c_3, h⟩ := ko_of h
    refine m_iald C hM (k := 8) rfl c_3 dX12_isFree_22 ?_
    refine lv_iconst (v := (-1 : Int32)) hx hb dX12_isFree_23 (by decide) ?_
    refine lv_icmp_eq (tgt := 43) hx hb dX12_isFree_24 (by decide) (fun c_4 => ?_) (fun c_4 => ?_)
    · have h := br_T c_4 h
      exact gm_isFree_43 C hr hlk  _ _ _ _ hM (lv_sub hl [1] rfl) h
    · have h := br_F c_4 h
      refine lv_aload_n hx hb dX12_isFree_27 rfl (lv_at hl 1 rfl) ?_
      refine m_geta C hM (k := 36) (by decide) rfl dX12_isFree_28 ?_
      refine lv_aload_n hx hb dX12_isFree_31 rfl (lv_at hl 1 rfl) ?_
      refine m_geta C hM (k := 8) (by decide) rfl dX12_isFree_32 ?_
      refine lv_iload_n hx hb dX12_isFree_35 rfl (lv_at hl 0 rfl) ?_
      obtain ⟨c_5, h⟩ := ko_of h
      refine m_iald C hM (k := 8) rfl c_5 dX12_isFree_36 ?_
      obtain ⟨c_6, h⟩ := ko_of h
      refine m_iald C hM (k := 36) rfl c_6 dX12_isFree_37 ?_
      refine lv_bipush (v := (100 : Int32)) hx hb dX12_isFree_38 (by decide) ?_
      refine lv_icmp_ne (tgt := 47) hx hb dX12_isFree_40 (by decide) (fun c_7 => ?_) (fun c_7 => ?_)
      · have h := br_F c_7 h
        exact gm_isFree_47 C hr hlk  _ _ _ _ hM (lv_sub hl [1] rfl) h
      · have h := br_T c_7 h
        exact gm_isFree_43 C hr hlk  _ _ _ _ hM (lv_sub hl [1] rfl) h
theorem mwy_isFree : mCallV RX12 256 yX12_isFree cX12_isFree 4 (some .boolean) 2 := ⟨⟨wl_in (i := 2165) (by decide +kernel), wl_in (i := 2167) (by decide +kernel), wl_inp (i := 48) (by decide +kernel), wl_in (i := 16) (by decide +kernel), wl_in (i := 2168) (by decide +kernel)⟩, rfl, by decide, by decide, by decide +kernel⟩
