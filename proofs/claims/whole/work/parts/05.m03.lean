/-! The reference's methods: what each makes of the state (fm_..), as the bytecode has it; and that it does (cm_..). -/

/-! weightWith(I)I -/
abbrev rmX12_weightWith : Room := { frames := 0, cells := 0, slots := 0, locals := 0 }
def fm_weightWith_74 (k_4 : mS → Int32 → Int32 → Int32 → Option (Int32 × mS)) (σ : mS) (x1 : Int32) (x3 : Int32) (s0 : Int32) (s1 : Int32) : Option (Int32 × mS) :=
  k_4 σ x1 (s1 + s0) (x3 + (1 : Int32))
set_option maxHeartbeats 4000000 in
set_option maxRecDepth 100000 in
theorem gm_weightWith_74 {p : Program} {l : Launch} {e : Env} {s : State} {m : MethodId} {args : Array Value} {below : List Frame} {meth : Method} {c : Code} {D : va_G} {ca : Nat → ClassId} {α : Nat → Nat} {A : Nat → Prop} {o : Int32 × mS} {k_4 : mS → Int32 → Int32 → Int32 → Option (Int32 × mS)} (C : mC p s m args c cX12_weightWith 5 D ca) (hr : meth.sig.returnType = some .int) (hlk : meth.locks = false) (hk_4 : ∀ (σ : mS) (x1 : Int32) (x2 : Int32) (x3 : Int32) (H : Heap) (locs : List Loc) (ls : Array Slot), mM D ca α A s.heap σ H locs → lv_has ls 5 [(0, .ref (α 0)), (1, .int x1), (2, .int x2), (3, .int x3)] → k_4 σ x1 x2 x3 = some o → mGI p l e rmX12_weightWith s m args below meth c D ca α A o H locs 4 ls []) : ∀ (σ : mS) (x1 : Int32) (x3 : Int32) (s0 : Int32) (s1 : Int32) (H : Heap) (locs : List Loc) (ls : Array Slot), mM D ca α A s.heap σ H locs → lv_has ls 5 [(0, .ref (α 0)), (1, .int x1), (3, .int x3)] → fm_weightWith_74 k_4 σ x1 x3 s0 s1 = some o → mGI p l e rmX12_weightWith s m args below meth c D ca α A o H locs 74 ls [.int s0, .int s1] := by
  have hx := C.1
  have hb := C.2.1
  intro σ x1 x3 s0 s1 H locs ls hM hl h
  unfold fm_weightWith_74 at h
  refine lv_iadd hx hb dX12_weightWith_74 ?_
  refine lv_istore_n (lv' := [(2, .int (s1 + s0)), (0, .ref (α 0)), (1, .int x1), (3, .int x3)]) hx hb dX12_weightWith_75 rfl hl (by decide) rfl (fun ls hl => ?_)
  refine lv_iinc (v := (x3 + (1 : Int32))) (lv' := [(3, .int (x3 + (1 : Int32))), (2, .int (s1 + s0)), (0, .ref (α 0)), (1, .int x1)]) hx hb dX12_weightWith_76 hl (k := 3) rfl rfl (by decide) rfl (fun ls hl => ?_)
  refine lv_goto (tgt := 4) hx hb dX12_weightWith_79 (by decide) ?_
  exact hk_4 _ _ _ _ _ _ _ hM (lv_sub hl [2, 3, 1, 0] rfl) h
def fm_weightWith_64 (k_4 : mS → Int32 → Int32 → Int32 → Option (Int32 × mS)) (σ : mS) (x1 : Int32) (x3 : Int32) (s0 : Int32) : Option (Int32 × mS) :=
  if x3 < 0 ∨ 12 ≤ x3.toNatClampNeg then none else
  fm_weightWith_74 k_4 σ x1 x3 (σ.2.2.1 12 x3.toNatClampNeg) s0
set_option maxHeartbeats 4000000 in
set_option maxRecDepth 100000 in
theorem gm_weightWith_64 {p : Program} {l : Launch} {e : Env} {s : State} {m : MethodId} {args : Array Value} {below : List Frame} {meth : Method} {c : Code} {D : va_G} {ca : Nat → ClassId} {α : Nat → Nat} {A : Nat → Prop} {o : Int32 × mS} {k_4 : mS → Int32 → Int32 → Int32 → Option (Int32 × mS)} (C : mC p s m args c cX12_weightWith 5 D ca) (hr : meth.sig.returnType = some .int) (hlk : meth.locks = false) (hk_4 : ∀ (σ : mS) (x1 : Int32) (x2 : Int32) (x3 : Int32) (H : Heap) (locs : List Loc) (ls : Array Slot), mM D ca α A s.heap σ H locs → lv_has ls 5 [(0, .ref (α 0)), (1, .int x1), (2, .int x2), (3, .int x3)] → k_4 σ x1 x2 x3 = some o → mGI p l e rmX12_weightWith s m args below meth c D ca α A o H locs 4 ls []) : ∀ (σ : mS) (x1 : Int32) (x3 : Int32) (s0 : Int32) (H : Heap) (locs : List Loc) (ls : Array Slot), mM D ca α A s.heap σ H locs → lv_has ls 5 [(0, .ref (α 0)), (1, .int x1), (3, .int x3)] → fm_weightWith_64 k_4 σ x1 x3 s0 = some o → mGI p l e rmX12_weightWith s m args below meth c D ca α A o H locs 64 ls [.int s0] := by
  have hx := C.1
  have hb := C.2.1
  intro σ x1 x3 s0 H locs ls hM hl h
  unfold fm_weightWith_64 at h
  refine lv_aload_n hx hb dX12_weightWith_64 rfl (lv_at hl 0 rfl) ?_
  refine m_geta C hM (k := 12) (by decide) rfl dX12_weightWith_65 ?_
  refine lv_iload_n hx hb dX12_weightWith_68 rfl (lv_at hl 2 rfl) ?_
  obtain ⟨c_1, h⟩ := ko_of h
  refine m_iald C hM (k := 12) rfl c_1 dX12_weightWith_69 ?_
  refine lv_goto (tgt := 74) hx hb dX12_weightWith_70 (by decide) ?_
  exact gm_weightWith_74 C hr hlk hk_4 _ _ _ _ _ _ _ _ hM (lv_sub hl [0, 1, 2] rfl) h
def fm_weightWith_43 (k_4 : mS → Int32 → Int32 → Int32 → Option (Int32 × mS)) (σ : mS) (x1 : Int32) (x2 : Int32) (x3 : Int32) (s0 : Int32) : Option (Int32 × mS) :=
  if s0 = x1 then
    fm_weightWith_64 k_4 σ x1 x3 x2
  else
    if s0 < 0 ∨ 12 ≤ s0.toNatClampNeg then none else
    if (σ.2.2.1 36 s0.toNatClampNeg) = (100 : Int32) then
      fm_weightWith_64 k_4 σ x1 x3 x2
    else
      fm_weightWith_74 k_4 σ x1 x3 (0 : Int32) x2
set_option maxHeartbeats 4000000 in
set_option maxRecDepth 100000 in
theorem gm_weightWith_43 {p : Program} {l : Launch} {e : Env} {s : State} {m : MethodId} {args : Array Value} {below : List Frame} {meth : Method} {c : Code} {D : va_G} {ca : Nat → ClassId} {α : Nat → Nat} {A : Nat → Prop} {o : Int32 × mS} {k_4 : mS → Int32 → Int32 → Int32 → Option (Int32 × mS)} (C : mC p s m args c cX12_weightWith 5 D ca) (hr : meth.sig.returnType = some .int) (hlk : meth.locks = false) (hk_4 : ∀ (σ : mS) (x1 : Int32) (x2 : Int32) (x3 : Int32) (H : Heap) (locs : List Loc) (ls : Array Slot), mM D ca α A s.heap σ H locs → lv_has ls 5 [(0, .ref (α 0)), (1, .int x1), (2, .int x2), (3, .int x3)] → k_4 σ x1 x2 x3 = some o → mGI p l e rmX12_weightWith s m args below meth c D ca α A o H locs 4 ls []) : ∀ (σ : mS) (x1 : Int32) (x2 : Int32) (x3 : Int32) (s0 : Int32) (H : Heap) (locs : List Loc) (ls : Array Slot), mM D ca α A s.heap σ H locs → lv_has ls 5 [(0, .ref (α 0)), (1, .int x1), (2, .int x2), (3, .int x3)] → fm_weightWith_43 k_4 σ x1 x2 x3 s0 = some o → mGI p l e rmX12_weightWith s m args below meth c D ca α A o H locs 43 ls [.int s0] := by
  have hx := C.1
  have hb := C.2.1
  intro σ x1 x2 x3 s0 H locs ls hM hl h
  unfold fm_weightWith_43 at h
  refine lv_istore (lv' := [(4, .int s0), (0, .ref (α 0)), (1, .int x1), (2, .int x2), (3, .int x3)]) hx hb dX12_weightWith_43 hl (by decide) rfl (fun ls hl => ?_)
  refine lv_iload_n hx hb dX12_weightWith_45 rfl (lv_at hl 3 rfl) ?_
  refine lv_iload hx hb dX12_weightWith_46 (lv_at hl 0 rfl) ?_
  refine lv_iload_n hx hb dX12_weightWith_48 rfl (lv_at hl 2 rfl) ?_
  refine lv_icmp_eq (tgt := 64) hx hb dX12_weightWith_49 (by decide) (fun c_1 => ?_) (fun c_1 => ?_)
  · have h := br_T c_1 h
    exact gm_weightWith_64 C hr hlk hk_4 _ _ _ _ _ _ _ hM (lv_sub hl [1, 2, 4] rfl) h
  · have h := br_F c_1 h
    refine lv_aload_n hx hb dX12_weightWith_52 rfl (lv_at hl 1 rfl) ?_
    refine m_geta C hM (k := 36) (by decide) rfl dX12_weightWith_53 ?_
    refine lv_iload hx hb dX12_weightWith_56 (lv_at hl 0 rfl) ?_
    obtain ⟨c_2, h⟩ := ko_of h
    refine m_iald C hM (k := 36) rfl c_2 dX12_weightWith_58 ?_
    refine lv_bipush (v := (100 : Int32)) hx hb dX12_weightWith_59 (by decide) ?_
    refine lv_icmp_ne (tgt := 73) hx hb dX12_weightWith_61 (by decide) (fun c_3 => ?_) (fun c_3 => ?_)
    · have h := br_F c_3 h
      refine lv_iconst (v := (0 : Int32)) hx hb dX12_weightWith_73 (by decide) ?_
      exact gm_weightWith_74 C hr hlk hk_4 _ _ _ _ _ _ _ _ hM (lv_sub hl [1, 2, 4] rfl) h
    · have h := br_T c_3 h
      exact gm_weightWith_64 C hr hlk hk_4 _ _ _ _ _ _ _ hM (lv_sub hl [1, 2, 4] rfl) h
def fm_weightWith_42 (k_4 : mS → Int32 → Int32 → Int32 → Option (Int32 × mS)) (σ : mS) (x1 : Int32) (x2 : Int32) (x3 : Int32) : Option (Int32 × mS) :=
  fm_weightWith_43 k_4 σ x1 x2 x3 x3
set_option maxHeartbeats 4000000 in
set_option maxRecDepth 100000 in
theorem gm_weightWith_42 {p : Program} {l : Launch} {e : Env} {s : State} {m : MethodId} {args : Array Value} {below : List Frame} {meth : Method} {c : Code} {D : va_G} {ca : Nat → ClassId} {α : Nat → Nat} {A : Nat → Prop} {o : Int32 × mS} {k_4 : mS → Int32 → Int32 → Int32 → Option (Int32 × mS)} (C : mC p s m args c cX12_weightWith 5 D ca) (hr : meth.sig.returnType = some .int) (hlk : meth.locks = false) (hk_4 : ∀ (σ : mS) (x1 : Int32) (x2 : Int32) (x3 : Int32) (H : Heap) (locs : List Loc) (ls : Array Slot), mM D ca α A s.heap σ H locs → lv_has ls 5 [(0, .ref (α 0)), (1, .int x1), (2, .int x2), (3, .int x3)] → k_4 σ x1 x2 x3 = some o → mGI p l e rmX12_weightWith s m args below meth c D ca α A o H locs 4 ls []) : ∀ (σ : mS) (x1 : Int32) (x2 : Int32) (x3 : Int32) (H : Heap) (locs : List Loc) (ls : Array Slot), mM D ca α A s.heap σ H locs → lv_has ls 5 [(0, .ref (α 0)), (1, .int x1), (2, .int x2), (3, .int x3)] → fm_weightWith_42 k_4 σ x1 x2 x3 = some o → mGI p l e rmX12_weightWith s m args below meth c D ca α A o H locs 42 ls [] := by
  have hx := C.1
  have hb := C.2.1
  intro σ x1 x2 x3 H locs ls hM hl h
  unfold fm_weightWith_42 at h
  refine lv_iload_n hx hb dX12_weightWith_42 rfl (lv_at hl 3 rfl) ?_
  exact gm_weightWith_43 C hr hlk hk_4 _ _ _ _ _ _ _ _ hM (lv_sub hl [0, 1, 2, 3] rfl) h
def fm_weightWith_4 : Nat → mS → Int32 → Int32 → Int32 → Option (Int32 × mS)
  | 0, _, _, _, _ => none
  | n + 1, σ, x1, x2, x3 =>
    if (σ.1 16) ≤ x3 then
      some (x2, σ)
    else
      if x3 < 0 ∨ 12 ≤ x3.toNatClampNeg then none else
      if (σ.2.2.1 36 x3.toNatClampNeg) < (200 : Int32) then
        fm_weightWith_42 (fm_weightWith_4 n) σ x1 x2 x3
      else
        if x3 = x1 then
          fm_weightWith_42 (fm_weightWith_4 n) σ x1 x2 x3
        else
          if x3 < 0 ∨ 12 ≤ x3.toNatClampNeg then none else
          fm_weightWith_43 (fm_weightWith_4 n) σ x1 x2 x3 ((σ.2.2.1 36 x3.toNatClampNeg) - (200 : Int32))
set_option maxHeartbeats 4000000 in
set_option maxRecDepth 100000 in
theorem gm_weightWith_4 {p : Program} {l : Launch} {e : Env} {s : State} {m : MethodId} {args : Array Value} {below : List Frame} {meth : Method} {c : Code} {D : va_G} {ca : Nat → ClassId} {α : Nat → Nat} {A : Nat → Prop} {o : Int32 × mS} (C : mC p s m args c cX12_weightWith 5 D ca) (hr : meth.sig.returnType = some .int) (hlk : meth.locks = false) : ∀ (n : Nat) (σ : mS) (x1 : Int32) (x2 : Int32) (x3 : Int32) (H : Heap) (locs : List Loc) (ls : Array Slot), mM D ca α A s.heap σ H locs → lv_has ls 5 [(0, .ref (α 0)), (1, .int x1), (2, .int x2), (3, .int x3)] → fm_weightWith_4 n σ x1 x2 x3 = some o → mGI p l e rmX12_weightWith s m args below meth c D ca α A o H locs 4 ls [] := by
  have hx := C.1
  have hb := C.2.1
  intro n
  induction n with
  | zero =>
    intro σ x1 x2 x3 H locs ls hM hl h
    cases h
  | succ n ih =>
    intro σ x1 x2 x3 H locs ls hM hl h
    rw [fm_weightWith_4] at h
    refine lv_iload_n hx hb dX12_weightWith_4 rfl (lv_at hl 3 rfl) ?_
    refine lv_aload_n hx hb dX12_weightWith_5 rfl (lv_at hl 0 rfl) ?_
    refine m_geti C hM (k := 16) (Or.inl rfl) rfl dX12_weightWith_6 ?_
    refine lv_icmp_ge (tgt := 82) hx hb dX12_weightWith_9 (by decide) (fun c_1 => ?_) (fun c_1 => ?_)
    · have h := br_T c_1 h
      refine lv_iload_n hx hb dX12_weightWith_82 rfl (lv_at hl 2 rfl) ?_
      exact m_ri C hM hr hlk dX12_weightWith_83 h
    · have h := br_F c_1 h
      refine lv_aload_n hx hb dX12_weightWith_12 rfl (lv_at hl 0 rfl) ?_
      refine m_geta C hM (k := 36) (by decide) rfl dX12_weightWith_13 ?_
      refine lv_iload_n hx hb dX12_weightWith_16 rfl (lv_at hl 3 rfl) ?_
      obtain ⟨c_2, h⟩ := ko_of h
      refine m_iald C hM (k := 36) rfl c_2 dX12_weightWith_17 ?_
      refine lv_sipush (v := (200 : Int32)) hx hb dX12_weightWith_18 (by decide) ?_
      refine lv_icmp_lt (tgt := 42) hx hb dX12_weightWith_21 (by decide) (fun c_3 => ?_) (fun c_3 => ?_)
      · have h := br_T c_3 h
        exact gm_weightWith_42 C hr hlk ih _ _ _ _ _ _ _ hM (lv_sub hl [0, 1, 2, 3] rfl) h
      · have h := br_F c_3 h
        refine lv_iload_n hx hb dX12_weightWith_24 rfl (lv_at hl 3 rfl) ?_
        refine lv_iload_n hx hb dX12_weightWith_25 rfl (lv_at hl 1 rfl) ?_
        refine lv_icmp_eq (tgt := 42) hx hb dX12_weightWith_26 (by decide) (fun c_4 => ?_) (fun c_4 => ?_)
        · have h := br_T c_4 h
          exact gm_weightWith_42 C hr hlk ih _ _ _ _ _ _ _ hM (lv_sub hl [0, 1, 2, 3] rfl) h
        · have h := br_F c_4 h
          refine lv_aload_n hx hb dX12_weightWith_29 rfl (lv_at hl 0 rfl) ?_
          refine m_geta C hM (k := 36) (by decide) rfl dX12_weightWith_30 ?_
          refine lv_iload_n hx hb dX12_weightWith_33 rfl (lv_at hl 3 rfl) ?_
          obtain ⟨c_5, h⟩ := ko_of h
          refine m_iald C hM (k := 36) rfl c_5 dX12_weightWith_34 ?_
          refine lv_sipush (v := (200 : Int32)) hx hb dX12_weightWith_35 (by decide) ?_
          refine lv_isub hx hb dX12_weightWith_38 ?_
          refine lv_goto (tgt := 43) hx hb dX12_weightWith_39 (by decide) ?_
          exact gm_weightWith_43 C hr hlk ih _ _ _ _ _ _ _ _ hM (lv_sub hl [0, 1, 2, 3] rfl) h
def fm_weightWith (σ : mS) (x1 : Int32) : Option (Int32 × mS) :=
  fm_weightWith_4 3000 σ x1 (0 : Int32) (0 : Int32)
set_option maxHeartbeats 4000000 in
set_option maxRecDepth 100000 in
theorem cm_weightWith (l : Launch) (D : va_G) (ca : Nat → ClassId) (α : Nat → Nat) (A : Nat → Prop) (σ : mS) (x1 : Int32) (o : Int32 × mS) (h : fm_weightWith σ x1 = some o) : mMetI l yX12_weightWith cX12_weightWith 5 (some .int) rmX12_weightWith D ca α A σ [.int x1] o := by
  refine Met.ofW (cc := cX12_weightWith) (maxL := 5) (ret := some .int) (by decide) rfl ?_
  intro p e s m args below meth c s₁ B hml hv
  obtain ⟨rfl, hP, hK, hD0⟩ := hv
  have C : mC p s m _ c cX12_weightWith 5 D ca := ⟨B.exec, B.bytes, hml, findClass_of_methodNamed B.named, fun w hw => atoms_spec (ws := mWs yX12_weightWith cX12_weightWith 5 (some .int)) B.pre w (List.mem_cons_of_mem _ hw), hK⟩
  have hM : mM D ca α A s.heap σ s.heap [] := ⟨hP, hD0, va_S.rf⟩
  have hr := B.returns
  have hlk := B.notSynchronized
  have hx := C.1
  have hb := C.2.1
  have hl := lv_entry ([.ref (α 0), .int x1]) (n := 5) (Nat.le_of_ble_eq_true rfl)
  rw [lg_entry_eq]
  generalize (lg_sl ([.ref (α 0), .int x1]) ++ List.replicate (5 - (lg_sl ([.ref (α 0), .int x1])).length) Slot.unset).toArray = ls at hl ⊢
  have hl : lv_has ls 5 [(0, .ref (α 0)), (1, .int x1)] := hl
  unfold fm_weightWith at h
  refine lv_iconst (v := (0 : Int32)) hx hb dX12_weightWith_0 (by decide) ?_
  refine lv_istore_n (lv' := [(2, .int (0 : Int32)), (0, .ref (α 0)), (1, .int x1)]) hx hb dX12_weightWith_1 rfl hl (by decide) rfl (fun ls hl => ?_)
  refine lv_iconst (v := (0 : Int32)) hx hb dX12_weightWith_2 (by decide) ?_
  refine lv_istore_n (lv' := [(3, .int (0 : Int32)), (2, .int (0 : Int32)), (0, .ref (α 0)), (1, .int x1)]) hx hb dX12_weightWith_3 rfl hl (by decide) rfl (fun ls hl => ?_)
  exact gm_weightWith_4 C hr hlk  _ _ _ _ _ _ _ _ hM (lv_sub hl [2, 3, 1, 0] rfl) h
theorem mwy_weightWith : mCallV RX12 262 yX12_weightWith cX12_weightWith 5 (some .int) 1 := ⟨⟨wl_in (i := 2173) (by decide +kernel), wl_in (i := 2175) (by decide +kernel), wl_inp (i := 50) (by decide +kernel), wl_in (i := 16) (by decide +kernel), wl_in (i := 2176) (by decide +kernel)⟩, rfl, by decide, by decide, by decide +kernel⟩
/-! showsNow()J -/
abbrev rmX12_showsNow : Room := { frames := 2, cells := 0, slots := 0, locals := 44 }
def fm_showsNow_79 (k_31 : mS → Int32 → Int64 → Int32 → Option (Int64 × mS)) (σ : mS) (x1 : Int32) (x4 : Int32) (s0 : Int64) (s1 : Int64) : Option (Int64 × mS) :=
  k_31 σ x1 (s1 ||| s0) (x4 + (1 : Int32))
set_option maxHeartbeats 4000000 in
set_option maxRecDepth 100000 in
theorem gm_showsNow_79 {p : Program} {l : Launch} {e : Env} {s : State} {m : MethodId} {args : Array Value} {below : List Frame} {meth : Method} {c : Code} {D : va_G} {ca : Nat → ClassId} {α : Nat → Nat} {A : Nat → Prop} {o : Int64 × mS} {k_31 : mS → Int32 → Int64 → Int32 → Option (Int64 × mS)} (C : mC p s m args c cX12_showsNow 5 D ca) (hr : meth.sig.returnType = some .long) (hlk : meth.locks = false) (hk_31 : ∀ (σ : mS) (x1 : Int32) (x2 : Int64) (x4 : Int32) (H : Heap) (locs : List Loc) (ls : Array Slot), mM D ca α A s.heap σ H locs → lv_has ls 5 [(0, .ref (α 0)), (1, .int x1), (2, .long x2), (4, .int x4)] → k_31 σ x1 x2 x4 = some o → mGL p l e rmX12_showsNow s m args below meth c D ca α A o H locs 31 ls []) : ∀ (σ : mS) (x1 : Int32) (x4 : Int32) (s0 : Int64) (s1 : Int64) (H : Heap) (locs : List Loc) (ls : Array Slot), mM D ca α A s.heap σ H locs → lv_has ls 5 [(0, .ref (α 0)), (1, .int x1), (4, .int x4)] → fm_showsNow_79 k_31 σ x1 x4 s0 s1 = some o → mGL p l e rmX12_showsNow s m args below meth c D ca α A o H locs 79 ls [.long s0, .long s1] := by
  have hx := C.1
  have hb := C.2.1
  intro σ x1 x4 s0 s1 H locs ls hM hl h
  unfold fm_showsNow_79 at h
  refine lv_lor hx hb dX12_showsNow_79 ?_
  refine lv_lstore_n (lv' := [(2, .long (s1 ||| s0)), (0, .ref (α 0)), (1, .int x1), (4, .int x4)]) hx hb dX12_showsNow_80 rfl hl (by decide) rfl (fun ls hl => ?_)
  refine lv_iinc (v := (x4 + (1 : Int32))) (lv' := [(4, .int (x4 + (1 : Int32))), (2, .long (s1 ||| s0)), (0, .ref (α 0)), (1, .int x1)]) hx hb dX12_showsNow_81 hl (k := 3) rfl rfl (by decide) rfl (fun ls hl => ?_)
  refine lv_goto (tgt := 31) hx hb dX12_showsNow_84 (by decide) ?_
  exact hk_31 _ _ _ _ _ _ _ hM (lv_sub hl [2, 3, 1, 0] rfl) h
def fm_showsNow_66 (k_31 : mS → Int32 → Int64 → Int32 → Option (Int64 × mS)) (σ : mS) (x1 : Int32) (x4 : Int32) (s0 : Int64) : Option (Int64 × mS) :=
  if x4 < 0 ∨ 12 ≤ x4.toNatClampNeg then none else
  fm_showsNow_79 k_31 σ x1 x4 ((1 : Int64) <<< ((σ.2.2.1 10 x4.toNatClampNeg).toInt64 &&& 63)) s0
set_option maxHeartbeats 4000000 in
set_option maxRecDepth 100000 in
theorem gm_showsNow_66 {p : Program} {l : Launch} {e : Env} {s : State} {m : MethodId} {args : Array Value} {below : List Frame} {meth : Method} {c : Code} {D : va_G} {ca : Nat → ClassId} {α : Nat → Nat} {A : Nat → Prop} {o : Int64 × mS} {k_31 : mS → Int32 → Int64 → Int32 → Option (Int64 × mS)} (C : mC p s m args c cX12_showsNow 5 D ca) (hr : meth.sig.returnType = some .long) (hlk : meth.locks = false) (hk_31 : ∀ (σ : mS) (x1 : Int32) (x2 : Int64) (x4 : Int32) (H : Heap) (locs : List Loc) (ls : Array Slot), mM D ca α A s.heap σ H locs → lv_has ls 5 [(0, .ref (α 0)), (1, .int x1), (2, .long x2), (4, .int x4)] → k_31 σ x1 x2 x4 = some o → mGL p l e rmX12_showsNow s m args below meth c D ca α A o H locs 31 ls []) : ∀ (σ : mS) (x1 : Int32) (x4 : Int32) (s0 : Int64) (H : Heap) (locs : List Loc) (ls : Array Slot), mM D ca α A s.heap σ H locs → lv_has ls 5 [(0, .ref (α 0)), (1, .int x1), (4, .int x4)] → fm_showsNow_66 k_31 σ x1 x4 s0 = some o → mGL p l e rmX12_showsNow s m args below meth c D ca α A o H locs 66 ls [.long s0] := by
  have hx := C.1
  have hb := C.2.1
  intro σ x1 x4 s0 H locs ls hM hl h
  unfold fm_showsNow_66 at h
  refine lv_lconst (v := (1 : Int64)) hx hb dX12_showsNow_66 (by decide) ?_
  refine lv_aload_n hx hb dX12_showsNow_67 rfl (lv_at hl 0 rfl) ?_
  refine m_geta C hM (k := 10) (by decide) rfl dX12_showsNow_68 ?_
  refine lv_iload hx hb dX12_showsNow_71 (lv_at hl 2 rfl) ?_
  obtain ⟨c_1, h⟩ := ko_of h
  refine m_iald C hM (k := 10) rfl c_1 dX12_showsNow_73 ?_
  refine lv_lshl (v := ((1 : Int64) <<< ((σ.2.2.1 10 x4.toNatClampNeg).toInt64 &&& 63))) hx hb dX12_showsNow_74 rfl ?_
  refine lv_goto (tgt := 79) hx hb dX12_showsNow_75 (by decide) ?_
  exact gm_showsNow_79 C hr hlk hk_31 _ _ _ _ _ _ _ _ hM (lv_sub hl [0, 1, 2] rfl) h
def fm_showsNow_78 (k_31 : mS → Int32 → Int64 → Int32 → Option (Int64 × mS)) (σ : mS) (x1 : Int32) (x4 : Int32) (s0 : Int64) : Option (Int64 × mS) :=
  fm_showsNow_79 k_31 σ x1 x4 (0 : Int64) s0
set_option maxHeartbeats 4000000 in
set_option maxRecDepth 100000 in
theorem gm_showsNow_78 {p : Program} {l : Launch} {e : Env} {s : State} {m : MethodId} {args : Array Value} {below : List Frame} {meth : Method} {c : Code} {D : va_G} {ca : Nat → ClassId} {α : Nat → Nat} {A : Nat → Prop} {o : Int64 × mS} {k_31 : mS → Int32 → Int64 → Int32 → Option (Int64 × mS)} (C : mC p s m args c cX12_showsNow 5 D ca) (hr : meth.sig.returnType = some .long) (hlk : meth.locks = false) (hk_31 : ∀ (σ : mS) (x1 : Int32) (x2 : Int64) (x4 : Int32) (H : Heap) (locs : List Loc) (ls : Array Slot), mM D ca α A s.heap σ H locs → lv_has ls 5 [(0, .ref (α 0)), (1, .int x1), (2, .long x2), (4, .int x4)] → k_31 σ x1 x2 x4 = some o → mGL p l e rmX12_showsNow s m args below meth c D ca α A o H locs 31 ls []) : ∀ (σ : mS) (x1 : Int32) (x4 : Int32) (s0 : Int64) (H : Heap) (locs : List Loc) (ls : Array Slot), mM D ca α A s.heap σ H locs → lv_has ls 5 [(0, .ref (α 0)), (1, .int x1), (4, .int x4)] → fm_showsNow_78 k_31 σ x1 x4 s0 = some o → mGL p l e rmX12_showsNow s m args below meth c D ca α A o H locs 78 ls [.long s0] := by
  have hx := C.1
  have hb := C.2.1
  intro σ x1 x4 s0 H locs ls hM hl h
  unfold fm_showsNow_78 at h
  refine lv_lconst (v := (0 : Int64)) hx hb dX12_showsNow_78 (by decide) ?_
  exact gm_showsNow_79 C hr hlk hk_31 _ _ _ _ _ _ _ _ hM (lv_sub hl [0, 1, 2] rfl) h
def fm_showsNow_31 : Nat → mS → Int32 → Int64 → Int32 → Option (Int64 × mS)
  | 0, _, _, _, _ => none
  | n + 1, σ, x1, x2, x4 =>
    if (σ.1 16) ≤ x4 then
      some (x2, σ)
    else
      if x1 = 0 then
        (fm_isHeld σ x4).bind fun r_1 =>
        if r_1.1 = 0 then
          fm_showsNow_78 (fm_showsNow_31 n) r_1.2 x1 x4 x2
        else
          fm_showsNow_66 (fm_showsNow_31 n) r_1.2 x1 x4 x2
      else
        (fm_isAtHand σ x4).bind fun r_2 =>
        if r_2.1 = 0 then
          fm_showsNow_78 (fm_showsNow_31 n) r_2.2 x1 x4 x2
        else
          fm_showsNow_66 (fm_showsNow_31 n) r_2.2 x1 x4 x2
set_option maxHeartbeats 4000000 in
set_option maxRecDepth 100000 in
theorem gm_showsNow_31 {p : Program} {l : Launch} {e : Env} {s : State} {m : MethodId} {args : Array Value} {below : List Frame} {meth : Method} {c : Code} {D : va_G} {ca : Nat → ClassId} {α : Nat → Nat} {A : Nat → Prop} {o : Int64 × mS} (C : mC p s m args c cX12_showsNow 5 D ca) (hr : meth.sig.returnType = some .long) (hlk : meth.locks = false) : ∀ (n : Nat) (σ : mS) (x1 : Int32) (x2 : Int64) (x4 : Int32) (H : Heap) (locs : List Loc) (ls : Array Slot), mM D ca α A s.heap σ H locs → lv_has ls 5 [(0, .ref (α 0)), (1, .int x1), (2, .long x2), (4, .int x4)] → fm_showsNow_31 n σ x1 x2 x4 = some o → mGL p l e rmX12_showsNow s m args below meth c D ca α A o H locs 31 ls [] := by
  have hx := C.1
  have hb := C.2.1
  intro n
  induction n with
  | zero =>
    intro σ x1 x2 x4 H locs ls hM hl h
    cases h
  | succ n ih =>
    intro σ x1 x2 x4 H locs ls hM hl h
    rw [fm_showsNow_31] at h
    refine lv_iload hx hb dX12_showsNow_31 (lv_at hl 3 rfl) ?_
    refine lv_aload_n hx hb dX12_showsNow_33 rfl (lv_at hl 0 rfl) ?_
    refine m_geti C hM (k := 16) (Or.inl rfl) rfl dX12_showsNow_34 ?_
    refine lv_icmp_ge (tgt := 87) hx hb dX12_showsNow_37 (by decide) (fun c_1 => ?_) (fun c_1 => ?_)
    · have h := br_T c_1 h
      refine lv_lload_n hx hb dX12_showsNow_87 rfl (lv_at hl 2 rfl) ?_
      exact m_rl C hM hr hlk dX12_showsNow_88 h
    · have h := br_F c_1 h
      refine lv_lload_n hx hb dX12_showsNow_40 rfl (lv_at hl 2 rfl) ?_
      refine lv_iload_n hx hb dX12_showsNow_41 rfl (lv_at hl 1 rfl) ?_
      refine lv_if_eq (tgt := 57) hx hb dX12_showsNow_42 (by decide) (fun c_2 => ?_) (fun c_2 => ?_)
      · have h := br_T c_2 h
        refine lv_aload_n hx hb dX12_showsNow_57 rfl (lv_at hl 0 rfl) ?_
        refine lv_iload hx hb dX12_showsNow_58 (lv_at hl 3 rfl) ?_
        obtain ⟨r_1, hr_1, h⟩ := bd_of h
        refine m_cVi (As := [.int x4]) (rest := [.long x2]) C hM (cm_isHeld l D ca α A σ x4 r_1 hr_1) mwy_isHeld ⟨rfl, rfl⟩ ⟨Nat.le_of_ble_eq_true rfl, Nat.le_of_ble_eq_true rfl⟩ rfl rfl (Nat.le_of_ble_eq_true rfl) hl.1 dX12_showsNow_60 ⟨rfl, rfl⟩ (fun H locs hM => ?_)
        refine lv_if_eq (tgt := 78) hx hb dX12_showsNow_63 (by decide) (fun c_3 => ?_) (fun c_3 => ?_)
        · have h := br_T c_3 h
          exact gm_showsNow_78 C hr hlk ih _ _ _ _ _ _ _ hM (lv_sub hl [0, 1, 3] rfl) h
        · have h := br_F c_3 h
          exact gm_showsNow_66 C hr hlk ih _ _ _ _ _ _ _ hM (lv_sub hl [0, 1, 3] rfl) h
      · have h := br_F c_2 h
        refine lv_aload_n hx hb dX12_showsNow_45 rfl (lv_at hl 0 rfl) ?_
        refine lv_iload hx hb dX12_showsNow_46 (lv_at hl 3 rfl) ?_
        obtain ⟨r_2, hr_2, h⟩ := bd_of h
        refine m_cVi (As := [.int x4]) (rest := [.long x2]) C hM (cm_isAtHand l D ca α A σ x4 r_2 hr_2) mwy_isAtHand ⟨rfl, rfl⟩ ⟨Nat.le_of_ble_eq_true rfl, Nat.le_of_ble_eq_true rfl⟩ rfl rfl (Nat.le_of_ble_eq_true rfl) hl.1 dX12_showsNow_48 ⟨rfl, rfl⟩ (fun H locs hM => ?_)
        refine lv_if_eq (tgt := 78) hx hb dX12_showsNow_51 (by decide) (fun c_4 => ?_) (fun c_4 => ?_)
        · have h := br_T c_4 h
          exact gm_showsNow_78 C hr hlk ih _ _ _ _ _ _ _ hM (lv_sub hl [0, 1, 3] rfl) h
        · have h := br_F c_4 h
          refine lv_goto (tgt := 66) hx hb dX12_showsNow_54 (by decide) ?_
          exact gm_showsNow_66 C hr hlk ih _ _ _ _ _ _ _ hM (lv_sub hl [0, 1, 3] rfl) h
def fm_showsNow_26 (σ : mS) (x1 : Int32) (s0 : Int64) (s1 : Int64) : Option (Int64 × mS) :=
  fm_showsNow_31 3000 σ x1 (s1 ||| s0) (0 : Int32)
set_option maxHeartbeats 4000000 in
set_option maxRecDepth 100000 in
theorem gm_showsNow_26 {p : Program} {l : Launch} {e : Env} {s : State} {m : MethodId} {args : Array Value} {below : List Frame} {meth : Method} {c : Code} {D : va_G} {ca : Nat → ClassId} {α : Nat → Nat} {A : Nat → Prop} {o : Int64 × mS} (C : mC p s m args c cX12_showsNow 5 D ca) (hr : meth.sig.returnType = some .long) (hlk : meth.locks = false) : ∀ (σ : mS) (x1 : Int32) (s0 : Int64) (s1 : Int64) (H : Heap) (locs : List Loc) (ls : Array Slot), mM D ca α A s.heap σ H locs → lv_has ls 5 [(0, .ref (α 0)), (1, .int x1)] → fm_showsNow_26 σ x1 s0 s1 = some o → mGL p l e rmX12_showsNow s m args below meth c D ca α A o H locs 26 ls [.long s0, .long s1] := by
  have hx := C.1
  have hb := C.2.1
  intro σ x1 s0 s1 H locs ls hM hl h
  unfold fm_showsNow_26 at h
  refine lv_lor hx hb dX12_showsNow_26 ?_
  refine lv_lstore_n (lv' := [(2, .long (s1 ||| s0)), (0, .ref (α 0)), (1, .int x1)]) hx hb dX12_showsNow_27 rfl hl (by decide) rfl (fun ls hl => ?_)
  refine lv_iconst (v := (0 : Int32)) hx hb dX12_showsNow_28 (by decide) ?_
  refine lv_istore (lv' := [(4, .int (0 : Int32)), (2, .long (s1 ||| s0)), (0, .ref (α 0)), (1, .int x1)]) hx hb dX12_showsNow_29 hl (by decide) rfl (fun ls hl => ?_)
  exact gm_showsNow_31 C hr hlk  _ _ _ _ _ _ _ _ hM (lv_sub hl [2, 3, 1, 0] rfl) h
def fm_showsNow (σ : mS) : Option (Int64 × mS) :=
  (fm_isBrightHere σ).bind fun r_1 =>
  if r_1.1 = 0 then
    fm_showsNow_26 r_1.2 r_1.1 (0 : Int64) (r_1.2.2.1 39)
  else
    if (r_1.2.1 35) < 0 ∨ 12 ≤ (r_1.2.1 35).toNatClampNeg then none else
    fm_showsNow_26 r_1.2 r_1.1 (r_1.2.2.2.2 6 (r_1.2.1 35).toNatClampNeg) (r_1.2.2.1 39)
set_option maxHeartbeats 4000000 in
set_option maxRecDepth 100000 in
theorem cm_showsNow (l : Launch) (D : va_G) (ca : Nat → ClassId) (α : Nat → Nat) (A : Nat → Prop) (σ : mS) (o : Int64 × mS) (h : fm_showsNow σ  = some o) : mMetL l yX12_showsNow cX12_showsNow 5 (some .long) rmX12_showsNow D ca α A σ [] o := by
  refine Met.ofW (cc := cX12_showsNow) (maxL := 5) (ret := some .long) (by decide) rfl ?_
  intro p e s m args below meth c s₁ B hml hv
  obtain ⟨rfl, hP, hK, hD0⟩ := hv
  have C : mC p s m _ c cX12_showsNow 5 D ca := ⟨B.exec, B.bytes, hml, findClass_of_methodNamed B.named, fun w hw => atoms_spec (ws := mWs yX12_showsNow cX12_showsNow 5 (some .long)) B.pre w (List.mem_cons_of_mem _ hw), hK⟩
  have hM : mM D ca α A s.heap σ s.heap [] := ⟨hP, hD0, va_S.rf⟩
  have hr := B.returns
  have hlk := B.notSynchronized
  have hx := C.1
  have hb := C.2.1
  have hl := lv_entry ([.ref (α 0)]) (n := 5) (Nat.le_of_ble_eq_true rfl)
  rw [lg_entry_eq]
  generalize (lg_sl ([.ref (α 0)]) ++ List.replicate (5 - (lg_sl ([.ref (α 0)])).length) Slot.unset).toArray = ls at hl ⊢
  have hl : lv_has ls 5 [(0, .ref (α 0))] := hl
  unfold fm_showsNow at h
  refine lv_aload_n hx hb dX12_showsNow_0 rfl (lv_at hl 0 rfl) ?_
  obtain ⟨r_1, hr_1, h⟩ := bd_of h
  refine m_cVi (As := []) (rest := []) C hM (cm_isBrightHere l D ca α A σ  r_1 hr_1) mwy_isBrightHere ⟨rfl, rfl⟩ ⟨Nat.le_of_ble_eq_true rfl, Nat.le_of_ble_eq_true rfl⟩ rfl rfl (Nat.le_of_ble_eq_true rfl) hl.1 dX12_showsNow_1 ⟨rfl, rfl⟩ (fun H locs hM => ?_)
  refine lv_istore_n (lv' := [(1, .int r_1.1), (0, .ref (α 0))]) hx hb dX12_showsNow_4 rfl hl (by decide) rfl (fun ls hl => ?_)
  refine lv_aload_n hx hb dX12_showsNow_5 rfl (lv_at hl 1 rfl) ?_
  refine m_getl C hM (k := 39) rfl rfl dX12_showsNow_6 ?_
  refine lv_iload_n hx hb dX12_showsNow_9 rfl (lv_at hl 0 rfl) ?_
  refine lv_if_eq (tgt := 25) hx hb dX12_showsNow_10 (by decide) (fun c_1 => ?_) (fun c_1 => ?_)
  · have h := br_T c_1 h
    refine lv_lconst (v := (0 : Int64)) hx hb dX12_showsNow_25 (by decide) ?_
    exact gm_showsNow_26 C hr hlk  _ _ _ _ _ _ _ hM (lv_sub hl [1, 0] rfl) h
  · have h := br_F c_1 h
    refine lv_aload_n hx hb dX12_showsNow_13 rfl (lv_at hl 1 rfl) ?_
    refine m_geta C hM (k := 6) (by decide) rfl dX12_showsNow_14 ?_
    refine lv_aload_n hx hb dX12_showsNow_17 rfl (lv_at hl 1 rfl) ?_
    refine m_geti C hM (k := 35) (Or.inl rfl) rfl dX12_showsNow_18 ?_
    obtain ⟨c_2, h⟩ := ko_of h
    refine m_lald C hM (k := 6) rfl c_2 dX12_showsNow_21 ?_
    refine lv_goto (tgt := 26) hx hb dX12_showsNow_22 (by decide) ?_
    exact gm_showsNow_26 C hr hlk  _ _ _ _ _ _ _ hM (lv_sub hl [1, 0] rfl) h
theorem mwy_showsNow : mCallV RX12 219 yX12_showsNow cX12_showsNow 5 (some .long) 0 := ⟨⟨wl_in (i := 2106) (by decide +kernel), wl_in (i := 2108) (by decide +kernel), wl_inp (i := 36) (by decide +kernel), wl_in (i := 16) (by decide +kernel), wl_in (i := 2109) (by decide +kernel)⟩, rfl, by decide, by decide, by decide +kernel⟩
/-! burns()V -/
abbrev rmX12_burns : Room := { frames := 0, cells := 0, slots := 0, locals := 0 }
def fm_burns_63 (k_2 : mS → Int32 → Option (mS)) (σ : mS) (x1 : Int32) : Option (mS) :=
  k_2 σ (x1 + (1 : Int32))
set_option maxHeartbeats 4000000 in
set_option maxRecDepth 100000 in
theorem gm_burns_63 {p : Program} {l : Launch} {e : Env} {s : State} {m : MethodId} {args : Array Value} {below : List Frame} {meth : Method} {c : Code} {D : va_G} {ca : Nat → ClassId} {α : Nat → Nat} {A : Nat → Prop} {o : mS} {k_2 : mS → Int32 → Option (mS)} (C : mC p s m args c cX12_burns 2 D ca) (hr : meth.sig.returnType = none) (hlk : meth.locks = false) (hk_2 : ∀ (σ : mS) (x1 : Int32) (H : Heap) (locs : List Loc) (ls : Array Slot), mM D ca α A s.heap σ H locs → lv_has ls 2 [(0, .ref (α 0)), (1, .int x1)] → k_2 σ x1 = some o → mGV p l e rmX12_burns s m args below meth c D ca α A o H locs 2 ls []) : ∀ (σ : mS) (x1 : Int32) (H : Heap) (locs : List Loc) (ls : Array Slot), mM D ca α A s.heap σ H locs → lv_has ls 2 [(0, .ref (α 0)), (1, .int x1)] → fm_burns_63 k_2 σ x1 = some o → mGV p l e rmX12_burns s m args below meth c D ca α A o H locs 63 ls [] := by
  have hx := C.1
  have hb := C.2.1
  intro σ x1 H locs ls hM hl h
  unfold fm_burns_63 at h
  refine lv_iinc (v := (x1 + (1 : Int32))) (lv' := [(1, .int (x1 + (1 : Int32))), (0, .ref (α 0))]) hx hb dX12_burns_63 hl (k := 1) rfl rfl (by decide) rfl (fun ls hl => ?_)
  refine lv_goto (tgt := 2) hx hb dX12_burns_66 (by decide) ?_
  exact hk_2 _ _ _ _ _ hM (lv_sub hl [1, 0] rfl) h
def fm_burns_62 (k_2 : mS → Int32 → Option (mS)) (σ : mS) (x1 : Int32) (s0 : Int32) (s1 : Int32) : Option (mS) :=
  if s1 < 0 ∨ 12 ≤ s1.toNatClampNeg then none else
  fm_burns_63 k_2 (mA σ 37 s1.toNatClampNeg (s0 &&& 1)) x1
set_option maxHeartbeats 4000000 in
set_option maxRecDepth 100000 in
theorem gm_burns_62 {p : Program} {l : Launch} {e : Env} {s : State} {m : MethodId} {args : Array Value} {below : List Frame} {meth : Method} {c : Code} {D : va_G} {ca : Nat → ClassId} {α : Nat → Nat} {A : Nat → Prop} {o : mS} {k_2 : mS → Int32 → Option (mS)} (C : mC p s m args c cX12_burns 2 D ca) (hr : meth.sig.returnType = none) (hlk : meth.locks = false) (hk_2 : ∀ (σ : mS) (x1 : Int32) (H : Heap) (locs : List Loc) (ls : Array Slot), mM D ca α A s.heap σ H locs → lv_has ls 2 [(0, .ref (α 0)), (1, .int x1)] → k_2 σ x1 = some o → mGV p l e rmX12_burns s m args below meth c D ca α A o H locs 2 ls []) : ∀ (σ : mS) (x1 : Int32) (s0 : Int32) (s1 : Int32) (H : Heap) (locs : List Loc) (ls : Array Slot), mM D ca α A s.heap σ H locs → lv_has ls 2 [(0, .ref (α 0)), (1, .int x1)] → fm_burns_62 k_2 σ x1 s0 s1 = some o → mGV p l e rmX12_burns s m args below meth c D ca α A o H locs 62 ls [.int s0, .int s1, .ref (α 38)] := by
  have hx := C.1
  have hb := C.2.1
  intro σ x1 s0 s1 H locs ls hM hl h
  unfold fm_burns_62 at h
  obtain ⟨c_1, h⟩ := ko_of h
  refine m_zast C hM (k := 37) rfl c_1 dX12_burns_62 (fun H locs hM => ?_)
  exact gm_burns_63 C hr hlk hk_2 _ _ _ _ _ hM (lv_sub hl [0, 1] rfl) h
def fm_burns_2 : Nat → mS → Int32 → Option (mS)
  | 0, _, _ => none
  | n + 1, σ, x1 =>
    if (σ.1 16) ≤ x1 then
      some σ
    else
      if x1 < 0 ∨ 12 ≤ x1.toNatClampNeg then none else
      if (σ.2.2.1 13 x1.toNatClampNeg) = (108 : Int32) then
        if x1 < 0 ∨ 12 ≤ x1.toNatClampNeg then none else
        if (σ.2.2.1 37 x1.toNatClampNeg) = 0 then
          fm_burns_63 (fm_burns_2 n) σ x1
        else
          if x1 < 0 ∨ 12 ≤ x1.toNatClampNeg then none else
          if x1 < 0 ∨ 12 ≤ x1.toNatClampNeg then none else
          if x1 < 0 ∨ 12 ≤ x1.toNatClampNeg then none else
          if ((mA σ 38 x1.toNatClampNeg ((σ.2.2.1 38 x1.toNatClampNeg) - (1 : Int32))).2.2.1 38 x1.toNatClampNeg) ≤ 0 then
            fm_burns_62 (fm_burns_2 n) (mA σ 38 x1.toNatClampNeg ((σ.2.2.1 38 x1.toNatClampNeg) - (1 : Int32))) x1 (0 : Int32) x1
          else
            fm_burns_62 (fm_burns_2 n) (mA σ 38 x1.toNatClampNeg ((σ.2.2.1 38 x1.toNatClampNeg) - (1 : Int32))) x1 (1 : Int32) x1
      else
        fm_burns_63 (fm_burns_2 n) σ x1
set_option maxHeartbeats 4000000 in
set_option maxRecDepth 100000 in
theorem gm_burns_2 {p : Program} {l : Launch} {e : Env} {s : State} {m : MethodId} {args : Array Value} {below : List Frame} {meth : Method} {c : Code} {D : va_G} {ca : Nat → ClassId} {α : Nat → Nat} {A : Nat → Prop} {o : mS} (C : mC p s m args c cX12_burns 2 D ca) (hr : meth.sig.returnType = none) (hlk : meth.locks = false) : ∀ (n : Nat) (σ : mS) (x1 : Int32) (H : Heap) (locs : List Loc) (ls : Array Slot), mM D ca α A s.heap σ H locs → lv_has ls 2 [(0, .ref (α 0)), (1, .int x1)] → fm_burns_2 n σ x1 = some o → mGV p l e rmX12_burns s m args below meth c D ca α A o H locs 2 ls [] := by
  have hx := C.1
  have hb := C.2.1
  intro n
  induction n with
  | zero =>
    intro σ x1 H locs ls hM hl h
    cases h
  | succ n ih =>
    intro σ x1 H locs ls hM hl h
    rw [fm_burns_2] at h
    refine lv_iload_n hx hb dX12_burns_2 rfl (lv_at hl 1 rfl) ?_
    refine lv_aload_n hx hb dX12_burns_3 rfl (lv_at hl 0 rfl) ?_
    refine m_geti C hM (k := 16) (Or.inl rfl) rfl dX12_burns_4 ?_
    refine lv_icmp_ge (tgt := 69) hx hb dX12_burns_7 (by decide) (fun c_1 => ?_) (fun c_1 => ?_)
    · have h := br_T c_1 h
      exact m_rv C hM hr hlk dX12_burns_69 h
    · have h := br_F c_1 h
      refine lv_aload_n hx hb dX12_burns_10 rfl (lv_at hl 0 rfl) ?_
      refine m_geta C hM (k := 13) (by decide) rfl dX12_burns_11 ?_
      refine lv_iload_n hx hb dX12_burns_14 rfl (lv_at hl 1 rfl) ?_
      obtain ⟨c_2, h⟩ := ko_of h
      refine m_cald C hM (k := 13) rfl c_2 dX12_burns_15 ?_
      refine lv_bipush (v := (108 : Int32)) hx hb dX12_burns_16 (by decide) ?_
      refine lv_icmp_ne (tgt := 63) hx hb dX12_burns_18 (by decide) (fun c_3 => ?_) (fun c_3 => ?_)
      · have h := br_F c_3 h
        exact gm_burns_63 C hr hlk ih _ _ _ _ _ hM (lv_sub hl [0, 1] rfl) h
      · have h := br_T c_3 h
        refine lv_aload_n hx hb dX12_burns_21 rfl (lv_at hl 0 rfl) ?_
        refine m_geta C hM (k := 37) (by decide) rfl dX12_burns_22 ?_
        refine lv_iload_n hx hb dX12_burns_25 rfl (lv_at hl 1 rfl) ?_
        obtain ⟨c_4, h⟩ := ko_of h
        refine m_zald C hM (k := 37) rfl c_4 dX12_burns_26 ?_
        refine lv_if_ne (tgt := 33) hx hb dX12_burns_27 (by decide) (fun c_5 => ?_) (fun c_5 => ?_)
        · have h := br_F c_5 h
          refine lv_aload_n hx hb dX12_burns_33 rfl (lv_at hl 0 rfl) ?_
          refine m_geta C hM (k := 38) (by decide) rfl dX12_burns_34 ?_
          refine lv_iload_n hx hb dX12_burns_37 rfl (lv_at hl 1 rfl) ?_
          refine lv_dup2_11 hx hb dX12_burns_38 rfl rfl ?_
          obtain ⟨c_6, h⟩ := ko_of h
          refine m_iald C hM (k := 38) rfl c_6 dX12_burns_39 ?_
          refine lv_iconst (v := (1 : Int32)) hx hb dX12_burns_40 (by decide) ?_
          refine lv_isub hx hb dX12_burns_41 ?_
          obtain ⟨c_7, h⟩ := ko_of h
          refine m_iast C hM (k := 38) rfl c_7 dX12_burns_42 (fun H locs hM => ?_)
          refine lv_aload_n hx hb dX12_burns_43 rfl (lv_at hl 0 rfl) ?_
          refine m_geta C hM (k := 37) (by decide) rfl dX12_burns_44 ?_
          refine lv_iload_n hx hb dX12_burns_47 rfl (lv_at hl 1 rfl) ?_
          refine lv_aload_n hx hb dX12_burns_48 rfl (lv_at hl 0 rfl) ?_
          refine m_geta C hM (k := 38) (by decide) rfl dX12_burns_49 ?_
          refine lv_iload_n hx hb dX12_burns_52 rfl (lv_at hl 1 rfl) ?_
          obtain ⟨c_8, h⟩ := ko_of h
          refine m_iald C hM (k := 38) rfl c_8 dX12_burns_53 ?_
          refine lv_if_le (tgt := 61) hx hb dX12_burns_54 (by decide) (fun c_9 => ?_) (fun c_9 => ?_)
          · have h := br_T c_9 h
            refine lv_iconst (v := (0 : Int32)) hx hb dX12_burns_61 (by decide) ?_
            exact gm_burns_62 C hr hlk ih _ _ _ _ _ _ _ hM (lv_sub hl [0, 1] rfl) h
          · have h := br_F c_9 h
            refine lv_iconst (v := (1 : Int32)) hx hb dX12_burns_57 (by decide) ?_
            refine lv_goto (tgt := 62) hx hb dX12_burns_58 (by decide) ?_
            exact gm_burns_62 C hr hlk ih _ _ _ _ _ _ _ hM (lv_sub hl [0, 1] rfl) h
        · have h := br_T c_5 h
          refine lv_goto (tgt := 63) hx hb dX12_burns_30 (by decide) ?_
          exact gm_burns_63 C hr hlk ih _ _ _ _ _ hM (lv_sub hl [0, 1] rfl) h
def fm_burns (σ : mS) : Option (mS) :=
  fm_burns_2 3000 σ (0 : Int32)
set_option maxHeartbeats 4000000 in
set_option maxRecDepth 100000 in
theorem cm_burns (l : Launch) (D : va_G) (ca : Nat → ClassId) (α : Nat → Nat) (A : Nat → Prop) (σ : mS) (o : mS) (h : fm_burns σ  = some o) : mMetV l yX12_burns cX12_burns 2 (none) rmX12_burns D ca α A σ [] o := by
  refine Met.ofW (cc := cX12_burns) (maxL := 2) (ret := none) (by decide) rfl ?_
  intro p e s m args below meth c s₁ B hml hv
  obtain ⟨rfl, hP, hK, hD0⟩ := hv
  have C : mC p s m _ c cX12_burns 2 D ca := ⟨B.exec, B.bytes, hml, findClass_of_methodNamed B.named, fun w hw => atoms_spec (ws := mWs yX12_burns cX12_burns 2 (none)) B.pre w (List.mem_cons_of_mem _ hw), hK⟩
  have hM : mM D ca α A s.heap σ s.heap [] := ⟨hP, hD0, va_S.rf⟩
  have hr := B.returns
  have hlk := B.notSynchronized
  have hx := C.1
  have hb := C.2.1
  have hl := lv_entry ([.ref (α 0)]) (n := 2) (Nat.le_of_ble_eq_true rfl)
  rw [lg_entry_eq]
  generalize (lg_sl ([.ref (α 0)]) ++ List.replicate (2 - (lg_sl ([.ref (α 0)])).length) Slot.unset).toArray = ls at hl ⊢
  have hl : lv_has ls 2 [(0, .ref (α 0))] := hl
  unfold fm_burns at h
  refine lv_iconst (v := (0 : Int32)) hx hb dX12_burns_0 (by decide) ?_
  refine lv_istore_n (lv' := [(1, .int (0 : Int32)), (0, .ref (α 0))]) hx hb dX12_burns_1 rfl hl (by decide) rfl (fun ls hl => ?_)
  exact gm_burns_2 C hr hlk  _ _ _ _ _ _ hM (lv_sub hl [1, 0] rfl) h
theorem mwy_burns : mCallV RX12 216 yX12_burns cX12_burns 2 (none) 0 := ⟨⟨wl_in (i := 2102) (by decide +kernel), wl_in (i := 2104) (by decide +kernel), wl_inp (i := 35) (by decide +kernel), wl_in (i := 16) (by decide +kernel), wl_in (i := 2105) (by decide +kernel)⟩, rfl, by decide, by decide, by decide +kernel⟩
/-! isLike(III)Z -/
abbrev rmX12_isLike : Room := { frames := 0, cells := 0, slots := 0, locals := 0 }
def fm_isLike_36 (σ : mS) (x4 : Int32) : Option (Int32 × mS) :=
  if x4 &&& 1 = x4 then some (x4, σ) else none
set_option maxHeartbeats 4000000 in
set_option maxRecDepth 100000 in
theorem gm_isLike_36 {p : Program} {l : Launch} {e : Env} {s : State} {m : MethodId} {args : Array Value} {below : List Frame} {meth : Method} {c : Code} {D : va_G} {ca : Nat → ClassId} {α : Nat → Nat} {A : Nat → Prop} {o : Int32 × mS} (C : mC p s m args c cX12_isLike 6 D ca) (hr : meth.sig.returnType = some .boolean) (hlk : meth.locks = false) : ∀ (σ : mS) (x4 : Int32) (H : Heap) (locs : List Loc) (ls : Array Slot), mM D ca α A s.heap σ H locs → lv_has ls 6 [(0, .ref (α 0)), (4, .int x4)] → fm_isLike_36 σ x4 = some o → mGI p l e rmX12_isLike s m args below meth c D ca α A o H locs 36 ls [] := by
  have hx := C.1
  have hb := C.2.1
  intro σ x4 H locs ls hM hl h
  unfold fm_isLike_36 at h
  refine lv_iload hx hb dX12_isLike_36 (lv_at hl 1 rfl) ?_
  exact m_rz C hM hr hlk dX12_isLike_38 h
def fm_isLike_103 (k_62 : mS → Int32 → Int32 → Int32 → Option (Int32 × mS)) (σ : mS) (x1 : Int32) (x5 : Int32) (s0 : Int32) : Option (Int32 × mS) :=
  k_62 σ x1 s0 (x5 + (1 : Int32))
set_option maxHeartbeats 4000000 in
set_option maxRecDepth 100000 in
theorem gm_isLike_103 {p : Program} {l : Launch} {e : Env} {s : State} {m : MethodId} {args : Array Value} {below : List Frame} {meth : Method} {c : Code} {D : va_G} {ca : Nat → ClassId} {α : Nat → Nat} {A : Nat → Prop} {o : Int32 × mS} {k_62 : mS → Int32 → Int32 → Int32 → Option (Int32 × mS)} (C : mC p s m args c cX12_isLike 6 D ca) (hr : meth.sig.returnType = some .boolean) (hlk : meth.locks = false) (hk_62 : ∀ (σ : mS) (x1 : Int32) (x4 : Int32) (x5 : Int32) (H : Heap) (locs : List Loc) (ls : Array Slot), mM D ca α A s.heap σ H locs → lv_has ls 6 [(0, .ref (α 0)), (1, .int x1), (4, .int x4), (5, .int x5)] → k_62 σ x1 x4 x5 = some o → mGI p l e rmX12_isLike s m args below meth c D ca α A o H locs 62 ls []) : ∀ (σ : mS) (x1 : Int32) (x5 : Int32) (s0 : Int32) (H : Heap) (locs : List Loc) (ls : Array Slot), mM D ca α A s.heap σ H locs → lv_has ls 6 [(0, .ref (α 0)), (1, .int x1), (5, .int x5)] → fm_isLike_103 k_62 σ x1 x5 s0 = some o → mGI p l e rmX12_isLike s m args below meth c D ca α A o H locs 103 ls [.int s0] := by
  have hx := C.1
  have hb := C.2.1
  intro σ x1 x5 s0 H locs ls hM hl h
  unfold fm_isLike_103 at h
  refine lv_istore (lv' := [(4, .int s0), (0, .ref (α 0)), (1, .int x1), (5, .int x5)]) hx hb dX12_isLike_103 hl (by decide) rfl (fun ls hl => ?_)
  refine lv_iinc (v := (x5 + (1 : Int32))) (lv' := [(5, .int (x5 + (1 : Int32))), (4, .int s0), (0, .ref (α 0)), (1, .int x1)]) hx hb dX12_isLike_105 hl (k := 3) rfl rfl (by decide) rfl (fun ls hl => ?_)
  refine lv_goto (tgt := 62) hx hb dX12_isLike_108 (by decide) ?_
  exact hk_62 _ _ _ _ _ _ _ hM (lv_sub hl [2, 3, 1, 0] rfl) h
def fm_isLike_111 (σ : mS) (x4 : Int32) : Option (Int32 × mS) :=
  if x4 &&& 1 = x4 then some (x4, σ) else none
set_option maxHeartbeats 4000000 in
set_option maxRecDepth 100000 in
theorem gm_isLike_111 {p : Program} {l : Launch} {e : Env} {s : State} {m : MethodId} {args : Array Value} {below : List Frame} {meth : Method} {c : Code} {D : va_G} {ca : Nat → ClassId} {α : Nat → Nat} {A : Nat → Prop} {o : Int32 × mS} (C : mC p s m args c cX12_isLike 6 D ca) (hr : meth.sig.returnType = some .boolean) (hlk : meth.locks = false) : ∀ (σ : mS) (x4 : Int32) (H : Heap) (locs : List Loc) (ls : Array Slot), mM D ca α A s.heap σ H locs → lv_has ls 6 [(0, .ref (α 0)), (4, .int x4)] → fm_isLike_111 σ x4 = some o → mGI p l e rmX12_isLike s m args below meth c D ca α A o H locs 111 ls [] := by
  have hx := C.1
  have hb := C.2.1
  intro σ x4 H locs ls hM hl h
  unfold fm_isLike_111 at h
  refine lv_iload hx hb dX12_isLike_111 (lv_at hl 1 rfl) ?_
  exact m_rz C hM hr hlk dX12_isLike_113 h
def fm_isLike_62 : Nat → mS → Int32 → Int32 → Int32 → Option (Int32 × mS)
  | 0, _, _, _, _ => none
  | n + 1, σ, x1, x4, x5 =>
    if (σ.1 2) ≤ x5 then
      fm_isLike_111 σ x4
    else
      if x4 = 0 then
        fm_isLike_111 σ x4
      else
        if (((30 : Int32) * x1) + x5) < 0 ∨ 2400 ≤ (((30 : Int32) * x1) + x5).toNatClampNeg then none else
        if x5 < 0 ∨ 30 ≤ x5.toNatClampNeg then none else
        if (σ.2.2.1 26 (((30 : Int32) * x1) + x5).toNatClampNeg) = (σ.2.2.1 1 x5.toNatClampNeg) then
          fm_isLike_103 (fm_isLike_62 n) σ x1 x5 (1 : Int32)
        else
          fm_isLike_103 (fm_isLike_62 n) σ x1 x5 (0 : Int32)
set_option maxHeartbeats 4000000 in
set_option maxRecDepth 100000 in
theorem gm_isLike_62 {p : Program} {l : Launch} {e : Env} {s : State} {m : MethodId} {args : Array Value} {below : List Frame} {meth : Method} {c : Code} {D : va_G} {ca : Nat → ClassId} {α : Nat → Nat} {A : Nat → Prop} {o : Int32 × mS} (C : mC p s m args c cX12_isLike 6 D ca) (hr : meth.sig.returnType = some .boolean) (hlk : meth.locks = false) : ∀ (n : Nat) (σ : mS) (x1 : Int32) (x4 : Int32) (x5 : Int32) (H : Heap) (locs : List Loc) (ls : Array Slot), mM D ca α A s.heap σ H locs → lv_has ls 6 [(0, .ref (α 0)), (1, .int x1), (4, .int x4), (5, .int x5)] → fm_isLike_62 n σ x1 x4 x5 = some o → mGI p l e rmX12_isLike s m args below meth c D ca α A o H locs 62 ls [] := by
  have hx := C.1
  have hb := C.2.1
  intro n
  induction n with
  | zero =>
    intro σ x1 x4 x5 H locs ls hM hl h
    cases h
  | succ n ih =>
    intro σ x1 x4 x5 H locs ls hM hl h
    rw [fm_isLike_62] at h
    refine lv_iload hx hb dX12_isLike_62 (lv_at hl 3 rfl) ?_
    refine lv_aload_n hx hb dX12_isLike_64 rfl (lv_at hl 0 rfl) ?_
    refine m_geti C hM (k := 2) (Or.inl rfl) rfl dX12_isLike_65 ?_
    refine lv_icmp_ge (tgt := 111) hx hb dX12_isLike_68 (by decide) (fun c_1 => ?_) (fun c_1 => ?_)
    · have h := br_T c_1 h
      exact gm_isLike_111 C hr hlk  _ _ _ _ _ hM (lv_sub hl [0, 2] rfl) h
    · have h := br_F c_1 h
      refine lv_iload hx hb dX12_isLike_71 (lv_at hl 2 rfl) ?_
      refine lv_if_eq (tgt := 111) hx hb dX12_isLike_73 (by decide) (fun c_2 => ?_) (fun c_2 => ?_)
      · have h := br_T c_2 h
        exact gm_isLike_111 C hr hlk  _ _ _ _ _ hM (lv_sub hl [0, 2] rfl) h
      · have h := br_F c_2 h
        refine lv_aload_n hx hb dX12_isLike_76 rfl (lv_at hl 0 rfl) ?_
        refine m_geta C hM (k := 26) (by decide) rfl dX12_isLike_77 ?_
        refine lv_bipush (v := (30 : Int32)) hx hb dX12_isLike_80 (by decide) ?_
        refine lv_iload_n hx hb dX12_isLike_82 rfl (lv_at hl 1 rfl) ?_
        refine lv_imul hx hb dX12_isLike_83 ?_
        refine lv_iload hx hb dX12_isLike_84 (lv_at hl 3 rfl) ?_
        refine lv_iadd hx hb dX12_isLike_86 ?_
        obtain ⟨c_3, h⟩ := ko_of h
        refine m_iald C hM (k := 26) rfl c_3 dX12_isLike_87 ?_
        refine lv_aload_n hx hb dX12_isLike_88 rfl (lv_at hl 0 rfl) ?_
        refine m_geta C hM (k := 1) (by decide) rfl dX12_isLike_89 ?_
        refine lv_iload hx hb dX12_isLike_92 (lv_at hl 3 rfl) ?_
        obtain ⟨c_4, h⟩ := ko_of h
        refine m_iald C hM (k := 1) rfl c_4 dX12_isLike_94 ?_
        refine lv_icmp_ne (tgt := 102) hx hb dX12_isLike_95 (by decide) (fun c_5 => ?_) (fun c_5 => ?_)
        · have h := br_F c_5 h
          refine lv_iconst (v := (0 : Int32)) hx hb dX12_isLike_102 (by decide) ?_
          exact gm_isLike_103 C hr hlk ih _ _ _ _ _ _ _ hM (lv_sub hl [0, 1, 3] rfl) h
        · have h := br_T c_5 h
          refine lv_iconst (v := (1 : Int32)) hx hb dX12_isLike_98 (by decide) ?_
          refine lv_goto (tgt := 103) hx hb dX12_isLike_99 (by decide) ?_
          exact gm_isLike_103 C hr hlk ih _ _ _ _ _ _ _ hM (lv_sub hl [0, 1, 3] rfl) h
def fm_isLike_57 (σ : mS) (x1 : Int32) (s0 : Int32) : Option (Int32 × mS) :=
  fm_isLike_62 3000 σ x1 s0 (0 : Int32)
set_option maxHeartbeats 4000000 in
set_option maxRecDepth 100000 in
theorem gm_isLike_57 {p : Program} {l : Launch} {e : Env} {s : State} {m : MethodId} {args : Array Value} {below : List Frame} {meth : Method} {c : Code} {D : va_G} {ca : Nat → ClassId} {α : Nat → Nat} {A : Nat → Prop} {o : Int32 × mS} (C : mC p s m args c cX12_isLike 6 D ca) (hr : meth.sig.returnType = some .boolean) (hlk : meth.locks = false) : ∀ (σ : mS) (x1 : Int32) (s0 : Int32) (H : Heap) (locs : List Loc) (ls : Array Slot), mM D ca α A s.heap σ H locs → lv_has ls 6 [(0, .ref (α 0)), (1, .int x1)] → fm_isLike_57 σ x1 s0 = some o → mGI p l e rmX12_isLike s m args below meth c D ca α A o H locs 57 ls [.int s0] := by
  have hx := C.1
  have hb := C.2.1
  intro σ x1 s0 H locs ls hM hl h
  unfold fm_isLike_57 at h
  refine lv_istore (lv' := [(4, .int s0), (0, .ref (α 0)), (1, .int x1)]) hx hb dX12_isLike_57 hl (by decide) rfl (fun ls hl => ?_)
  refine lv_iconst (v := (0 : Int32)) hx hb dX12_isLike_59 (by decide) ?_
  refine lv_istore (lv' := [(5, .int (0 : Int32)), (4, .int s0), (0, .ref (α 0)), (1, .int x1)]) hx hb dX12_isLike_60 hl (by decide) rfl (fun ls hl => ?_)
  exact gm_isLike_62 C hr hlk  _ _ _ _ _ _ _ _ hM (lv_sub hl [2, 3, 1, 0] rfl) h
def fm_isLike_25 (σ : mS) (x1 : Int32) (x2 : Int32) (s0 : Int32) : Option (Int32 × mS) :=
  if x2 = 0 then
    if s0 = 0 then
      fm_isLike_36 σ s0
    else
      if x1 < 0 ∨ 80 ≤ x1.toNatClampNeg then none else
      if (σ.2.2.1 27 x1.toNatClampNeg) = (σ.1 2) then
        fm_isLike_57 σ x1 (1 : Int32)
      else
        fm_isLike_57 σ x1 (0 : Int32)
  else
    fm_isLike_36 σ s0
set_option maxHeartbeats 4000000 in
set_option maxRecDepth 100000 in
theorem gm_isLike_25 {p : Program} {l : Launch} {e : Env} {s : State} {m : MethodId} {args : Array Value} {below : List Frame} {meth : Method} {c : Code} {D : va_G} {ca : Nat → ClassId} {α : Nat → Nat} {A : Nat → Prop} {o : Int32 × mS} (C : mC p s m args c cX12_isLike 6 D ca) (hr : meth.sig.returnType = some .boolean) (hlk : meth.locks = false) : ∀ (σ : mS) (x1 : Int32) (x2 : Int32) (s0 : Int32) (H : Heap) (locs : List Loc) (ls : Array Slot), mM D ca α A s.heap σ H locs → lv_has ls 6 [(0, .ref (α 0)), (1, .int x1), (2, .int x2)] → fm_isLike_25 σ x1 x2 s0 = some o → mGI p l e rmX12_isLike s m args below meth c D ca α A o H locs 25 ls [.int s0] := by
  have hx := C.1
  have hb := C.2.1
  intro σ x1 x2 s0 H locs ls hM hl h
  unfold fm_isLike_25 at h
  refine lv_istore (lv' := [(4, .int s0), (0, .ref (α 0)), (1, .int x1), (2, .int x2)]) hx hb dX12_isLike_25 hl (by decide) rfl (fun ls hl => ?_)
  refine lv_iload_n hx hb dX12_isLike_27 rfl (lv_at hl 3 rfl) ?_
  refine lv_if_ne (tgt := 36) hx hb dX12_isLike_28 (by decide) (fun c_1 => ?_) (fun c_1 => ?_)
  · have h := br_F c_1 h
    exact gm_isLike_36 C hr hlk  _ _ _ _ _ hM (lv_sub hl [1, 0] rfl) h
  · have h := br_T c_1 h
    refine lv_iload hx hb dX12_isLike_31 (lv_at hl 0 rfl) ?_
    refine lv_if_ne (tgt := 39) hx hb dX12_isLike_33 (by decide) (fun c_2 => ?_) (fun c_2 => ?_)
    · have h := br_F c_2 h
      refine lv_aload_n hx hb dX12_isLike_39 rfl (lv_at hl 1 rfl) ?_
      refine m_geta C hM (k := 27) (by decide) rfl dX12_isLike_40 ?_
      refine lv_iload_n hx hb dX12_isLike_43 rfl (lv_at hl 2 rfl) ?_
      obtain ⟨c_3, h⟩ := ko_of h
      refine m_iald C hM (k := 27) rfl c_3 dX12_isLike_44 ?_
      refine lv_aload_n hx hb dX12_isLike_45 rfl (lv_at hl 1 rfl) ?_
      refine m_geti C hM (k := 2) (Or.inl rfl) rfl dX12_isLike_46 ?_
      refine lv_icmp_ne (tgt := 56) hx hb dX12_isLike_49 (by decide) (fun c_4 => ?_) (fun c_4 => ?_)
      · have h := br_F c_4 h
        refine lv_iconst (v := (0 : Int32)) hx hb dX12_isLike_56 (by decide) ?_
        exact gm_isLike_57 C hr hlk  _ _ _ _ _ _ hM (lv_sub hl [1, 2] rfl) h
      · have h := br_T c_4 h
        refine lv_iconst (v := (1 : Int32)) hx hb dX12_isLike_52 (by decide) ?_
        refine lv_goto (tgt := 57) hx hb dX12_isLike_53 (by decide) ?_
        exact gm_isLike_57 C hr hlk  _ _ _ _ _ _ hM (lv_sub hl [1, 2] rfl) h
    · have h := br_T c_2 h
      exact gm_isLike_36 C hr hlk  _ _ _ _ _ hM (lv_sub hl [1, 0] rfl) h
def fm_isLike_24 (σ : mS) (x1 : Int32) (x2 : Int32) : Option (Int32 × mS) :=
  fm_isLike_25 σ x1 x2 (0 : Int32)
set_option maxHeartbeats 4000000 in
set_option maxRecDepth 100000 in
theorem gm_isLike_24 {p : Program} {l : Launch} {e : Env} {s : State} {m : MethodId} {args : Array Value} {below : List Frame} {meth : Method} {c : Code} {D : va_G} {ca : Nat → ClassId} {α : Nat → Nat} {A : Nat → Prop} {o : Int32 × mS} (C : mC p s m args c cX12_isLike 6 D ca) (hr : meth.sig.returnType = some .boolean) (hlk : meth.locks = false) : ∀ (σ : mS) (x1 : Int32) (x2 : Int32) (H : Heap) (locs : List Loc) (ls : Array Slot), mM D ca α A s.heap σ H locs → lv_has ls 6 [(0, .ref (α 0)), (1, .int x1), (2, .int x2)] → fm_isLike_24 σ x1 x2 = some o → mGI p l e rmX12_isLike s m args below meth c D ca α A o H locs 24 ls [] := by
  have hx := C.1
  have hb := C.2.1
  intro σ x1 x2 H locs ls hM hl h
  unfold fm_isLike_24 at h
  refine lv_iconst (v := (0 : Int32)) hx hb dX12_isLike_24 (by decide) ?_
  exact gm_isLike_25 C hr hlk  _ _ _ _ _ _ _ hM (lv_sub hl [0, 1, 2] rfl) h
def fm_isLike (σ : mS) (x1 : Int32) (x2 : Int32) (x3 : Int32) : Option (Int32 × mS) :=
  if x1 < 0 ∨ 80 ≤ x1.toNatClampNeg then none else
  if (σ.2.2.1 28 x1.toNatClampNeg) = x2 then
    if x1 < 0 ∨ 80 ≤ x1.toNatClampNeg then none else
    if (σ.2.2.1 29 x1.toNatClampNeg) = x3 then
      fm_isLike_25 σ x1 x2 (1 : Int32)
    else
      fm_isLike_24 σ x1 x2
  else
    fm_isLike_24 σ x1 x2
set_option maxHeartbeats 4000000 in
set_option maxRecDepth 100000 in
theorem cm_isLike (l : Launch) (D : va_G) (ca : Nat → ClassId) (α : Nat → Nat) (A : Nat → Prop) (σ : mS) (x1 : Int32) (x2 : Int32) (x3 : Int32) (o : Int32 × mS) (h : fm_isLike σ x1 x2 x3 = some o) : mMetI l yX12_isLike cX12_isLike 6 (some .boolean) rmX12_isLike D ca α A σ [.int x1, .int x2, .int x3] o := by
  refine Met.ofW (cc := cX12_isLike) (maxL := 6) (ret := some .boolean) (by decide) rfl ?_
  intro p e s m args below meth c s₁ B hml hv
  obtain ⟨rfl, hP, hK, hD0⟩ := hv
  have C : mC p s m _ c cX12_isLike 6 D ca := ⟨B.exec, B.bytes, hml, findClass_of_methodNamed B.named, fun w hw => atoms_spec (ws := mWs yX12_isLike cX12_isLike 6 (some .boolean)) B.pre w (List.mem_cons_of_mem _ hw), hK⟩
  have hM : mM D ca α A s.heap σ s.heap [] := ⟨hP, hD0, va_S.rf⟩
  have hr := B.returns
  have hlk := B.notSynchronized
  have hx := C.1
  have hb := C.2.1
  have hl := lv_entry ([.ref (α 0), .int x1, .int x2, .int x3]) (n := 6) (Nat.le_of_ble_eq_true rfl)
  rw [lg_entry_eq]
  generalize (lg_sl ([.ref (α 0), .int x1, .int x2, .int x3]) ++ List.replicate (6 - (lg_sl ([.ref (α 0), .int x1, .int x2, .int x3])).length) Slot.unset).toArray = ls at hl ⊢
  have hl : lv_has ls 6 [(0, .ref (α 0)), (1, .int x1), (2, .int x2), (3, .int x3)] := hl
  unfold fm_isLike at h
  refine lv_aload_n hx hb dX12_isLike_0 rfl (lv_at hl 0 rfl) ?_
  refine m_geta C hM (k := 28) (by decide) rfl dX12_isLike_1 ?_
  refine lv_iload_n hx hb dX12_isLike_4 rfl (lv_at hl 1 rfl) ?_
  obtain ⟨c_1, h⟩ := ko_of h
  refine m_iald C hM (k := 28) rfl c_1 dX12_isLike_5 ?_
  refine lv_iload_n hx hb dX12_isLike_6 rfl (lv_at hl 2 rfl) ?_
  refine lv_icmp_ne (tgt := 24) hx hb dX12_isLike_7 (by decide) (fun c_2 => ?_) (fun c_2 => ?_)
  · have h := br_F c_2 h
    exact gm_isLike_24 C hr hlk  _ _ _ _ _ _ hM (lv_sub hl [0, 1, 2] rfl) h
  · have h := br_T c_2 h
    refine lv_aload_n hx hb dX12_isLike_10 rfl (lv_at hl 0 rfl) ?_
    refine m_geta C hM (k := 29) (by decide) rfl dX12_isLike_11 ?_
    refine lv_iload_n hx hb dX12_isLike_14 rfl (lv_at hl 1 rfl) ?_
    obtain ⟨c_3, h⟩ := ko_of h
    refine m_iald C hM (k := 29) rfl c_3 dX12_isLike_15 ?_
    refine lv_iload_n hx hb dX12_isLike_16 rfl (lv_at hl 3 rfl) ?_
    refine lv_icmp_ne (tgt := 24) hx hb dX12_isLike_17 (by decide) (fun c_4 => ?_) (fun c_4 => ?_)
    · have h := br_F c_4 h
      exact gm_isLike_24 C hr hlk  _ _ _ _ _ _ hM (lv_sub hl [0, 1, 2] rfl) h
    · have h := br_T c_4 h
      refine lv_iconst (v := (1 : Int32)) hx hb dX12_isLike_20 (by decide) ?_
      refine lv_goto (tgt := 25) hx hb dX12_isLike_21 (by decide) ?_
      exact gm_isLike_25 C hr hlk  _ _ _ _ _ _ _ hM (lv_sub hl [0, 1, 2] rfl) h
theorem mwy_isLike : mCallV RX12 213 yX12_isLike cX12_isLike 6 (some .boolean) 3 := ⟨⟨wl_in (i := 2185) (by decide +kernel), wl_in (i := 2187) (by decide +kernel), wl_inp (i := 53) (by decide +kernel), wl_in (i := 16) (by decide +kernel), wl_in (i := 2188) (by decide +kernel)⟩, rfl, by decide, by decide, by decide +kernel⟩
/-! childBy(II)I -/
abbrev rmX12_childBy : Room := { frames := 1, cells := 0, slots := 0, locals := 25 }
def fm_childBy_51 (k_10 : mS → Int32 → Int32 → Int32 → Int32 → Option (Int32 × mS)) (σ : mS) (x1 : Int32) (x2 : Int32) (x4 : Int32) (s0 : Int32) : Option (Int32 × mS) :=
  k_10 σ x1 x2 s0 (x4 + (-1 : Int32))
set_option maxHeartbeats 4000000 in
set_option maxRecDepth 100000 in
theorem gm_childBy_51 {p : Program} {l : Launch} {e : Env} {s : State} {m : MethodId} {args : Array Value} {below : List Frame} {meth : Method} {c : Code} {D : va_G} {ca : Nat → ClassId} {α : Nat → Nat} {A : Nat → Prop} {o : Int32 × mS} {k_10 : mS → Int32 → Int32 → Int32 → Int32 → Option (Int32 × mS)} (C : mC p s m args c cX12_childBy 5 D ca) (hr : meth.sig.returnType = some .int) (hlk : meth.locks = false) (hk_10 : ∀ (σ : mS) (x1 : Int32) (x2 : Int32) (x3 : Int32) (x4 : Int32) (H : Heap) (locs : List Loc) (ls : Array Slot), mM D ca α A s.heap σ H locs → lv_has ls 5 [(0, .ref (α 0)), (1, .int x1), (2, .int x2), (3, .int x3), (4, .int x4)] → k_10 σ x1 x2 x3 x4 = some o → mGI p l e rmX12_childBy s m args below meth c D ca α A o H locs 10 ls []) : ∀ (σ : mS) (x1 : Int32) (x2 : Int32) (x4 : Int32) (s0 : Int32) (H : Heap) (locs : List Loc) (ls : Array Slot), mM D ca α A s.heap σ H locs → lv_has ls 5 [(0, .ref (α 0)), (1, .int x1), (2, .int x2), (4, .int x4)] → fm_childBy_51 k_10 σ x1 x2 x4 s0 = some o → mGI p l e rmX12_childBy s m args below meth c D ca α A o H locs 51 ls [.int s0] := by
  have hx := C.1
  have hb := C.2.1
  intro σ x1 x2 x4 s0 H locs ls hM hl h
  unfold fm_childBy_51 at h
  refine lv_istore_n (lv' := [(3, .int s0), (0, .ref (α 0)), (1, .int x1), (2, .int x2), (4, .int x4)]) hx hb dX12_childBy_51 rfl hl (by decide) rfl (fun ls hl => ?_)
  refine lv_iinc (v := (x4 + (-1 : Int32))) (lv' := [(4, .int (x4 + (-1 : Int32))), (3, .int s0), (0, .ref (α 0)), (1, .int x1), (2, .int x2)]) hx hb dX12_childBy_52 hl (k := 4) rfl rfl (by decide) rfl (fun ls hl => ?_)
  refine lv_goto (tgt := 10) hx hb dX12_childBy_55 (by decide) ?_
  exact hk_10 _ _ _ _ _ _ _ _ hM (lv_sub hl [2, 3, 4, 1, 0] rfl) h
def fm_childBy_50 (k_10 : mS → Int32 → Int32 → Int32 → Int32 → Option (Int32 × mS)) (σ : mS) (x1 : Int32) (x2 : Int32) (x3 : Int32) (x4 : Int32) : Option (Int32 × mS) :=
  fm_childBy_51 k_10 σ x1 x2 x4 x3
set_option maxHeartbeats 4000000 in
set_option maxRecDepth 100000 in
theorem gm_childBy_50 {p : Program} {l : Launch} {e : Env} {s : State} {m : MethodId} {args : Array Value} {below : List Frame} {meth : Method} {c : Code} {D : va_G} {ca : Nat → ClassId} {α : Nat → Nat} {A : Nat → Prop} {o : Int32 × mS} {k_10 : mS → Int32 → Int32 → Int32 → Int32 → Option (Int32 × mS)} (C : mC p s m args c cX12_childBy 5 D ca) (hr : meth.sig.returnType = some .int) (hlk : meth.locks = false) (hk_10 : ∀ (σ : mS) (x1 : Int32) (x2 : Int32) (x3 : Int32) (x4 : Int32) (H : Heap) (locs : List Loc) (ls : Array Slot), mM D ca α A s.heap σ H locs → lv_has ls 5 [(0, .ref (α 0)), (1, .int x1), (2, .int x2), (3, .int x3), (4, .int x4)] → k_10 σ x1 x2 x3 x4 = some o → mGI p l e rmX12_childBy s m args below meth c D ca α A o H locs 10 ls []) : ∀ (σ : mS) (x1 : Int32) (x2 : Int32) (x3 : Int32) (x4 : Int32) (H : Heap) (locs : List Loc) (ls : Array Slot), mM D ca α A s.heap σ H locs → lv_has ls 5 [(0, .ref (α 0)), (1, .int x1), (2, .int x2), (3, .int x3), (4, .int x4)] → fm_childBy_50 k_10 σ x1 x2 x3 x4 = some o → mGI p l e rmX12_childBy s m args below meth c D ca α A o H locs 50 ls [] := by
  have hx := C.1
  have hb := C.2.1
  intro σ x1 x2 x3 x4 H locs ls hM hl h
  unfold fm_childBy_50 at h
  refine lv_iload_n hx hb dX12_childBy_50 rfl (lv_at hl 3 rfl) ?_
  exact gm_childBy_51 C hr hlk hk_10 _ _ _ _ _ _ _ _ hM (lv_sub hl [0, 1, 2, 4] rfl) h
def fm_childBy_10 : Nat → mS → Int32 → Int32 → Int32 → Int32 → Option (Int32 × mS)
  | 0, _, _, _, _, _ => none
  | n + 1, σ, x1, x2, x3, x4 =>
    if x4 ≤ 0 then
      some (x3, σ)
    else
      if x4 < 0 ∨ 80 ≤ x4.toNatClampNeg then none else
      if (σ.2.2.1 25 x4.toNatClampNeg) = (σ.1 34) then
        if x1 = (1 : Int32) then
          fm_childBy_50 (fm_childBy_10 n) σ x1 x2 x3 x4
        else
          (fm_isLike σ x4 x1 x2).bind fun r_1 =>
          if r_1.1 = 0 then
            fm_childBy_50 (fm_childBy_10 n) r_1.2 x1 x2 x3 x4
          else
            fm_childBy_51 (fm_childBy_10 n) r_1.2 x1 x2 x4 x4
      else
        fm_childBy_50 (fm_childBy_10 n) σ x1 x2 x3 x4
set_option maxHeartbeats 4000000 in
set_option maxRecDepth 100000 in
theorem gm_childBy_10 {p : Program} {l : Launch} {e : Env} {s : State} {m : MethodId} {args : Array Value} {below : List Frame} {meth : Method} {c : Code} {D : va_G} {ca : Nat → ClassId} {α : Nat → Nat} {A : Nat → Prop} {o : Int32 × mS} (C : mC p s m args c cX12_childBy 5 D ca) (hr : meth.sig.returnType = some .int) (hlk : meth.locks = false) : ∀ (n : Nat) (σ : mS) (x1 : Int32) (x2 : Int32) (x3 : Int32) (x4 : Int32) (H : Heap) (locs : List Loc) (ls : Array Slot), mM D ca α A s.heap σ H locs → lv_has ls 5 [(0, .ref (α 0)), (1, .int x1), (2, .int x2), (3, .int x3), (4, .int x4)] → fm_childBy_10 n σ x1 x2 x3 x4 = some o → mGI p l e rmX12_childBy s m args below meth c D ca α A o H locs 10 ls [] := by
  have hx := C.1
  have hb := C.2.1
  intro n
  induction n with
  | zero =>
    intro σ x1 x2 x3 x4 H locs ls hM hl h
    cases h
  | succ n ih =>
    intro σ x1 x2 x3 x4 H locs ls hM hl h
    rw [fm_childBy_10] at h
    refine lv_iload hx hb dX12_childBy_10 (lv_at hl 4 rfl) ?_
    refine lv_if_le (tgt := 58) hx hb dX12_childBy_12 (by decide) (fun c_1 => ?_) (fun c_1 => ?_)
    · have h := br_T c_1 h
      refine lv_iload_n hx hb dX12_childBy_58 rfl (lv_at hl 3 rfl) ?_
      exact m_ri C hM hr hlk dX12_childBy_59 h
    · have h := br_F c_1 h
      refine lv_aload_n hx hb dX12_childBy_15 rfl (lv_at hl 0 rfl) ?_
      refine m_geta C hM (k := 25) (by decide) rfl dX12_childBy_16 ?_
      refine lv_iload hx hb dX12_childBy_19 (lv_at hl 4 rfl) ?_
      obtain ⟨c_2, h⟩ := ko_of h
      refine m_iald C hM (k := 25) rfl c_2 dX12_childBy_21 ?_
      refine lv_aload_n hx hb dX12_childBy_22 rfl (lv_at hl 0 rfl) ?_
      refine m_geti C hM (k := 34) (Or.inl rfl) rfl dX12_childBy_23 ?_
      refine lv_icmp_ne (tgt := 50) hx hb dX12_childBy_26 (by decide) (fun c_3 => ?_) (fun c_3 => ?_)
      · have h := br_F c_3 h
        exact gm_childBy_50 C hr hlk ih _ _ _ _ _ _ _ _ hM (lv_sub hl [0, 1, 2, 3, 4] rfl) h
      · have h := br_T c_3 h
        refine lv_iload_n hx hb dX12_childBy_29 rfl (lv_at hl 1 rfl) ?_
        refine lv_iconst (v := (1 : Int32)) hx hb dX12_childBy_30 (by decide) ?_
        refine lv_icmp_eq (tgt := 50) hx hb dX12_childBy_31 (by decide) (fun c_4 => ?_) (fun c_4 => ?_)
        · have h := br_T c_4 h
          exact gm_childBy_50 C hr hlk ih _ _ _ _ _ _ _ _ hM (lv_sub hl [0, 1, 2, 3, 4] rfl) h
        · have h := br_F c_4 h
          refine lv_aload_n hx hb dX12_childBy_34 rfl (lv_at hl 0 rfl) ?_
          refine lv_iload hx hb dX12_childBy_35 (lv_at hl 4 rfl) ?_
          refine lv_iload_n hx hb dX12_childBy_37 rfl (lv_at hl 1 rfl) ?_
          refine lv_iload_n hx hb dX12_childBy_38 rfl (lv_at hl 2 rfl) ?_
          obtain ⟨r_1, hr_1, h⟩ := bd_of h
          refine m_cVi (As := [.int x4, .int x1, .int x2]) (rest := []) C hM (cm_isLike l D ca α A σ x4 x1 x2 r_1 hr_1) mwy_isLike ⟨rfl, rfl⟩ ⟨Nat.le_of_ble_eq_true rfl, Nat.le_of_ble_eq_true rfl⟩ rfl rfl (Nat.le_of_ble_eq_true rfl) hl.1 dX12_childBy_39 ⟨rfl, rfl⟩ (fun H locs hM => ?_)
          refine lv_if_eq (tgt := 50) hx hb dX12_childBy_42 (by decide) (fun c_5 => ?_) (fun c_5 => ?_)
          · have h := br_T c_5 h
            exact gm_childBy_50 C hr hlk ih _ _ _ _ _ _ _ _ hM (lv_sub hl [0, 1, 2, 3, 4] rfl) h
          · have h := br_F c_5 h
            refine lv_iload hx hb dX12_childBy_45 (lv_at hl 4 rfl) ?_
            refine lv_goto (tgt := 51) hx hb dX12_childBy_47 (by decide) ?_
            exact gm_childBy_51 C hr hlk ih _ _ _ _ _ _ _ _ hM (lv_sub hl [0, 1, 2, 4] rfl) h
def fm_childBy (σ : mS) (x1 : Int32) (x2 : Int32) : Option (Int32 × mS) :=
  fm_childBy_10 3000 σ x1 x2 (-1 : Int32) ((σ.1 33) - (1 : Int32))
set_option maxHeartbeats 4000000 in
set_option maxRecDepth 100000 in
theorem cm_childBy (l : Launch) (D : va_G) (ca : Nat → ClassId) (α : Nat → Nat) (A : Nat → Prop) (σ : mS) (x1 : Int32) (x2 : Int32) (o : Int32 × mS) (h : fm_childBy σ x1 x2 = some o) : mMetI l yX12_childBy cX12_childBy 5 (some .int) rmX12_childBy D ca α A σ [.int x1, .int x2] o := by
  refine Met.ofW (cc := cX12_childBy) (maxL := 5) (ret := some .int) (by decide) rfl ?_
  intro p e s m args below meth c s₁ B hml hv
  obtain ⟨rfl, hP, hK, hD0⟩ := hv
  have C : mC p s m _ c cX12_childBy 5 D ca := ⟨B.exec, B.bytes, hml, findClass_of_methodNamed B.named, fun w hw => atoms_spec (ws := mWs yX12_childBy cX12_childBy 5 (some .int)) B.pre w (List.mem_cons_of_mem _ hw), hK⟩
  have hM : mM D ca α A s.heap σ s.heap [] := ⟨hP, hD0, va_S.rf⟩
  have hr := B.returns
  have hlk := B.notSynchronized
  have hx := C.1
  have hb := C.2.1
  have hl := lv_entry ([.ref (α 0), .int x1, .int x2]) (n := 5) (Nat.le_of_ble_eq_true rfl)
  rw [lg_entry_eq]
  generalize (lg_sl ([.ref (α 0), .int x1, .int x2]) ++ List.replicate (5 - (lg_sl ([.ref (α 0), .int x1, .int x2])).length) Slot.unset).toArray = ls at hl ⊢
  have hl : lv_has ls 5 [(0, .ref (α 0)), (1, .int x1), (2, .int x2)] := hl
  unfold fm_childBy at h
  refine lv_iconst (v := (-1 : Int32)) hx hb dX12_childBy_0 (by decide) ?_
  refine lv_istore_n (lv' := [(3, .int (-1 : Int32)), (0, .ref (α 0)), (1, .int x1), (2, .int x2)]) hx hb dX12_childBy_1 rfl hl (by decide) rfl (fun ls hl => ?_)
  refine lv_aload_n hx hb dX12_childBy_2 rfl (lv_at hl 1 rfl) ?_
  refine m_geti C hM (k := 33) (Or.inl rfl) rfl dX12_childBy_3 ?_
  refine lv_iconst (v := (1 : Int32)) hx hb dX12_childBy_6 (by decide) ?_
  refine lv_isub hx hb dX12_childBy_7 ?_
  refine lv_istore (lv' := [(4, .int ((σ.1 33) - (1 : Int32))), (3, .int (-1 : Int32)), (0, .ref (α 0)), (1, .int x1), (2, .int x2)]) hx hb dX12_childBy_8 hl (by decide) rfl (fun ls hl => ?_)
  exact gm_childBy_10 C hr hlk  _ _ _ _ _ _ _ _ _ hM (lv_sub hl [2, 3, 4, 1, 0] rfl) h
theorem mwy_childBy : mCallV RX12 281 yX12_childBy cX12_childBy 5 (some .int) 2 := ⟨⟨wl_in (i := 2181) (by decide +kernel), wl_in (i := 2183) (by decide +kernel), wl_inp (i := 52) (by decide +kernel), wl_in (i := 16) (by decide +kernel), wl_in (i := 2184) (by decide +kernel)⟩, rfl, by decide, by decide, by decide +kernel⟩
/-! comes(II)V -/
abbrev rmX12_comes : Room := { frames := 3, cells := 0, slots := 0, locals := 68 }
def fm_comes_176 : Nat → mS → Int32 → Int32 → Option (mS)
  | 0, _, _, _ => none
  | n + 1, σ, x3, x4 =>
    if (σ.1 2) ≤ x4 then
      some (mI (mI σ 33 ((σ.1 33) + (1 : Int32))) 34 x3)
    else
      if x4 < 0 ∨ 30 ≤ x4.toNatClampNeg then none else
      if (((30 : Int32) * x3) + x4) < 0 ∨ 2400 ≤ (((30 : Int32) * x3) + x4).toNatClampNeg then none else
      (fm_comes_176 n) (mA σ 26 (((30 : Int32) * x3) + x4).toNatClampNeg (σ.2.2.1 1 x4.toNatClampNeg)) x3 (x4 + (1 : Int32))
set_option maxHeartbeats 4000000 in
set_option maxRecDepth 100000 in
theorem gm_comes_176 {p : Program} {l : Launch} {e : Env} {s : State} {m : MethodId} {args : Array Value} {below : List Frame} {meth : Method} {c : Code} {D : va_G} {ca : Nat → ClassId} {α : Nat → Nat} {A : Nat → Prop} {o : mS} (C : mC p s m args c cX12_comes 5 D ca) (hr : meth.sig.returnType = none) (hlk : meth.locks = false) : ∀ (n : Nat) (σ : mS) (x3 : Int32) (x4 : Int32) (H : Heap) (locs : List Loc) (ls : Array Slot), mM D ca α A s.heap σ H locs → lv_has ls 5 [(0, .ref (α 0)), (3, .int x3), (4, .int x4)] → fm_comes_176 n σ x3 x4 = some o → mGV p l e rmX12_comes s m args below meth c D ca α A o H locs 176 ls [] := by
  have hx := C.1
  have hb := C.2.1
  intro n
  induction n with
  | zero =>
    intro σ x3 x4 H locs ls hM hl h
    cases h
  | succ n ih =>
    intro σ x3 x4 H locs ls hM hl h
    rw [fm_comes_176] at h
    refine lv_iload hx hb dX12_comes_176 (lv_at hl 2 rfl) ?_
    refine lv_aload_n hx hb dX12_comes_178 rfl (lv_at hl 0 rfl) ?_
    refine m_geti C hM (k := 2) (Or.inl rfl) rfl dX12_comes_179 ?_
    refine lv_icmp_ge (tgt := 210) hx hb dX12_comes_182 (by decide) (fun c_1 => ?_) (fun c_1 => ?_)
    · have h := br_T c_1 h
      refine lv_aload_n hx hb dX12_comes_210 rfl (lv_at hl 0 rfl) ?_
      refine lv_dup hx hb dX12_comes_211 rfl ?_
      refine m_geti C hM (k := 33) (Or.inl rfl) rfl dX12_comes_212 ?_
      refine lv_iconst (v := (1 : Int32)) hx hb dX12_comes_215 (by decide) ?_
      refine lv_iadd hx hb dX12_comes_216 ?_
      refine m_puti C hM (k := 33) rfl rfl dX12_comes_217 (fun H locs hM => ?_)
      refine lv_aload_n hx hb dX12_comes_220 rfl (lv_at hl 0 rfl) ?_
      refine lv_iload_n hx hb dX12_comes_221 rfl (lv_at hl 1 rfl) ?_
      refine m_puti C hM (k := 34) rfl rfl dX12_comes_222 (fun H locs hM => ?_)
      exact m_rv C hM hr hlk dX12_comes_225 h
    · have h := br_F c_1 h
      refine lv_aload_n hx hb dX12_comes_185 rfl (lv_at hl 0 rfl) ?_
      refine m_geta C hM (k := 26) (by decide) rfl dX12_comes_186 ?_
      refine lv_bipush (v := (30 : Int32)) hx hb dX12_comes_189 (by decide) ?_
      refine lv_iload_n hx hb dX12_comes_191 rfl (lv_at hl 1 rfl) ?_
      refine lv_imul hx hb dX12_comes_192 ?_
      refine lv_iload hx hb dX12_comes_193 (lv_at hl 2 rfl) ?_
      refine lv_iadd hx hb dX12_comes_195 ?_
      refine lv_aload_n hx hb dX12_comes_196 rfl (lv_at hl 0 rfl) ?_
      refine m_geta C hM (k := 1) (by decide) rfl dX12_comes_197 ?_
      refine lv_iload hx hb dX12_comes_200 (lv_at hl 2 rfl) ?_
      obtain ⟨c_2, h⟩ := ko_of h
      refine m_iald C hM (k := 1) rfl c_2 dX12_comes_202 ?_
      obtain ⟨c_3, h⟩ := ko_of h
      refine m_iast C hM (k := 26) rfl c_3 dX12_comes_203 (fun H locs hM => ?_)
      refine lv_iinc (v := (x4 + (1 : Int32))) (lv' := [(4, .int (x4 + (1 : Int32))), (0, .ref (α 0)), (3, .int x3)]) hx hb dX12_comes_204 hl (k := 2) rfl rfl (by decide) rfl (fun ls hl => ?_)
      refine lv_goto (tgt := 176) hx hb dX12_comes_207 (by decide) ?_
      exact ih _ _ _ _ _ _ hM (lv_sub hl [1, 2, 0] rfl) h
def fm_comes_131 (σ : mS) (x1 : Int32) (x2 : Int32) (x3 : Int32) (s0 : Int32) (s1 : Int32) : Option (mS) :=
  if s1 < 0 ∨ 80 ≤ s1.toNatClampNeg then none else
  if x3 < 0 ∨ 80 ≤ x3.toNatClampNeg then none else
  if x3 < 0 ∨ 80 ≤ x3.toNatClampNeg then none else
  if x3 < 0 ∨ 80 ≤ x3.toNatClampNeg then none else
  if x3 < 0 ∨ 80 ≤ x3.toNatClampNeg then none else
  if ((8 : Int32) * x3) < 0 ∨ 640 ≤ ((8 : Int32) * x3).toNatClampNeg then none else
  fm_comes_176 3000 (mA (mA (mA (mA (mA (mA σ 25 s1.toNatClampNeg s0) 28 x3.toNatClampNeg x1) 29 x3.toNatClampNeg x2) 27 x3.toNatClampNeg ((mA (mA (mA σ 25 s1.toNatClampNeg s0) 28 x3.toNatClampNeg x1) 29 x3.toNatClampNeg x2).1 2)) 32 x3.toNatClampNeg (-1 : Int32)) 31 ((8 : Int32) * x3).toNatClampNeg (0 : Int32)) x3 (0 : Int32)
set_option maxHeartbeats 4000000 in
set_option maxRecDepth 100000 in
theorem gm_comes_131 {p : Program} {l : Launch} {e : Env} {s : State} {m : MethodId} {args : Array Value} {below : List Frame} {meth : Method} {c : Code} {D : va_G} {ca : Nat → ClassId} {α : Nat → Nat} {A : Nat → Prop} {o : mS} (C : mC p s m args c cX12_comes 5 D ca) (hr : meth.sig.returnType = none) (hlk : meth.locks = false) : ∀ (σ : mS) (x1 : Int32) (x2 : Int32) (x3 : Int32) (s0 : Int32) (s1 : Int32) (H : Heap) (locs : List Loc) (ls : Array Slot), mM D ca α A s.heap σ H locs → lv_has ls 5 [(0, .ref (α 0)), (1, .int x1), (2, .int x2), (3, .int x3)] → fm_comes_131 σ x1 x2 x3 s0 s1 = some o → mGV p l e rmX12_comes s m args below meth c D ca α A o H locs 131 ls [.int s0, .int s1, .ref (α 26)] := by
  have hx := C.1
  have hb := C.2.1
  intro σ x1 x2 x3 s0 s1 H locs ls hM hl h
  unfold fm_comes_131 at h
  obtain ⟨c_1, h⟩ := ko_of h
  refine m_iast C hM (k := 25) rfl c_1 dX12_comes_131 (fun H locs hM => ?_)
  refine lv_aload_n hx hb dX12_comes_132 rfl (lv_at hl 0 rfl) ?_
  refine m_geta C hM (k := 28) (by decide) rfl dX12_comes_133 ?_
  refine lv_iload_n hx hb dX12_comes_136 rfl (lv_at hl 3 rfl) ?_
  refine lv_iload_n hx hb dX12_comes_137 rfl (lv_at hl 1 rfl) ?_
  obtain ⟨c_2, h⟩ := ko_of h
  refine m_iast C hM (k := 28) rfl c_2 dX12_comes_138 (fun H locs hM => ?_)
  refine lv_aload_n hx hb dX12_comes_139 rfl (lv_at hl 0 rfl) ?_
  refine m_geta C hM (k := 29) (by decide) rfl dX12_comes_140 ?_
  refine lv_iload_n hx hb dX12_comes_143 rfl (lv_at hl 3 rfl) ?_
  refine lv_iload_n hx hb dX12_comes_144 rfl (lv_at hl 2 rfl) ?_
  obtain ⟨c_3, h⟩ := ko_of h
  refine m_iast C hM (k := 29) rfl c_3 dX12_comes_145 (fun H locs hM => ?_)
  refine lv_aload_n hx hb dX12_comes_146 rfl (lv_at hl 0 rfl) ?_
  refine m_geta C hM (k := 27) (by decide) rfl dX12_comes_147 ?_
  refine lv_iload_n hx hb dX12_comes_150 rfl (lv_at hl 3 rfl) ?_
  refine lv_aload_n hx hb dX12_comes_151 rfl (lv_at hl 0 rfl) ?_
  refine m_geti C hM (k := 2) (Or.inl rfl) rfl dX12_comes_152 ?_
  obtain ⟨c_4, h⟩ := ko_of h
  refine m_iast C hM (k := 27) rfl c_4 dX12_comes_155 (fun H locs hM => ?_)
  refine lv_aload_n hx hb dX12_comes_156 rfl (lv_at hl 0 rfl) ?_
  refine m_geta C hM (k := 32) (by decide) rfl dX12_comes_157 ?_
  refine lv_iload_n hx hb dX12_comes_160 rfl (lv_at hl 3 rfl) ?_
  refine lv_iconst (v := (-1 : Int32)) hx hb dX12_comes_161 (by decide) ?_
  obtain ⟨c_5, h⟩ := ko_of h
  refine m_iast C hM (k := 32) rfl c_5 dX12_comes_162 (fun H locs hM => ?_)
  refine lv_aload_n hx hb dX12_comes_163 rfl (lv_at hl 0 rfl) ?_
  refine m_geta C hM (k := 31) (by decide) rfl dX12_comes_164 ?_
  refine lv_bipush (v := (8 : Int32)) hx hb dX12_comes_167 (by decide) ?_
  refine lv_iload_n hx hb dX12_comes_169 rfl (lv_at hl 3 rfl) ?_
  refine lv_imul hx hb dX12_comes_170 ?_
  refine lv_iconst (v := (0 : Int32)) hx hb dX12_comes_171 (by decide) ?_
  obtain ⟨c_6, h⟩ := ko_of h
  refine m_iast C hM (k := 31) rfl c_6 dX12_comes_172 (fun H locs hM => ?_)
  refine lv_iconst (v := (0 : Int32)) hx hb dX12_comes_173 (by decide) ?_
  refine lv_istore (lv' := [(4, .int (0 : Int32)), (0, .ref (α 0)), (1, .int x1), (2, .int x2), (3, .int x3)]) hx hb dX12_comes_174 hl (by decide) rfl (fun ls hl => ?_)
  exact gm_comes_176 C hr hlk  _ _ _ _ _ _ _ hM (lv_sub hl [1, 4, 0] rfl) h
def fm_comes_29 : Nat → mS → Int32 → Int32 → Int32 → Int32 → Option (mS)
  | 0, _, _, _, _, _ => none
  | n + 1, σ, x1, x2, x3, x4 =>
    if (σ.1 16) ≤ x4 then
      (fm_showsNow σ).bind fun r_1 =>
      if x3 < 0 ∨ 80 ≤ x3.toNatClampNeg then none else
      if ((mL r_1.2 30 x3.toNatClampNeg r_1.1).1 33) ≤ 0 then
        fm_comes_131 (mL r_1.2 30 x3.toNatClampNeg r_1.1) x1 x2 x3 (-1 : Int32) x3
      else
        fm_comes_131 (mL r_1.2 30 x3.toNatClampNeg r_1.1) x1 x2 x3 ((mL r_1.2 30 x3.toNatClampNeg r_1.1).1 34) x3
    else
      if x4 < 0 ∨ 12 ≤ x4.toNatClampNeg then none else
      if (((12 : Int32) * x3) + x4) < 0 ∨ 960 ≤ (((12 : Int32) * x3) + x4).toNatClampNeg then none else
      if x4 < 0 ∨ 12 ≤ x4.toNatClampNeg then none else
      if (((12 : Int32) * x3) + x4) < 0 ∨ 960 ≤ (((12 : Int32) * x3) + x4).toNatClampNeg then none else
      if x4 < 0 ∨ 12 ≤ x4.toNatClampNeg then none else
      if (((12 : Int32) * x3) + x4) < 0 ∨ 960 ≤ (((12 : Int32) * x3) + x4).toNatClampNeg then none else
      (fm_comes_29 n) (mA (mA (mA σ 22 (((12 : Int32) * x3) + x4).toNatClampNeg (σ.2.2.1 36 x4.toNatClampNeg)) 23 (((12 : Int32) * x3) + x4).toNatClampNeg (((mA σ 22 (((12 : Int32) * x3) + x4).toNatClampNeg (σ.2.2.1 36 x4.toNatClampNeg)).2.2.1 37 x4.toNatClampNeg) &&& 1)) 24 (((12 : Int32) * x3) + x4).toNatClampNeg ((mA (mA σ 22 (((12 : Int32) * x3) + x4).toNatClampNeg (σ.2.2.1 36 x4.toNatClampNeg)) 23 (((12 : Int32) * x3) + x4).toNatClampNeg (((mA σ 22 (((12 : Int32) * x3) + x4).toNatClampNeg (σ.2.2.1 36 x4.toNatClampNeg)).2.2.1 37 x4.toNatClampNeg) &&& 1)).2.2.1 38 x4.toNatClampNeg)) x1 x2 x3 (x4 + (1 : Int32))
set_option maxHeartbeats 4000000 in
set_option maxRecDepth 100000 in
theorem gm_comes_29 {p : Program} {l : Launch} {e : Env} {s : State} {m : MethodId} {args : Array Value} {below : List Frame} {meth : Method} {c : Code} {D : va_G} {ca : Nat → ClassId} {α : Nat → Nat} {A : Nat → Prop} {o : mS} (C : mC p s m args c cX12_comes 5 D ca) (hr : meth.sig.returnType = none) (hlk : meth.locks = false) : ∀ (n : Nat) (σ : mS) (x1 : Int32) (x2 : Int32) (x3 : Int32) (x4 : Int32) (H : Heap) (locs : List Loc) (ls : Array Slot), mM D ca α A s.heap σ H locs → lv_has ls 5 [(0, .ref (α 0)), (1, .int x1), (2, .int x2), (3, .int x3), (4, .int x4)] → fm_comes_29 n σ x1 x2 x3 x4 = some o → mGV p l e rmX12_comes s m args below meth c D ca α A o H locs 29 ls [] := by
  have hx := C.1
  have hb := C.2.1
  intro n
  induction n with
  | zero =>
    intro σ x1 x2 x3 x4 H locs ls hM hl h
    cases h
  | succ n ih =>
    intro σ x1 x2 x3 x4 H locs ls hM hl h
    rw [fm_comes_29] at h
    refine lv_iload hx hb dX12_comes_29 (lv_at hl 4 rfl) ?_
    refine lv_aload_n hx hb dX12_comes_31 rfl (lv_at hl 0 rfl) ?_
    refine m_geti C hM (k := 16) (Or.inl rfl) rfl dX12_comes_32 ?_
    refine lv_icmp_ge (tgt := 101) hx hb dX12_comes_35 (by decide) (fun c_1 => ?_) (fun c_1 => ?_)
    · have h := br_T c_1 h
      refine lv_aload_n hx hb dX12_comes_101 rfl (lv_at hl 0 rfl) ?_
      refine m_geta C hM (k := 30) (by decide) rfl dX12_comes_102 ?_
      refine lv_iload_n hx hb dX12_comes_105 rfl (lv_at hl 3 rfl) ?_
      refine lv_aload_n hx hb dX12_comes_106 rfl (lv_at hl 0 rfl) ?_
      obtain ⟨r_1, hr_1, h⟩ := bd_of h
      refine m_cVl (As := []) (rest := [.int x3, .ref (α 31)]) C hM (cm_showsNow l D ca α A σ  r_1 hr_1) mwy_showsNow ⟨rfl, rfl⟩ ⟨Nat.le_of_ble_eq_true rfl, Nat.le_of_ble_eq_true rfl⟩ rfl rfl (Nat.le_of_ble_eq_true rfl) hl.1 dX12_comes_107 ⟨rfl, rfl⟩ (fun H locs hM => ?_)
      obtain ⟨c_2, h⟩ := ko_of h
      refine m_last C hM (k := 30) rfl c_2 dX12_comes_110 (fun H locs hM => ?_)
      refine lv_aload_n hx hb dX12_comes_111 rfl (lv_at hl 0 rfl) ?_
      refine m_geta C hM (k := 25) (by decide) rfl dX12_comes_112 ?_
      refine lv_iload_n hx hb dX12_comes_115 rfl (lv_at hl 3 rfl) ?_
      refine lv_aload_n hx hb dX12_comes_116 rfl (lv_at hl 0 rfl) ?_
      refine m_geti C hM (k := 33) (Or.inl rfl) rfl dX12_comes_117 ?_
      refine lv_if_le (tgt := 130) hx hb dX12_comes_120 (by decide) (fun c_3 => ?_) (fun c_3 => ?_)
      · have h := br_T c_3 h
        refine lv_iconst (v := (-1 : Int32)) hx hb dX12_comes_130 (by decide) ?_
        exact gm_comes_131 C hr hlk  _ _ _ _ _ _ _ _ _ hM (lv_sub hl [0, 1, 2, 3] rfl) h
      · have h := br_F c_3 h
        refine lv_aload_n hx hb dX12_comes_123 rfl (lv_at hl 0 rfl) ?_
        refine m_geti C hM (k := 34) (Or.inl rfl) rfl dX12_comes_124 ?_
        refine lv_goto (tgt := 131) hx hb dX12_comes_127 (by decide) ?_
        exact gm_comes_131 C hr hlk  _ _ _ _ _ _ _ _ _ hM (lv_sub hl [0, 1, 2, 3] rfl) h
    · have h := br_F c_1 h
      refine lv_aload_n hx hb dX12_comes_38 rfl (lv_at hl 0 rfl) ?_
      refine m_geta C hM (k := 22) (by decide) rfl dX12_comes_39 ?_
      refine lv_bipush (v := (12 : Int32)) hx hb dX12_comes_42 (by decide) ?_
      refine lv_iload_n hx hb dX12_comes_44 rfl (lv_at hl 3 rfl) ?_
      refine lv_imul hx hb dX12_comes_45 ?_
      refine lv_iload hx hb dX12_comes_46 (lv_at hl 4 rfl) ?_
      refine lv_iadd hx hb dX12_comes_48 ?_
      refine lv_aload_n hx hb dX12_comes_49 rfl (lv_at hl 0 rfl) ?_
      refine m_geta C hM (k := 36) (by decide) rfl dX12_comes_50 ?_
      refine lv_iload hx hb dX12_comes_53 (lv_at hl 4 rfl) ?_
      obtain ⟨c_4, h⟩ := ko_of h
      refine m_iald C hM (k := 36) rfl c_4 dX12_comes_55 ?_
      obtain ⟨c_5, h⟩ := ko_of h
      refine m_iast C hM (k := 22) rfl c_5 dX12_comes_56 (fun H locs hM => ?_)
      refine lv_aload_n hx hb dX12_comes_57 rfl (lv_at hl 0 rfl) ?_
      refine m_geta C hM (k := 23) (by decide) rfl dX12_comes_58 ?_
      refine lv_bipush (v := (12 : Int32)) hx hb dX12_comes_61 (by decide) ?_
      refine lv_iload_n hx hb dX12_comes_63 rfl (lv_at hl 3 rfl) ?_
      refine lv_imul hx hb dX12_comes_64 ?_
      refine lv_iload hx hb dX12_comes_65 (lv_at hl 4 rfl) ?_
      refine lv_iadd hx hb dX12_comes_67 ?_
      refine lv_aload_n hx hb dX12_comes_68 rfl (lv_at hl 0 rfl) ?_
      refine m_geta C hM (k := 37) (by decide) rfl dX12_comes_69 ?_
      refine lv_iload hx hb dX12_comes_72 (lv_at hl 4 rfl) ?_
      obtain ⟨c_6, h⟩ := ko_of h
      refine m_zald C hM (k := 37) rfl c_6 dX12_comes_74 ?_
      obtain ⟨c_7, h⟩ := ko_of h
      refine m_zast C hM (k := 23) rfl c_7 dX12_comes_75 (fun H locs hM => ?_)
      refine lv_aload_n hx hb dX12_comes_76 rfl (lv_at hl 0 rfl) ?_
      refine m_geta C hM (k := 24) (by decide) rfl dX12_comes_77 ?_
      refine lv_bipush (v := (12 : Int32)) hx hb dX12_comes_80 (by decide) ?_
      refine lv_iload_n hx hb dX12_comes_82 rfl (lv_at hl 3 rfl) ?_
      refine lv_imul hx hb dX12_comes_83 ?_
      refine lv_iload hx hb dX12_comes_84 (lv_at hl 4 rfl) ?_
      refine lv_iadd hx hb dX12_comes_86 ?_
      refine lv_aload_n hx hb dX12_comes_87 rfl (lv_at hl 0 rfl) ?_
      refine m_geta C hM (k := 38) (by decide) rfl dX12_comes_88 ?_
      refine lv_iload hx hb dX12_comes_91 (lv_at hl 4 rfl) ?_
      obtain ⟨c_8, h⟩ := ko_of h
      refine m_iald C hM (k := 38) rfl c_8 dX12_comes_93 ?_
      obtain ⟨c_9, h⟩ := ko_of h
      refine m_iast C hM (k := 24) rfl c_9 dX12_comes_94 (fun H locs hM => ?_)
      refine lv_iinc (v := (x4 + (1 : Int32))) (lv' := [(4, .int (x4 + (1 : Int32))), (0, .ref (α 0)), (1, .int x1), (2, .int x2), (3, .int x3)]) hx hb dX12_comes_95 hl (k := 4) rfl rfl (by decide) rfl (fun ls hl => ?_)
      refine lv_goto (tgt := 29) hx hb dX12_comes_98 (by decide) ?_
      exact ih _ _ _ _ _ _ _ _ hM (lv_sub hl [1, 2, 3, 4, 0] rfl) h
def fm_comes_11 (σ : mS) (x1 : Int32) (x2 : Int32) : Option (mS) :=
  if (σ.1 33) < 0 ∨ 80 ≤ (σ.1 33).toNatClampNeg then none else
  fm_comes_29 3000 (mA σ 21 (σ.1 33).toNatClampNeg (σ.1 35)) x1 x2 (σ.1 33) (0 : Int32)
set_option maxHeartbeats 4000000 in
set_option maxRecDepth 100000 in
theorem gm_comes_11 {p : Program} {l : Launch} {e : Env} {s : State} {m : MethodId} {args : Array Value} {below : List Frame} {meth : Method} {c : Code} {D : va_G} {ca : Nat → ClassId} {α : Nat → Nat} {A : Nat → Prop} {o : mS} (C : mC p s m args c cX12_comes 5 D ca) (hr : meth.sig.returnType = none) (hlk : meth.locks = false) : ∀ (σ : mS) (x1 : Int32) (x2 : Int32) (H : Heap) (locs : List Loc) (ls : Array Slot), mM D ca α A s.heap σ H locs → lv_has ls 5 [(0, .ref (α 0)), (1, .int x1), (2, .int x2)] → fm_comes_11 σ x1 x2 = some o → mGV p l e rmX12_comes s m args below meth c D ca α A o H locs 11 ls [] := by
  have hx := C.1
  have hb := C.2.1
  intro σ x1 x2 H locs ls hM hl h
  unfold fm_comes_11 at h
  refine lv_aload_n hx hb dX12_comes_11 rfl (lv_at hl 0 rfl) ?_
  refine m_geti C hM (k := 33) (Or.inl rfl) rfl dX12_comes_12 ?_
  refine lv_istore_n (lv' := [(3, .int (σ.1 33)), (0, .ref (α 0)), (1, .int x1), (2, .int x2)]) hx hb dX12_comes_15 rfl hl (by decide) rfl (fun ls hl => ?_)
  refine lv_aload_n hx hb dX12_comes_16 rfl (lv_at hl 1 rfl) ?_
  refine m_geta C hM (k := 21) (by decide) rfl dX12_comes_17 ?_
  refine lv_iload_n hx hb dX12_comes_20 rfl (lv_at hl 0 rfl) ?_
  refine lv_aload_n hx hb dX12_comes_21 rfl (lv_at hl 1 rfl) ?_
  refine m_geti C hM (k := 35) (Or.inl rfl) rfl dX12_comes_22 ?_
  obtain ⟨c_1, h⟩ := ko_of h
  refine m_iast C hM (k := 21) rfl c_1 dX12_comes_25 (fun H locs hM => ?_)
  refine lv_iconst (v := (0 : Int32)) hx hb dX12_comes_26 (by decide) ?_
  refine lv_istore (lv' := [(4, .int (0 : Int32)), (3, .int (σ.1 33)), (0, .ref (α 0)), (1, .int x1), (2, .int x2)]) hx hb dX12_comes_27 hl (by decide) rfl (fun ls hl => ?_)
  exact gm_comes_29 C hr hlk  _ _ _ _ _ _ _ _ _ hM (lv_sub hl [2, 3, 4, 1, 0] rfl) h
def fm_comes (σ : mS) (x1 : Int32) (x2 : Int32) : Option (mS) :=
  if (σ.1 33) ≤ 0 then
    fm_comes_11 σ x1 x2
  else
    (fm_burns σ).bind fun r_1 =>
    fm_comes_11 r_1 x1 x2
set_option maxHeartbeats 4000000 in
set_option maxRecDepth 100000 in
theorem cm_comes (l : Launch) (D : va_G) (ca : Nat → ClassId) (α : Nat → Nat) (A : Nat → Prop) (σ : mS) (x1 : Int32) (x2 : Int32) (o : mS) (h : fm_comes σ x1 x2 = some o) : mMetV l yX12_comes cX12_comes 5 (none) rmX12_comes D ca α A σ [.int x1, .int x2] o := by
  refine Met.ofW (cc := cX12_comes) (maxL := 5) (ret := none) (by decide) rfl ?_
  intro p e s m args below meth c s₁ B hml hv
  obtain ⟨rfl, hP, hK, hD0⟩ := hv
  have C : mC p s m _ c cX12_comes 5 D ca := ⟨B.exec, B.bytes, hml, findClass_of_methodNamed B.named, fun w hw => atoms_spec (ws := mWs yX12_comes cX12_comes 5 (none)) B.pre w (List.mem_cons_of_mem _ hw), hK⟩
  have hM : mM D ca α A s.heap σ s.heap [] := ⟨hP, hD0, va_S.rf⟩
  have hr := B.returns
  have hlk := B.notSynchronized
  have hx := C.1
  have hb := C.2.1
  have hl := lv_entry ([.ref (α 0), .int x1, .int x2]) (n := 5) (Nat.le_of_ble_eq_true rfl)
  rw [lg_entry_eq]
  generalize (lg_sl ([.ref (α 0), .int x1, .int x2]) ++ List.replicate (5 - (lg_sl ([.ref (α 0), .int x1, .int x2])).length) Slot.unset).toArray = ls at hl ⊢
  have hl : lv_has ls 5 [(0, .ref (α 0)), (1, .int x1), (2, .int x2)] := hl
  unfold fm_comes at h
  refine lv_aload_n hx hb dX12_comes_0 rfl (lv_at hl 0 rfl) ?_
  refine m_geti C hM (k := 33) (Or.inl rfl) rfl dX12_comes_1 ?_
  refine lv_if_le (tgt := 11) hx hb dX12_comes_4 (by decide) (fun c_1 => ?_) (fun c_1 => ?_)
  · have h := br_T c_1 h
    exact gm_comes_11 C hr hlk  _ _ _ _ _ _ hM (lv_sub hl [0, 1, 2] rfl) h
  · have h := br_F c_1 h
    refine lv_aload_n hx hb dX12_comes_7 rfl (lv_at hl 0 rfl) ?_
    obtain ⟨r_1, hr_1, h⟩ := bd_of h
    refine m_cVv (As := []) (rest := []) C hM (cm_burns l D ca α A σ  r_1 hr_1) mwy_burns ⟨rfl, rfl⟩ ⟨Nat.le_of_ble_eq_true rfl, Nat.le_of_ble_eq_true rfl⟩ rfl rfl (Nat.le_of_ble_eq_true rfl) hl.1 dX12_comes_8 ⟨rfl, rfl⟩ (fun H locs hM => ?_)
    exact gm_comes_11 C hr hlk  _ _ _ _ _ _ hM (lv_sub hl [0, 1, 2] rfl) h
theorem mwy_comes : mCallV RX12 223 yX12_comes cX12_comes 5 (none) 2 := ⟨⟨wl_in (i := 2098) (by decide +kernel), wl_in (i := 2100) (by decide +kernel), wl_inp (i := 34) (by decide +kernel), wl_in (i := 16) (by decide +kernel), wl_in (i := 2101) (by decide +kernel)⟩, rfl, by decide, by decide, by decide +kernel⟩
/-! knownAt(I)J -/
abbrev rmX12_knownAt : Room := { frames := 0, cells := 0, slots := 0, locals := 0 }
def fm_knownAt_5 : Nat → mS → Int64 → Int32 → Option (Int64 × mS)
  | 0, _, _, _ => none
  | n + 1, σ, x2, x4 =>
    if x4 = (-1 : Int32) then
      some (x2, σ)
    else
      if x4 < 0 ∨ 80 ≤ x4.toNatClampNeg then none else
      if x4 < 0 ∨ 80 ≤ x4.toNatClampNeg then none else
      (fm_knownAt_5 n) σ (x2 ||| (σ.2.2.2 30 x4.toNatClampNeg)) (σ.2.2.1 25 x4.toNatClampNeg)
set_option maxHeartbeats 4000000 in
set_option maxRecDepth 100000 in
theorem gm_knownAt_5 {p : Program} {l : Launch} {e : Env} {s : State} {m : MethodId} {args : Array Value} {below : List Frame} {meth : Method} {c : Code} {D : va_G} {ca : Nat → ClassId} {α : Nat → Nat} {A : Nat → Prop} {o : Int64 × mS} (C : mC p s m args c cX12_knownAt 5 D ca) (hr : meth.sig.returnType = some .long) (hlk : meth.locks = false) : ∀ (n : Nat) (σ : mS) (x2 : Int64) (x4 : Int32) (H : Heap) (locs : List Loc) (ls : Array Slot), mM D ca α A s.heap σ H locs → lv_has ls 5 [(0, .ref (α 0)), (2, .long x2), (4, .int x4)] → fm_knownAt_5 n σ x2 x4 = some o → mGL p l e rmX12_knownAt s m args below meth c D ca α A o H locs 5 ls [] := by
  have hx := C.1
  have hb := C.2.1
  intro n
  induction n with
  | zero =>
    intro σ x2 x4 H locs ls hM hl h
    cases h
  | succ n ih =>
    intro σ x2 x4 H locs ls hM hl h
    rw [fm_knownAt_5] at h
    refine lv_iload hx hb dX12_knownAt_5 (lv_at hl 2 rfl) ?_
    refine lv_iconst (v := (-1 : Int32)) hx hb dX12_knownAt_7 (by decide) ?_
    refine lv_icmp_eq (tgt := 33) hx hb dX12_knownAt_8 (by decide) (fun c_1 => ?_) (fun c_1 => ?_)
    · have h := br_T c_1 h
      refine lv_lload_n hx hb dX12_knownAt_33 rfl (lv_at hl 1 rfl) ?_
      exact m_rl C hM hr hlk dX12_knownAt_34 h
    · have h := br_F c_1 h
      refine lv_lload_n hx hb dX12_knownAt_11 rfl (lv_at hl 1 rfl) ?_
      refine lv_aload_n hx hb dX12_knownAt_12 rfl (lv_at hl 0 rfl) ?_
      refine m_geta C hM (k := 30) (by decide) rfl dX12_knownAt_13 ?_
      refine lv_iload hx hb dX12_knownAt_16 (lv_at hl 2 rfl) ?_
      obtain ⟨c_2, h⟩ := ko_of h
      refine m_lald C hM (k := 30) rfl c_2 dX12_knownAt_18 ?_
      refine lv_lor hx hb dX12_knownAt_19 ?_
      refine lv_lstore_n (lv' := [(2, .long (x2 ||| (σ.2.2.2 30 x4.toNatClampNeg))), (0, .ref (α 0)), (4, .int x4)]) hx hb dX12_knownAt_20 rfl hl (by decide) rfl (fun ls hl => ?_)
      refine lv_aload_n hx hb dX12_knownAt_21 rfl (lv_at hl 1 rfl) ?_
      refine m_geta C hM (k := 25) (by decide) rfl dX12_knownAt_22 ?_
      refine lv_iload hx hb dX12_knownAt_25 (lv_at hl 2 rfl) ?_
      obtain ⟨c_3, h⟩ := ko_of h
      refine m_iald C hM (k := 25) rfl c_3 dX12_knownAt_27 ?_
      refine lv_istore (lv' := [(4, .int (σ.2.2.1 25 x4.toNatClampNeg)), (2, .long (x2 ||| (σ.2.2.2 30 x4.toNatClampNeg))), (0, .ref (α 0))]) hx hb dX12_knownAt_28 hl (by decide) rfl (fun ls hl => ?_)
      refine lv_goto (tgt := 5) hx hb dX12_knownAt_30 (by decide) ?_
      exact ih _ _ _ _ _ _ hM (lv_sub hl [2, 1, 0] rfl) h
def fm_knownAt (σ : mS) (x1 : Int32) : Option (Int64 × mS) :=
  fm_knownAt_5 3000 σ (0 : Int64) x1
set_option maxHeartbeats 4000000 in
set_option maxRecDepth 100000 in
theorem cm_knownAt (l : Launch) (D : va_G) (ca : Nat → ClassId) (α : Nat → Nat) (A : Nat → Prop) (σ : mS) (x1 : Int32) (o : Int64 × mS) (h : fm_knownAt σ x1 = some o) : mMetL l yX12_knownAt cX12_knownAt 5 (some .long) rmX12_knownAt D ca α A σ [.int x1] o := by
  refine Met.ofW (cc := cX12_knownAt) (maxL := 5) (ret := some .long) (by decide) rfl ?_
  intro p e s m args below meth c s₁ B hml hv
  obtain ⟨rfl, hP, hK, hD0⟩ := hv
  have C : mC p s m _ c cX12_knownAt 5 D ca := ⟨B.exec, B.bytes, hml, findClass_of_methodNamed B.named, fun w hw => atoms_spec (ws := mWs yX12_knownAt cX12_knownAt 5 (some .long)) B.pre w (List.mem_cons_of_mem _ hw), hK⟩
  have hM : mM D ca α A s.heap σ s.heap [] := ⟨hP, hD0, va_S.rf⟩
  have hr := B.returns
  have hlk := B.notSynchronized
  have hx := C.1
  have hb := C.2.1
  have hl := lv_entry ([.ref (α 0), .int x1]) (n := 5) (Nat.le_of_ble_eq_true rfl)
  rw [lg_entry_eq]
  generalize (lg_sl ([.ref (α 0), .int x1]) ++ List.replicate (5 - (lg_sl ([.ref (α 0), .int x1])).length) Slot.unset).toArray = ls at hl ⊢
  have hl : lv_has ls 5 [(0, .ref (α 0)), (1, .int x1)] := hl
  unfold fm_knownAt at h
  refine lv_lconst (v := (0 : Int64)) hx hb dX12_knownAt_0 (by decide) ?_
  refine lv_lstore_n (lv' := [(2, .long (0 : Int64)), (0, .ref (α 0)), (1, .int x1)]) hx hb dX12_knownAt_1 rfl hl (by decide) rfl (fun ls hl => ?_)
  refine lv_iload_n hx hb dX12_knownAt_2 rfl (lv_at hl 2 rfl) ?_
  refine lv_istore (lv' := [(4, .int x1), (2, .long (0 : Int64)), (0, .ref (α 0)), (1, .int x1)]) hx hb dX12_knownAt_3 hl (by decide) rfl (fun ls hl => ?_)
  exact gm_knownAt_5 C hr hlk  _ _ _ _ _ _ _ hM (lv_sub hl [2, 1, 0] rfl) h
theorem mwy_knownAt : mCallV RX12 231 yX12_knownAt cX12_knownAt 5 (some .long) 1 := ⟨⟨wl_in (i := 2126) (by decide +kernel), wl_in (i := 2128) (by decide +kernel), wl_inp (i := 41) (by decide +kernel), wl_in (i := 16) (by decide +kernel), wl_in (i := 2129) (by decide +kernel)⟩, rfl, by decide, by decide, by decide +kernel⟩
/-! knownMany()I -/
abbrev rmX12_knownMany : Room := { frames := 2, cells := 0, slots := 0, locals := 45 }
def fm_knownMany (σ : mS) : Option (Int32 × mS) :=
  (fm_knownAt σ (σ.1 34)).bind fun r_1 =>
  (fm_bits r_1.1).bind fun r_2 =>
  some (r_2, r_1.2)
set_option maxHeartbeats 4000000 in
set_option maxRecDepth 100000 in
theorem cm_knownMany (l : Launch) (D : va_G) (ca : Nat → ClassId) (α : Nat → Nat) (A : Nat → Prop) (σ : mS) (o : Int32 × mS) (h : fm_knownMany σ  = some o) : mMetI l yX12_knownMany cX12_knownMany 1 (some .int) rmX12_knownMany D ca α A σ [] o := by
  refine Met.ofW (cc := cX12_knownMany) (maxL := 1) (ret := some .int) (by decide) rfl ?_
  intro p e s m args below meth c s₁ B hml hv
  obtain ⟨rfl, hP, hK, hD0⟩ := hv
  have C : mC p s m _ c cX12_knownMany 1 D ca := ⟨B.exec, B.bytes, hml, findClass_of_methodNamed B.named, fun w hw => atoms_spec (ws := mWs yX12_knownMany cX12_knownMany 1 (some .int)) B.pre w (List.mem_cons_of_mem _ hw), hK⟩
  have hM : mM D ca α A s.heap σ s.heap [] := ⟨hP, hD0, va_S.rf⟩
  have hr := B.returns
  have hlk := B.notSynchronized
  have hx := C.1
  have hb := C.2.1
  have hl := lv_entry ([.ref (α 0)]) (n := 1) (Nat.le_of_ble_eq_true rfl)
  rw [lg_entry_eq]
  generalize (lg_sl ([.ref (α 0)]) ++ List.replicate (1 - (lg_sl ([.ref (α 0)])).length) Slot.unset).toArray = ls at hl ⊢
  have hl : lv_has ls 1 [(0, .ref (α 0))] := hl
  unfold fm_knownMany at h
  refine lv_aload_n hx hb dX12_knownMany_0 rfl (lv_at hl 0 rfl) ?_
  refine lv_aload_n hx hb dX12_knownMany_1 rfl (lv_at hl 0 rfl) ?_
  refine m_geti C hM (k := 34) (Or.inl rfl) rfl dX12_knownMany_2 ?_
  obtain ⟨r_1, hr_1, h⟩ := bd_of h
  refine m_cVl (As := [.int (σ.1 34)]) (rest := []) C hM (cm_knownAt l D ca α A σ (σ.1 34) r_1 hr_1) mwy_knownAt ⟨rfl, rfl⟩ ⟨Nat.le_of_ble_eq_true rfl, Nat.le_of_ble_eq_true rfl⟩ rfl rfl (Nat.le_of_ble_eq_true rfl) hl.1 dX12_knownMany_5 ⟨rfl, rfl⟩ (fun H locs hM => ?_)
  obtain ⟨r_2, hr_2, h⟩ := bd_of h
  refine m_cSi (As := [.long r_1.1]) (rest := []) C hM (cm_bits l D ca α A r_1.2 r_1.1 r_2 hr_2) mwy_bits ⟨rfl, rfl⟩ ⟨Nat.le_of_ble_eq_true rfl, Nat.le_of_ble_eq_true rfl⟩ rfl rfl (Nat.le_of_ble_eq_true rfl) hl.1 dX12_knownMany_8 ⟨rfl, rfl⟩ (fun H locs hM => ?_)
  exact m_ri C hM hr hlk dX12_knownMany_11 h
theorem mwy_knownMany : mCallV RX12 227 yX12_knownMany cX12_knownMany 1 (some .int) 0 := ⟨⟨wl_in (i := 2122) (by decide +kernel), wl_in (i := 2124) (by decide +kernel), wl_inp (i := 40) (by decide +kernel), wl_in (i := 16) (by decide +kernel), wl_in (i := 2125) (by decide +kernel)⟩, rfl, by decide, by decide, by decide +kernel⟩
/-! begin(I)I -/
abbrev rmX12_begin : Room := { frames := 4, cells := 0, slots := 0, locals := 92 }
def fm_begin_50 : Nat → mS → Int32 → Option (Int32 × mS)
  | 0, _, _ => none
  | n + 1, σ, x2 =>
    if (σ.1 16) ≤ x2 then
      (fm_comes (mI σ 2 (0 : Int32)) (0 : Int32) (0 : Int32)).bind fun r_1 =>
      (fm_knownMany (mI r_1 2 (σ.1 2))).bind fun r_2 =>
      some (r_2.1, r_2.2)
    else
      if x2 < 0 ∨ 12 ≤ x2.toNatClampNeg then none else
      if x2 < 0 ∨ 12 ≤ x2.toNatClampNeg then none else
      if x2 < 0 ∨ 12 ≤ x2.toNatClampNeg then none else
      if x2 < 0 ∨ 12 ≤ x2.toNatClampNeg then none else
      if x2 < 0 ∨ 12 ≤ x2.toNatClampNeg then none else
      (fm_begin_50 n) (mA (mA (mA σ 36 x2.toNatClampNeg (σ.2.2.1 11 x2.toNatClampNeg)) 37 x2.toNatClampNeg ((0 : Int32) &&& 1)) 38 x2.toNatClampNeg ((mA (mA σ 36 x2.toNatClampNeg (σ.2.2.1 11 x2.toNatClampNeg)) 37 x2.toNatClampNeg ((0 : Int32) &&& 1)).2.2.1 14 x2.toNatClampNeg)) (x2 + (1 : Int32))
set_option maxHeartbeats 4000000 in
set_option maxRecDepth 100000 in
theorem gm_begin_50 {p : Program} {l : Launch} {e : Env} {s : State} {m : MethodId} {args : Array Value} {below : List Frame} {meth : Method} {c : Code} {D : va_G} {ca : Nat → ClassId} {α : Nat → Nat} {A : Nat → Prop} {o : Int32 × mS} (C : mC p s m args c cX12_begin 3 D ca) (hr : meth.sig.returnType = some .int) (hlk : meth.locks = false) : ∀ (n : Nat) (σ : mS) (x2 : Int32) (H : Heap) (locs : List Loc) (ls : Array Slot), mM D ca α A s.heap σ H locs → lv_has ls 3 [(0, .ref (α 0)), (2, .int x2)] → fm_begin_50 n σ x2 = some o → mGI p l e rmX12_begin s m args below meth c D ca α A o H locs 50 ls [] := by
  have hx := C.1
  have hb := C.2.1
  intro n
  induction n with
  | zero =>
    intro σ x2 H locs ls hM hl h
    cases h
  | succ n ih =>
    intro σ x2 H locs ls hM hl h
    rw [fm_begin_50] at h
    refine lv_iload_n hx hb dX12_begin_50 rfl (lv_at hl 1 rfl) ?_
    refine lv_aload_n hx hb dX12_begin_51 rfl (lv_at hl 0 rfl) ?_
    refine m_geti C hM (k := 16) (Or.inl rfl) rfl dX12_begin_52 ?_
    refine lv_icmp_ge (tgt := 95) hx hb dX12_begin_55 (by decide) (fun c_1 => ?_) (fun c_1 => ?_)
    · have h := br_T c_1 h
      refine lv_aload_n hx hb dX12_begin_95 rfl (lv_at hl 0 rfl) ?_
      refine m_geti C hM (k := 2) (Or.inl rfl) rfl dX12_begin_96 ?_
      refine lv_istore_n (lv' := [(2, .int (σ.1 2)), (0, .ref (α 0))]) hx hb dX12_begin_99 rfl hl (by decide) rfl (fun ls hl => ?_)
      refine lv_aload_n hx hb dX12_begin_100 rfl (lv_at hl 1 rfl) ?_
      refine lv_iconst (v := (0 : Int32)) hx hb dX12_begin_101 (by decide) ?_
      refine m_puti C hM (k := 2) rfl rfl dX12_begin_102 (fun H locs hM => ?_)
      refine lv_aload_n hx hb dX12_begin_105 rfl (lv_at hl 1 rfl) ?_
      refine lv_iconst (v := (0 : Int32)) hx hb dX12_begin_106 (by decide) ?_
      refine lv_iconst (v := (0 : Int32)) hx hb dX12_begin_107 (by decide) ?_
      obtain ⟨r_1, hr_1, h⟩ := bd_of h
      refine m_cVv (As := [.int (0 : Int32), .int (0 : Int32)]) (rest := []) C hM (cm_comes l D ca α A (mI σ 2 (0 : Int32)) (0 : Int32) (0 : Int32) r_1 hr_1) mwy_comes ⟨rfl, rfl⟩ ⟨Nat.le_of_ble_eq_true rfl, Nat.le_of_ble_eq_true rfl⟩ rfl rfl (Nat.le_of_ble_eq_true rfl) hl.1 dX12_begin_108 ⟨rfl, rfl⟩ (fun H locs hM => ?_)
      refine lv_aload_n hx hb dX12_begin_111 rfl (lv_at hl 1 rfl) ?_
      refine lv_iload_n hx hb dX12_begin_112 rfl (lv_at hl 0 rfl) ?_
      refine m_puti C hM (k := 2) rfl rfl dX12_begin_113 (fun H locs hM => ?_)
      refine lv_aload_n hx hb dX12_begin_116 rfl (lv_at hl 1 rfl) ?_
      obtain ⟨r_2, hr_2, h⟩ := bd_of h
      refine m_cVi (As := []) (rest := []) C hM (cm_knownMany l D ca α A (mI r_1 2 (σ.1 2))  r_2 hr_2) mwy_knownMany ⟨rfl, rfl⟩ ⟨Nat.le_of_ble_eq_true rfl, Nat.le_of_ble_eq_true rfl⟩ rfl rfl (Nat.le_of_ble_eq_true rfl) hl.1 dX12_begin_117 ⟨rfl, rfl⟩ (fun H locs hM => ?_)
      exact m_ri C hM hr hlk dX12_begin_120 h
    · have h := br_F c_1 h
      refine lv_aload_n hx hb dX12_begin_58 rfl (lv_at hl 0 rfl) ?_
      refine m_geta C hM (k := 36) (by decide) rfl dX12_begin_59 ?_
      refine lv_iload_n hx hb dX12_begin_62 rfl (lv_at hl 1 rfl) ?_
      refine lv_aload_n hx hb dX12_begin_63 rfl (lv_at hl 0 rfl) ?_
      refine m_geta C hM (k := 11) (by decide) rfl dX12_begin_64 ?_
      refine lv_iload_n hx hb dX12_begin_67 rfl (lv_at hl 1 rfl) ?_
      obtain ⟨c_2, h⟩ := ko_of h
      refine m_iald C hM (k := 11) rfl c_2 dX12_begin_68 ?_
      obtain ⟨c_3, h⟩ := ko_of h
      refine m_iast C hM (k := 36) rfl c_3 dX12_begin_69 (fun H locs hM => ?_)
      refine lv_aload_n hx hb dX12_begin_70 rfl (lv_at hl 0 rfl) ?_
      refine m_geta C hM (k := 37) (by decide) rfl dX12_begin_71 ?_
      refine lv_iload_n hx hb dX12_begin_74 rfl (lv_at hl 1 rfl) ?_
      refine lv_iconst (v := (0 : Int32)) hx hb dX12_begin_75 (by decide) ?_
      obtain ⟨c_4, h⟩ := ko_of h
      refine m_zast C hM (k := 37) rfl c_4 dX12_begin_76 (fun H locs hM => ?_)
      refine lv_aload_n hx hb dX12_begin_77 rfl (lv_at hl 0 rfl) ?_
      refine m_geta C hM (k := 38) (by decide) rfl dX12_begin_78 ?_
      refine lv_iload_n hx hb dX12_begin_81 rfl (lv_at hl 1 rfl) ?_
      refine lv_aload_n hx hb dX12_begin_82 rfl (lv_at hl 0 rfl) ?_
      refine m_geta C hM (k := 14) (by decide) rfl dX12_begin_83 ?_
      refine lv_iload_n hx hb dX12_begin_86 rfl (lv_at hl 1 rfl) ?_
      obtain ⟨c_5, h⟩ := ko_of h
      refine m_iald C hM (k := 14) rfl c_5 dX12_begin_87 ?_
      obtain ⟨c_6, h⟩ := ko_of h
      refine m_iast C hM (k := 38) rfl c_6 dX12_begin_88 (fun H locs hM => ?_)
      refine lv_iinc (v := (x2 + (1 : Int32))) (lv' := [(2, .int (x2 + (1 : Int32))), (0, .ref (α 0))]) hx hb dX12_begin_89 hl (k := 1) rfl rfl (by decide) rfl (fun ls hl => ?_)
      refine lv_goto (tgt := 50) hx hb dX12_begin_92 (by decide) ?_
      exact ih _ _ _ _ _ hM (lv_sub hl [1, 0] rfl) h
def fm_begin_25 (σ : mS) (x1 : Int32) (s0 : Int32) : Option (Int32 × mS) :=
  (fm_isWrong σ s0).bind fun r_1 =>
  if r_1.1 = 0 then
    if ¬ ((1 : Int32) &&& 1 = (1 : Int32)) then none else
    fm_begin_50 3000 (mJ (mI (mI r_1.2 20 (1 : Int32)) 35 x1) 39 (0 : Int64)) (0 : Int32)
  else
    some ((0 : Int32), r_1.2)
set_option maxHeartbeats 4000000 in
set_option maxRecDepth 100000 in
theorem gm_begin_25 {p : Program} {l : Launch} {e : Env} {s : State} {m : MethodId} {args : Array Value} {below : List Frame} {meth : Method} {c : Code} {D : va_G} {ca : Nat → ClassId} {α : Nat → Nat} {A : Nat → Prop} {o : Int32 × mS} (C : mC p s m args c cX12_begin 3 D ca) (hr : meth.sig.returnType = some .int) (hlk : meth.locks = false) : ∀ (σ : mS) (x1 : Int32) (s0 : Int32) (H : Heap) (locs : List Loc) (ls : Array Slot), mM D ca α A s.heap σ H locs → lv_has ls 3 [(0, .ref (α 0)), (1, .int x1)] → fm_begin_25 σ x1 s0 = some o → mGI p l e rmX12_begin s m args below meth c D ca α A o H locs 25 ls [.int s0, .ref (α 0)] := by
  have hx := C.1
  have hb := C.2.1
  intro σ x1 s0 H locs ls hM hl h
  unfold fm_begin_25 at h
  obtain ⟨r_1, hr_1, h⟩ := bd_of h
  refine m_cVi (As := [.int s0]) (rest := []) C hM (cm_isWrong l D ca α A σ s0 r_1 hr_1) mwy_isWrong ⟨rfl, rfl⟩ ⟨Nat.le_of_ble_eq_true rfl, Nat.le_of_ble_eq_true rfl⟩ rfl rfl (Nat.le_of_ble_eq_true rfl) hl.1 dX12_begin_25 ⟨rfl, rfl⟩ (fun H locs hM => ?_)
  refine lv_if_eq (tgt := 33) hx hb dX12_begin_28 (by decide) (fun c_1 => ?_) (fun c_1 => ?_)
  · have h := br_T c_1 h
    refine lv_aload_n hx hb dX12_begin_33 rfl (lv_at hl 0 rfl) ?_
    refine lv_iconst (v := (1 : Int32)) hx hb dX12_begin_34 (by decide) ?_
    obtain ⟨c_2, h⟩ := ko_of h
    refine m_putz C hM (k := 20) rfl (Classical.not_not.mp c_2) rfl dX12_begin_35 (fun H locs hM => ?_)
    refine lv_aload_n hx hb dX12_begin_38 rfl (lv_at hl 0 rfl) ?_
    refine lv_iload_n hx hb dX12_begin_39 rfl (lv_at hl 1 rfl) ?_
    refine m_puti C hM (k := 35) rfl rfl dX12_begin_40 (fun H locs hM => ?_)
    refine lv_aload_n hx hb dX12_begin_43 rfl (lv_at hl 0 rfl) ?_
    refine lv_lconst (v := (0 : Int64)) hx hb dX12_begin_44 (by decide) ?_
    refine m_putl C hM (k := 39) rfl rfl dX12_begin_45 (fun H locs hM => ?_)
    refine lv_iconst (v := (0 : Int32)) hx hb dX12_begin_48 (by decide) ?_
    refine lv_istore_n (lv' := [(2, .int (0 : Int32)), (0, .ref (α 0)), (1, .int x1)]) hx hb dX12_begin_49 rfl hl (by decide) rfl (fun ls hl => ?_)
    exact gm_begin_50 C hr hlk  _ _ _ _ _ _ hM (lv_sub hl [1, 0] rfl) h
  · have h := br_F c_1 h
    refine lv_iconst (v := (0 : Int32)) hx hb dX12_begin_31 (by decide) ?_
    exact m_ri C hM hr hlk dX12_begin_32 h
def fm_begin (σ : mS) (x1 : Int32) : Option (Int32 × mS) :=
  (fm_isRoom σ x1).bind fun r_1 =>
  if r_1.1 = 0 then
    fm_begin_25 r_1.2 x1 (1 : Int32)
  else
    if (r_1.2.1 20) = 0 then
      fm_begin_25 r_1.2 x1 (0 : Int32)
    else
      fm_begin_25 r_1.2 x1 (2 : Int32)
set_option maxHeartbeats 4000000 in
set_option maxRecDepth 100000 in
theorem cm_begin (l : Launch) (D : va_G) (ca : Nat → ClassId) (α : Nat → Nat) (A : Nat → Prop) (σ : mS) (x1 : Int32) (o : Int32 × mS) (h : fm_begin σ x1 = some o) : mMetI l yX12_begin cX12_begin 3 (some .int) rmX12_begin D ca α A σ [.int x1] o := by
  refine Met.ofW (cc := cX12_begin) (maxL := 3) (ret := some .int) (by decide) rfl ?_
  intro p e s m args below meth c s₁ B hml hv
  obtain ⟨rfl, hP, hK, hD0⟩ := hv
  have C : mC p s m _ c cX12_begin 3 D ca := ⟨B.exec, B.bytes, hml, findClass_of_methodNamed B.named, fun w hw => atoms_spec (ws := mWs yX12_begin cX12_begin 3 (some .int)) B.pre w (List.mem_cons_of_mem _ hw), hK⟩
  have hM : mM D ca α A s.heap σ s.heap [] := ⟨hP, hD0, va_S.rf⟩
  have hr := B.returns
  have hlk := B.notSynchronized
  have hx := C.1
  have hb := C.2.1
  have hl := lv_entry ([.ref (α 0), .int x1]) (n := 3) (Nat.le_of_ble_eq_true rfl)
  rw [lg_entry_eq]
  generalize (lg_sl ([.ref (α 0), .int x1]) ++ List.replicate (3 - (lg_sl ([.ref (α 0), .int x1])).length) Slot.unset).toArray = ls at hl ⊢
  have hl : lv_has ls 3 [(0, .ref (α 0)), (1, .int x1)] := hl
  unfold fm_begin at h
  refine lv_aload_n hx hb dX12_begin_0 rfl (lv_at hl 0 rfl) ?_
  refine lv_aload_n hx hb dX12_begin_1 rfl (lv_at hl 0 rfl) ?_
  refine lv_iload_n hx hb dX12_begin_2 rfl (lv_at hl 1 rfl) ?_
  obtain ⟨r_1, hr_1, h⟩ := bd_of h
  refine m_cVi (As := [.int x1]) (rest := [.ref (α 0)]) C hM (cm_isRoom l D ca α A σ x1 r_1 hr_1) mwy_isRoom ⟨rfl, rfl⟩ ⟨Nat.le_of_ble_eq_true rfl, Nat.le_of_ble_eq_true rfl⟩ rfl rfl (Nat.le_of_ble_eq_true rfl) hl.1 dX12_begin_3 ⟨rfl, rfl⟩ (fun H locs hM => ?_)
  refine lv_if_ne (tgt := 13) hx hb dX12_begin_6 (by decide) (fun c_1 => ?_) (fun c_1 => ?_)
  · have h := br_F c_1 h
    refine lv_aload_n hx hb dX12_begin_13 rfl (lv_at hl 0 rfl) ?_
    refine m_geti C hM (k := 20) (Or.inr rfl) rfl dX12_begin_14 ?_
    refine lv_if_eq (tgt := 24) hx hb dX12_begin_17 (by decide) (fun c_2 => ?_) (fun c_2 => ?_)
    · have h := br_T c_2 h
      refine lv_iconst (v := (0 : Int32)) hx hb dX12_begin_24 (by decide) ?_
      exact gm_begin_25 C hr hlk  _ _ _ _ _ _ hM (lv_sub hl [0, 1] rfl) h
    · have h := br_F c_2 h
      refine lv_iconst (v := (2 : Int32)) hx hb dX12_begin_20 (by decide) ?_
      refine lv_goto (tgt := 25) hx hb dX12_begin_21 (by decide) ?_
      exact gm_begin_25 C hr hlk  _ _ _ _ _ _ hM (lv_sub hl [0, 1] rfl) h
  · have h := br_T c_1 h
    refine lv_iconst (v := (1 : Int32)) hx hb dX12_begin_9 (by decide) ?_
    refine lv_goto (tgt := 25) hx hb dX12_begin_10 (by decide) ?_
    exact gm_begin_25 C hr hlk  _ _ _ _ _ _ hM (lv_sub hl [0, 1] rfl) h
/-! parts()V -/
abbrev rmX12_parts : Room := { frames := 0, cells := 0, slots := 0, locals := 0 }
def fm_parts_73 (k_9 : mS → Int32 → Int32 → Option (mS)) (σ : mS) (x1 : Int32) (x2 : Int32) : Option (mS) :=
  k_9 σ x1 (x2 + (1 : Int32))
set_option maxHeartbeats 4000000 in
set_option maxRecDepth 100000 in
theorem gm_parts_73 {p : Program} {l : Launch} {e : Env} {s : State} {m : MethodId} {args : Array Value} {below : List Frame} {meth : Method} {c : Code} {D : va_G} {ca : Nat → ClassId} {α : Nat → Nat} {A : Nat → Prop} {o : mS} {k_9 : mS → Int32 → Int32 → Option (mS)} (C : mC p s m args c cX12_parts 3 D ca) (hr : meth.sig.returnType = none) (hlk : meth.locks = false) (hk_9 : ∀ (σ : mS) (x1 : Int32) (x2 : Int32) (H : Heap) (locs : List Loc) (ls : Array Slot), mM D ca α A s.heap σ H locs → lv_has ls 3 [(0, .ref (α 0)), (1, .int x1), (2, .int x2)] → k_9 σ x1 x2 = some o → mGV p l e rmX12_parts s m args below meth c D ca α A o H locs 9 ls []) : ∀ (σ : mS) (x1 : Int32) (x2 : Int32) (H : Heap) (locs : List Loc) (ls : Array Slot), mM D ca α A s.heap σ H locs → lv_has ls 3 [(0, .ref (α 0)), (1, .int x1), (2, .int x2)] → fm_parts_73 k_9 σ x1 x2 = some o → mGV p l e rmX12_parts s m args below meth c D ca α A o H locs 73 ls [] := by
  have hx := C.1
  have hb := C.2.1
  intro σ x1 x2 H locs ls hM hl h
  unfold fm_parts_73 at h
  refine lv_iinc (v := (x2 + (1 : Int32))) (lv' := [(2, .int (x2 + (1 : Int32))), (0, .ref (α 0)), (1, .int x1)]) hx hb dX12_parts_73 hl (k := 2) rfl rfl (by decide) rfl (fun ls hl => ?_)
  refine lv_goto (tgt := 9) hx hb dX12_parts_76 (by decide) ?_
  exact hk_9 _ _ _ _ _ _ hM (lv_sub hl [1, 2, 0] rfl) h
def fm_parts_39 (k_9 : mS → Int32 → Int32 → Option (mS)) (σ : mS) (x1 : Int32) (x2 : Int32) : Option (mS) :=
  if (σ.1 42) < 0 ∨ 31 ≤ (σ.1 42).toNatClampNeg then none else
  if ((mA σ 40 (σ.1 42).toNatClampNeg x1).1 42) < 0 ∨ 31 ≤ ((mA σ 40 (σ.1 42).toNatClampNeg x1).1 42).toNatClampNeg then none else
  fm_parts_73 k_9 (mI (mA (mA σ 40 (σ.1 42).toNatClampNeg x1) 41 ((mA σ 40 (σ.1 42).toNatClampNeg x1).1 42).toNatClampNeg x2) 42 (((mA (mA σ 40 (σ.1 42).toNatClampNeg x1) 41 ((mA σ 40 (σ.1 42).toNatClampNeg x1).1 42).toNatClampNeg x2).1 42) + (1 : Int32))) (x2 + (1 : Int32)) x2
set_option maxHeartbeats 4000000 in
set_option maxRecDepth 100000 in
theorem gm_parts_39 {p : Program} {l : Launch} {e : Env} {s : State} {m : MethodId} {args : Array Value} {below : List Frame} {meth : Method} {c : Code} {D : va_G} {ca : Nat → ClassId} {α : Nat → Nat} {A : Nat → Prop} {o : mS} {k_9 : mS → Int32 → Int32 → Option (mS)} (C : mC p s m args c cX12_parts 3 D ca) (hr : meth.sig.returnType = none) (hlk : meth.locks = false) (hk_9 : ∀ (σ : mS) (x1 : Int32) (x2 : Int32) (H : Heap) (locs : List Loc) (ls : Array Slot), mM D ca α A s.heap σ H locs → lv_has ls 3 [(0, .ref (α 0)), (1, .int x1), (2, .int x2)] → k_9 σ x1 x2 = some o → mGV p l e rmX12_parts s m args below meth c D ca α A o H locs 9 ls []) : ∀ (σ : mS) (x1 : Int32) (x2 : Int32) (H : Heap) (locs : List Loc) (ls : Array Slot), mM D ca α A s.heap σ H locs → lv_has ls 3 [(0, .ref (α 0)), (1, .int x1), (2, .int x2)] → fm_parts_39 k_9 σ x1 x2 = some o → mGV p l e rmX12_parts s m args below meth c D ca α A o H locs 39 ls [] := by
  have hx := C.1
  have hb := C.2.1
  intro σ x1 x2 H locs ls hM hl h
  unfold fm_parts_39 at h
  refine lv_aload_n hx hb dX12_parts_39 rfl (lv_at hl 0 rfl) ?_
  refine m_geta C hM (k := 40) (by decide) rfl dX12_parts_40 ?_
  refine lv_aload_n hx hb dX12_parts_43 rfl (lv_at hl 0 rfl) ?_
  refine m_geti C hM (k := 42) (Or.inl rfl) rfl dX12_parts_44 ?_
  refine lv_iload_n hx hb dX12_parts_47 rfl (lv_at hl 1 rfl) ?_
  obtain ⟨c_1, h⟩ := ko_of h
  refine m_iast C hM (k := 40) rfl c_1 dX12_parts_48 (fun H locs hM => ?_)
  refine lv_aload_n hx hb dX12_parts_49 rfl (lv_at hl 0 rfl) ?_
  refine m_geta C hM (k := 41) (by decide) rfl dX12_parts_50 ?_
  refine lv_aload_n hx hb dX12_parts_53 rfl (lv_at hl 0 rfl) ?_
  refine m_geti C hM (k := 42) (Or.inl rfl) rfl dX12_parts_54 ?_
  refine lv_iload_n hx hb dX12_parts_57 rfl (lv_at hl 2 rfl) ?_
  obtain ⟨c_2, h⟩ := ko_of h
  refine m_iast C hM (k := 41) rfl c_2 dX12_parts_58 (fun H locs hM => ?_)
  refine lv_aload_n hx hb dX12_parts_59 rfl (lv_at hl 0 rfl) ?_
  refine lv_dup hx hb dX12_parts_60 rfl ?_
  refine m_geti C hM (k := 42) (Or.inl rfl) rfl dX12_parts_61 ?_
  refine lv_iconst (v := (1 : Int32)) hx hb dX12_parts_64 (by decide) ?_
  refine lv_iadd hx hb dX12_parts_65 ?_
  refine m_puti C hM (k := 42) rfl rfl dX12_parts_66 (fun H locs hM => ?_)
  refine lv_iload_n hx hb dX12_parts_69 rfl (lv_at hl 2 rfl) ?_
  refine lv_iconst (v := (1 : Int32)) hx hb dX12_parts_70 (by decide) ?_
  refine lv_iadd hx hb dX12_parts_71 ?_
  refine lv_istore_n (lv' := [(1, .int (x2 + (1 : Int32))), (0, .ref (α 0)), (2, .int x2)]) hx hb dX12_parts_72 rfl hl (by decide) rfl (fun ls hl => ?_)
  exact gm_parts_73 C hr hlk hk_9 _ _ _ _ _ _ hM (lv_sub hl [1, 0, 2] rfl) h
def fm_parts_9 : Nat → mS → Int32 → Int32 → Option (mS)
  | 0, _, _, _ => none
  | n + 1, σ, x1, x2 =>
    if (σ.1 2) < x2 then
      some σ
    else
      if (σ.1 2) ≤ x2 then
        fm_parts_39 (fm_parts_9 n) σ x1 x2
      else
        if x2 < 0 ∨ 30 ≤ x2.toNatClampNeg then none else
        if (σ.2.2.1 1 x2.toNatClampNeg) = (32 : Int32) then
          fm_parts_39 (fm_parts_9 n) σ x1 x2
        else
          fm_parts_73 (fm_parts_9 n) σ x1 x2
set_option maxHeartbeats 4000000 in
set_option maxRecDepth 100000 in
theorem gm_parts_9 {p : Program} {l : Launch} {e : Env} {s : State} {m : MethodId} {args : Array Value} {below : List Frame} {meth : Method} {c : Code} {D : va_G} {ca : Nat → ClassId} {α : Nat → Nat} {A : Nat → Prop} {o : mS} (C : mC p s m args c cX12_parts 3 D ca) (hr : meth.sig.returnType = none) (hlk : meth.locks = false) : ∀ (n : Nat) (σ : mS) (x1 : Int32) (x2 : Int32) (H : Heap) (locs : List Loc) (ls : Array Slot), mM D ca α A s.heap σ H locs → lv_has ls 3 [(0, .ref (α 0)), (1, .int x1), (2, .int x2)] → fm_parts_9 n σ x1 x2 = some o → mGV p l e rmX12_parts s m args below meth c D ca α A o H locs 9 ls [] := by
  have hx := C.1
  have hb := C.2.1
  intro n
  induction n with
  | zero =>
    intro σ x1 x2 H locs ls hM hl h
    cases h
  | succ n ih =>
    intro σ x1 x2 H locs ls hM hl h
    rw [fm_parts_9] at h
    refine lv_iload_n hx hb dX12_parts_9 rfl (lv_at hl 2 rfl) ?_
    refine lv_aload_n hx hb dX12_parts_10 rfl (lv_at hl 0 rfl) ?_
    refine m_geti C hM (k := 2) (Or.inl rfl) rfl dX12_parts_11 ?_
    refine lv_icmp_gt (tgt := 79) hx hb dX12_parts_14 (by decide) (fun c_1 => ?_) (fun c_1 => ?_)
    · have h := br_T c_1 h
      exact m_rv C hM hr hlk dX12_parts_79 h
    · have h := br_F c_1 h
      refine lv_iload_n hx hb dX12_parts_17 rfl (lv_at hl 2 rfl) ?_
      refine lv_aload_n hx hb dX12_parts_18 rfl (lv_at hl 0 rfl) ?_
      refine m_geti C hM (k := 2) (Or.inl rfl) rfl dX12_parts_19 ?_
      refine lv_icmp_ge (tgt := 39) hx hb dX12_parts_22 (by decide) (fun c_2 => ?_) (fun c_2 => ?_)
      · have h := br_T c_2 h
        exact gm_parts_39 C hr hlk ih _ _ _ _ _ _ hM (lv_sub hl [0, 1, 2] rfl) h
      · have h := br_F c_2 h
        refine lv_aload_n hx hb dX12_parts_25 rfl (lv_at hl 0 rfl) ?_
        refine m_geta C hM (k := 1) (by decide) rfl dX12_parts_26 ?_
        refine lv_iload_n hx hb dX12_parts_29 rfl (lv_at hl 2 rfl) ?_
        obtain ⟨c_3, h⟩ := ko_of h
        refine m_iald C hM (k := 1) rfl c_3 dX12_parts_30 ?_
        refine lv_bipush (v := (32 : Int32)) hx hb dX12_parts_31 (by decide) ?_
        refine lv_icmp_eq (tgt := 39) hx hb dX12_parts_33 (by decide) (fun c_4 => ?_) (fun c_4 => ?_)
        · have h := br_T c_4 h
          exact gm_parts_39 C hr hlk ih _ _ _ _ _ _ hM (lv_sub hl [0, 1, 2] rfl) h
        · have h := br_F c_4 h
          refine lv_goto (tgt := 73) hx hb dX12_parts_36 (by decide) ?_
          exact gm_parts_73 C hr hlk ih _ _ _ _ _ _ hM (lv_sub hl [0, 1, 2] rfl) h
def fm_parts (σ : mS) : Option (mS) :=
  fm_parts_9 3000 (mI σ 42 (0 : Int32)) (0 : Int32) (0 : Int32)
set_option maxHeartbeats 4000000 in
set_option maxRecDepth 100000 in
theorem cm_parts (l : Launch) (D : va_G) (ca : Nat → ClassId) (α : Nat → Nat) (A : Nat → Prop) (σ : mS) (o : mS) (h : fm_parts σ  = some o) : mMetV l yX12_parts cX12_parts 3 (none) rmX12_parts D ca α A σ [] o := by
  refine Met.ofW (cc := cX12_parts) (maxL := 3) (ret := none) (by decide) rfl ?_
  intro p e s m args below meth c s₁ B hml hv
  obtain ⟨rfl, hP, hK, hD0⟩ := hv
  have C : mC p s m _ c cX12_parts 3 D ca := ⟨B.exec, B.bytes, hml, findClass_of_methodNamed B.named, fun w hw => atoms_spec (ws := mWs yX12_parts cX12_parts 3 (none)) B.pre w (List.mem_cons_of_mem _ hw), hK⟩
  have hM : mM D ca α A s.heap σ s.heap [] := ⟨hP, hD0, va_S.rf⟩
  have hr := B.returns
  have hlk := B.notSynchronized
  have hx := C.1
  have hb := C.2.1
  have hl := lv_entry ([.ref (α 0)]) (n := 3) (Nat.le_of_ble_eq_true rfl)
  rw [lg_entry_eq]
  generalize (lg_sl ([.ref (α 0)]) ++ List.replicate (3 - (lg_sl ([.ref (α 0)])).length) Slot.unset).toArray = ls at hl ⊢
  have hl : lv_has ls 3 [(0, .ref (α 0))] := hl
  unfold fm_parts at h
  refine lv_aload_n hx hb dX12_parts_0 rfl (lv_at hl 0 rfl) ?_
  refine lv_iconst (v := (0 : Int32)) hx hb dX12_parts_1 (by decide) ?_
  refine m_puti C hM (k := 42) rfl rfl dX12_parts_2 (fun H locs hM => ?_)
  refine lv_iconst (v := (0 : Int32)) hx hb dX12_parts_5 (by decide) ?_
  refine lv_istore_n (lv' := [(1, .int (0 : Int32)), (0, .ref (α 0))]) hx hb dX12_parts_6 rfl hl (by decide) rfl (fun ls hl => ?_)
  refine lv_iconst (v := (0 : Int32)) hx hb dX12_parts_7 (by decide) ?_
  refine lv_istore_n (lv' := [(2, .int (0 : Int32)), (1, .int (0 : Int32)), (0, .ref (α 0))]) hx hb dX12_parts_8 rfl hl (by decide) rfl (fun ls hl => ?_)
  exact gm_parts_9 C hr hlk  _ _ _ _ _ _ _ hM (lv_sub hl [2, 1, 0] rfl) h
theorem mwy_parts : mCallV RX12 246 yX12_parts cX12_parts 3 (none) 0 := ⟨⟨wl_in (i := 2138) (by decide +kernel), wl_in (i := 2140) (by decide +kernel), wl_inp (i := 43) (by decide +kernel), wl_in (i := 16) (by decide +kernel), wl_in (i := 2141) (by decide +kernel)⟩, rfl, by decide, by decide, by decide +kernel⟩
