/-! The reference's methods: what each makes of the state (fm_..), as the bytecode has it; and that it does (cm_..). -/

/-! canDo(III)Z -/
abbrev rmX12_canDo : Room := { frames := 3, cells := 0, slots := 0, locals := 65 }
def fm_canDo_77 (σ : mS) : Option (Int32 × mS) :=
  if (0 : Int32) &&& 1 = (0 : Int32) then some ((0 : Int32), σ) else none
set_option maxHeartbeats 4000000 in
set_option maxRecDepth 100000 in
theorem gm_canDo_77 {p : Program} {l : Launch} {e : Env} {s : State} {m : MethodId} {args : Array Value} {below : List Frame} {meth : Method} {c : Code} {D : va_G} {ca : Nat → ClassId} {α : Nat → Nat} {A : Nat → Prop} {o : Int32 × mS} (C : mC p s m args c cX12_canDo 5 D ca) (hr : meth.sig.returnType = some .boolean) (hlk : meth.locks = false) : ∀ (σ : mS) (H : Heap) (locs : List Loc) (ls : Array Slot), mM D ca α A s.heap σ H locs → lv_has ls 5 [(0, .ref (α 0))] → fm_canDo_77 σ = some o → mGI p l e rmX12_canDo s m args below meth c D ca α A o H locs 77 ls [] := by
  have hx := C.1
  have hb := C.2.1
  intro σ H locs ls hM hl h
  unfold fm_canDo_77 at h
  refine lv_iconst (v := (0 : Int32)) hx hb dX12_canDo_77 (by decide) ?_
  exact m_rz C hM hr hlk dX12_canDo_78 h
def fm_canDo_123 (σ : mS) : Option (Int32 × mS) :=
  if (0 : Int32) &&& 1 = (0 : Int32) then some ((0 : Int32), σ) else none
set_option maxHeartbeats 4000000 in
set_option maxRecDepth 100000 in
theorem gm_canDo_123 {p : Program} {l : Launch} {e : Env} {s : State} {m : MethodId} {args : Array Value} {below : List Frame} {meth : Method} {c : Code} {D : va_G} {ca : Nat → ClassId} {α : Nat → Nat} {A : Nat → Prop} {o : Int32 × mS} (C : mC p s m args c cX12_canDo 5 D ca) (hr : meth.sig.returnType = some .boolean) (hlk : meth.locks = false) : ∀ (σ : mS) (H : Heap) (locs : List Loc) (ls : Array Slot), mM D ca α A s.heap σ H locs → lv_has ls 5 [(0, .ref (α 0))] → fm_canDo_123 σ = some o → mGI p l e rmX12_canDo s m args below meth c D ca α A o H locs 123 ls [] := by
  have hx := C.1
  have hb := C.2.1
  intro σ H locs ls hM hl h
  unfold fm_canDo_123 at h
  refine lv_iconst (v := (0 : Int32)) hx hb dX12_canDo_123 (by decide) ?_
  exact m_rz C hM hr hlk dX12_canDo_124 h
def fm_canDo_234 (σ : mS) : Option (Int32 × mS) :=
  if (0 : Int32) &&& 1 = (0 : Int32) then some ((0 : Int32), σ) else none
set_option maxHeartbeats 4000000 in
set_option maxRecDepth 100000 in
theorem gm_canDo_234 {p : Program} {l : Launch} {e : Env} {s : State} {m : MethodId} {args : Array Value} {below : List Frame} {meth : Method} {c : Code} {D : va_G} {ca : Nat → ClassId} {α : Nat → Nat} {A : Nat → Prop} {o : Int32 × mS} (C : mC p s m args c cX12_canDo 5 D ca) (hr : meth.sig.returnType = some .boolean) (hlk : meth.locks = false) : ∀ (σ : mS) (H : Heap) (locs : List Loc) (ls : Array Slot), mM D ca α A s.heap σ H locs → lv_has ls 5 [(0, .ref (α 0))] → fm_canDo_234 σ = some o → mGI p l e rmX12_canDo s m args below meth c D ca α A o H locs 234 ls [] := by
  have hx := C.1
  have hb := C.2.1
  intro σ H locs ls hM hl h
  unfold fm_canDo_234 at h
  refine lv_iconst (v := (0 : Int32)) hx hb dX12_canDo_234 (by decide) ?_
  exact m_rz C hM hr hlk dX12_canDo_235 h
def fm_canDo_315 (σ : mS) : Option (Int32 × mS) :=
  if (0 : Int32) &&& 1 = (0 : Int32) then some ((0 : Int32), σ) else none
set_option maxHeartbeats 4000000 in
set_option maxRecDepth 100000 in
theorem gm_canDo_315 {p : Program} {l : Launch} {e : Env} {s : State} {m : MethodId} {args : Array Value} {below : List Frame} {meth : Method} {c : Code} {D : va_G} {ca : Nat → ClassId} {α : Nat → Nat} {A : Nat → Prop} {o : Int32 × mS} (C : mC p s m args c cX12_canDo 5 D ca) (hr : meth.sig.returnType = some .boolean) (hlk : meth.locks = false) : ∀ (σ : mS) (H : Heap) (locs : List Loc) (ls : Array Slot), mM D ca α A s.heap σ H locs → lv_has ls 5 [(0, .ref (α 0))] → fm_canDo_315 σ = some o → mGI p l e rmX12_canDo s m args below meth c D ca α A o H locs 315 ls [] := by
  have hx := C.1
  have hb := C.2.1
  intro σ H locs ls hM hl h
  unfold fm_canDo_315 at h
  refine lv_iconst (v := (0 : Int32)) hx hb dX12_canDo_315 (by decide) ?_
  exact m_rz C hM hr hlk dX12_canDo_316 h
def fm_canDo_317 (σ : mS) (x2 : Int32) (x4 : Int32) : Option (Int32 × mS) :=
  if x2 < 0 ∨ 12 ≤ x2.toNatClampNeg then none else
  if (1 : Int32) &&& 1 = (1 : Int32) then some ((1 : Int32), (mA σ 37 x2.toNatClampNeg (x4 &&& 1))) else none
set_option maxHeartbeats 4000000 in
set_option maxRecDepth 100000 in
theorem gm_canDo_317 {p : Program} {l : Launch} {e : Env} {s : State} {m : MethodId} {args : Array Value} {below : List Frame} {meth : Method} {c : Code} {D : va_G} {ca : Nat → ClassId} {α : Nat → Nat} {A : Nat → Prop} {o : Int32 × mS} (C : mC p s m args c cX12_canDo 5 D ca) (hr : meth.sig.returnType = some .boolean) (hlk : meth.locks = false) : ∀ (σ : mS) (x2 : Int32) (x4 : Int32) (H : Heap) (locs : List Loc) (ls : Array Slot), mM D ca α A s.heap σ H locs → lv_has ls 5 [(0, .ref (α 0)), (2, .int x2), (4, .int x4)] → fm_canDo_317 σ x2 x4 = some o → mGI p l e rmX12_canDo s m args below meth c D ca α A o H locs 317 ls [] := by
  have hx := C.1
  have hb := C.2.1
  intro σ x2 x4 H locs ls hM hl h
  unfold fm_canDo_317 at h
  refine lv_aload_n hx hb dX12_canDo_317 rfl (lv_at hl 0 rfl) ?_
  refine m_geta C hM (k := 37) (by decide) rfl dX12_canDo_318 ?_
  refine lv_iload_n hx hb dX12_canDo_321 rfl (lv_at hl 1 rfl) ?_
  refine lv_iload hx hb dX12_canDo_322 (lv_at hl 2 rfl) ?_
  obtain ⟨c_1, h⟩ := ko_of h
  refine m_zast C hM (k := 37) rfl c_1 dX12_canDo_324 (fun H locs hM => ?_)
  refine lv_iconst (v := (1 : Int32)) hx hb dX12_canDo_325 (by decide) ?_
  exact m_rz C hM hr hlk dX12_canDo_326 h
def fm_canDo_286 (σ : mS) (x1 : Int32) (x2 : Int32) (x4 : Int32) (s0 : Int32) (s1 : Int32) : Option (Int32 × mS) :=
  if s1 = s0 then
    if x2 < 0 ∨ 12 ≤ x2.toNatClampNeg then none else
    if (σ.2.2.1 37 x2.toNatClampNeg) = x4 then
      fm_canDo_315 σ
    else
      if x1 = (6 : Int32) then
        if x2 < 0 ∨ 12 ≤ x2.toNatClampNeg then none else
        if (σ.2.2.1 38 x2.toNatClampNeg) = 0 then
          fm_canDo_315 σ
        else
          fm_canDo_317 σ x2 x4
      else
        fm_canDo_317 σ x2 x4
  else
    fm_canDo_315 σ
set_option maxHeartbeats 4000000 in
set_option maxRecDepth 100000 in
theorem gm_canDo_286 {p : Program} {l : Launch} {e : Env} {s : State} {m : MethodId} {args : Array Value} {below : List Frame} {meth : Method} {c : Code} {D : va_G} {ca : Nat → ClassId} {α : Nat → Nat} {A : Nat → Prop} {o : Int32 × mS} (C : mC p s m args c cX12_canDo 5 D ca) (hr : meth.sig.returnType = some .boolean) (hlk : meth.locks = false) : ∀ (σ : mS) (x1 : Int32) (x2 : Int32) (x4 : Int32) (s0 : Int32) (s1 : Int32) (H : Heap) (locs : List Loc) (ls : Array Slot), mM D ca α A s.heap σ H locs → lv_has ls 5 [(0, .ref (α 0)), (1, .int x1), (2, .int x2), (4, .int x4)] → fm_canDo_286 σ x1 x2 x4 s0 s1 = some o → mGI p l e rmX12_canDo s m args below meth c D ca α A o H locs 286 ls [.int s0, .int s1] := by
  have hx := C.1
  have hb := C.2.1
  intro σ x1 x2 x4 s0 s1 H locs ls hM hl h
  unfold fm_canDo_286 at h
  refine lv_icmp_ne (tgt := 315) hx hb dX12_canDo_286 (by decide) (fun c_1 => ?_) (fun c_1 => ?_)
  · have h := br_F c_1 h
    exact gm_canDo_315 C hr hlk  _ _ _ _ hM (lv_sub hl [0] rfl) h
  · have h := br_T c_1 h
    refine lv_aload_n hx hb dX12_canDo_289 rfl (lv_at hl 0 rfl) ?_
    refine m_geta C hM (k := 37) (by decide) rfl dX12_canDo_290 ?_
    refine lv_iload_n hx hb dX12_canDo_293 rfl (lv_at hl 2 rfl) ?_
    obtain ⟨c_2, h⟩ := ko_of h
    refine m_zald C hM (k := 37) rfl c_2 dX12_canDo_294 ?_
    refine lv_iload hx hb dX12_canDo_295 (lv_at hl 3 rfl) ?_
    refine lv_icmp_eq (tgt := 315) hx hb dX12_canDo_297 (by decide) (fun c_3 => ?_) (fun c_3 => ?_)
    · have h := br_T c_3 h
      exact gm_canDo_315 C hr hlk  _ _ _ _ hM (lv_sub hl [0] rfl) h
    · have h := br_F c_3 h
      refine lv_iload_n hx hb dX12_canDo_300 rfl (lv_at hl 1 rfl) ?_
      refine lv_bipush (v := (6 : Int32)) hx hb dX12_canDo_301 (by decide) ?_
      refine lv_icmp_ne (tgt := 317) hx hb dX12_canDo_303 (by decide) (fun c_4 => ?_) (fun c_4 => ?_)
      · have h := br_F c_4 h
        exact gm_canDo_317 C hr hlk  _ _ _ _ _ _ hM (lv_sub hl [0, 2, 3] rfl) h
      · have h := br_T c_4 h
        refine lv_aload_n hx hb dX12_canDo_306 rfl (lv_at hl 0 rfl) ?_
        refine m_geta C hM (k := 38) (by decide) rfl dX12_canDo_307 ?_
        refine lv_iload_n hx hb dX12_canDo_310 rfl (lv_at hl 2 rfl) ?_
        obtain ⟨c_5, h⟩ := ko_of h
        refine m_iald C hM (k := 38) rfl c_5 dX12_canDo_311 ?_
        refine lv_if_ne (tgt := 317) hx hb dX12_canDo_312 (by decide) (fun c_6 => ?_) (fun c_6 => ?_)
        · have h := br_F c_6 h
          exact gm_canDo_317 C hr hlk  _ _ _ _ _ _ hM (lv_sub hl [0, 2, 3] rfl) h
        · have h := br_T c_6 h
          exact gm_canDo_315 C hr hlk  _ _ _ _ hM (lv_sub hl [0] rfl) h
def fm_canDo_265 (σ : mS) (x1 : Int32) (x2 : Int32) (s0 : Int32) : Option (Int32 × mS) :=
  if x2 < 0 ∨ 12 ≤ x2.toNatClampNeg then none else
  if (6 : Int32) ≤ x1 then
    fm_canDo_286 σ x1 x2 s0 (108 : Int32) (σ.2.2.1 13 x2.toNatClampNeg)
  else
    fm_canDo_286 σ x1 x2 s0 (98 : Int32) (σ.2.2.1 13 x2.toNatClampNeg)
set_option maxHeartbeats 4000000 in
set_option maxRecDepth 100000 in
theorem gm_canDo_265 {p : Program} {l : Launch} {e : Env} {s : State} {m : MethodId} {args : Array Value} {below : List Frame} {meth : Method} {c : Code} {D : va_G} {ca : Nat → ClassId} {α : Nat → Nat} {A : Nat → Prop} {o : Int32 × mS} (C : mC p s m args c cX12_canDo 5 D ca) (hr : meth.sig.returnType = some .boolean) (hlk : meth.locks = false) : ∀ (σ : mS) (x1 : Int32) (x2 : Int32) (s0 : Int32) (H : Heap) (locs : List Loc) (ls : Array Slot), mM D ca α A s.heap σ H locs → lv_has ls 5 [(0, .ref (α 0)), (1, .int x1), (2, .int x2)] → fm_canDo_265 σ x1 x2 s0 = some o → mGI p l e rmX12_canDo s m args below meth c D ca α A o H locs 265 ls [.int s0] := by
  have hx := C.1
  have hb := C.2.1
  intro σ x1 x2 s0 H locs ls hM hl h
  unfold fm_canDo_265 at h
  refine lv_istore (lv' := [(4, .int s0), (0, .ref (α 0)), (1, .int x1), (2, .int x2)]) hx hb dX12_canDo_265 hl (by decide) rfl (fun ls hl => ?_)
  refine lv_aload_n hx hb dX12_canDo_267 rfl (lv_at hl 1 rfl) ?_
  refine m_geta C hM (k := 13) (by decide) rfl dX12_canDo_268 ?_
  refine lv_iload_n hx hb dX12_canDo_271 rfl (lv_at hl 3 rfl) ?_
  obtain ⟨c_1, h⟩ := ko_of h
  refine m_cald C hM (k := 13) rfl c_1 dX12_canDo_272 ?_
  refine lv_iload_n hx hb dX12_canDo_273 rfl (lv_at hl 2 rfl) ?_
  refine lv_bipush (v := (6 : Int32)) hx hb dX12_canDo_274 (by decide) ?_
  refine lv_icmp_ge (tgt := 284) hx hb dX12_canDo_276 (by decide) (fun c_2 => ?_) (fun c_2 => ?_)
  · have h := br_T c_2 h
    refine lv_bipush (v := (108 : Int32)) hx hb dX12_canDo_284 (by decide) ?_
    exact gm_canDo_286 C hr hlk  _ _ _ _ _ _ _ _ _ hM (lv_sub hl [1, 2, 3, 0] rfl) h
  · have h := br_F c_2 h
    refine lv_bipush (v := (98 : Int32)) hx hb dX12_canDo_279 (by decide) ?_
    refine lv_goto (tgt := 286) hx hb dX12_canDo_281 (by decide) ?_
    exact gm_canDo_286 C hr hlk  _ _ _ _ _ _ _ _ _ hM (lv_sub hl [1, 2, 3, 0] rfl) h
def fm_canDo_260 (σ : mS) (x1 : Int32) (x2 : Int32) : Option (Int32 × mS) :=
  fm_canDo_265 σ x1 x2 (1 : Int32)
set_option maxHeartbeats 4000000 in
set_option maxRecDepth 100000 in
theorem gm_canDo_260 {p : Program} {l : Launch} {e : Env} {s : State} {m : MethodId} {args : Array Value} {below : List Frame} {meth : Method} {c : Code} {D : va_G} {ca : Nat → ClassId} {α : Nat → Nat} {A : Nat → Prop} {o : Int32 × mS} (C : mC p s m args c cX12_canDo 5 D ca) (hr : meth.sig.returnType = some .boolean) (hlk : meth.locks = false) : ∀ (σ : mS) (x1 : Int32) (x2 : Int32) (H : Heap) (locs : List Loc) (ls : Array Slot), mM D ca α A s.heap σ H locs → lv_has ls 5 [(0, .ref (α 0)), (1, .int x1), (2, .int x2)] → fm_canDo_260 σ x1 x2 = some o → mGI p l e rmX12_canDo s m args below meth c D ca α A o H locs 260 ls [] := by
  have hx := C.1
  have hb := C.2.1
  intro σ x1 x2 H locs ls hM hl h
  unfold fm_canDo_260 at h
  refine lv_iconst (v := (1 : Int32)) hx hb dX12_canDo_260 (by decide) ?_
  refine lv_goto (tgt := 265) hx hb dX12_canDo_261 (by decide) ?_
  exact gm_canDo_265 C hr hlk  _ _ _ _ _ _ _ hM (lv_sub hl [0, 1, 2] rfl) h
def fm_canDo (σ : mS) (x1 : Int32) (x2 : Int32) (x3 : Int32) : Option (Int32 × mS) :=
  if x1 = (1 : Int32) then
    if (1 : Int32) < 0 ∨ 31 ≤ (1 : Int32).toNatClampNeg then none else
    if (σ.2.2.1 40 (1 : Int32).toNatClampNeg) < 0 ∨ 30 ≤ (σ.2.2.1 40 (1 : Int32).toNatClampNeg).toNatClampNeg then none else
    (fm_directionOf (σ.2.2.1 1 (σ.2.2.1 40 (1 : Int32).toNatClampNeg).toNatClampNeg)).bind fun r_5 =>
    (fm_isFree σ (σ.1 35) r_5).bind fun r_6 =>
    if r_6.1 = 0 then
      if (0 : Int32) &&& 1 = (0 : Int32) then some ((0 : Int32), r_6.2) else none
    else
      if (((6 : Int32) * (r_6.2.1 35)) + r_5) < 0 ∨ 72 ≤ (((6 : Int32) * (r_6.2.1 35)) + r_5).toNatClampNeg then none else
      if (1 : Int32) &&& 1 = (1 : Int32) then some ((1 : Int32), (mI r_6.2 35 (r_6.2.2.2.1 7 (((6 : Int32) * (r_6.2.1 35)) + r_5).toNatClampNeg))) else none
  else
    if x1 < (10 : Int32) then
      if x2 < 0 then
        fm_canDo_77 σ
      else
        (fm_canReach σ x2).bind fun r_1 =>
        if r_1.1 = 0 then
          fm_canDo_77 r_1.2
        else
          if x1 = (8 : Int32) then
            if x2 < 0 ∨ 12 ≤ x2.toNatClampNeg then none else
            if (1 : Int32) &&& 1 = (1 : Int32) then some ((1 : Int32), (mJ r_1.2 39 (r_1.2.2.2.2 15 x2.toNatClampNeg))) else none
          else
            if x1 = (2 : Int32) then
              if x2 < 0 ∨ 12 ≤ x2.toNatClampNeg then none else
              if (r_1.2.2.2.1 36 x2.toNatClampNeg) = (100 : Int32) then
                fm_canDo_123 r_1.2
              else
                (fm_weightWith r_1.2 x2).bind fun r_4 =>
                if r_4.1 ≤ (12 : Int32) then
                  if x2 < 0 ∨ 12 ≤ x2.toNatClampNeg then none else
                  if (1 : Int32) &&& 1 = (1 : Int32) then some ((1 : Int32), (mA r_4.2 36 x2.toNatClampNeg (100 : Int32))) else none
                else
                  fm_canDo_123 r_4.2
            else
              if x1 = (3 : Int32) then
                if x2 < 0 ∨ 12 ≤ x2.toNatClampNeg then none else
                if (r_1.2.2.2.1 36 x2.toNatClampNeg) = (100 : Int32) then
                  if x2 < 0 ∨ 12 ≤ x2.toNatClampNeg then none else
                  if (1 : Int32) &&& 1 = (1 : Int32) then some ((1 : Int32), (mA r_1.2 36 x2.toNatClampNeg (r_1.2.1 35))) else none
                else
                  if (0 : Int32) &&& 1 = (0 : Int32) then some ((0 : Int32), r_1.2) else none
              else
                if x1 = (9 : Int32) then
                  if x3 < 0 then
                    fm_canDo_234 r_1.2
                  else
                    (fm_canReach r_1.2 x3).bind fun r_2 =>
                    if r_2.1 = 0 then
                      fm_canDo_234 r_2.2
                    else
                      if x2 < 0 ∨ 12 ≤ x2.toNatClampNeg then none else
                      if (r_2.2.2.2.1 36 x2.toNatClampNeg) = (100 : Int32) then
                        if x2 < 0 ∨ 12 ≤ x2.toNatClampNeg then none else
                        if (r_2.2.2.2.1 13 x2.toNatClampNeg) = (98 : Int32) then
                          fm_canDo_234 r_2.2
                        else
                          if x3 < 0 ∨ 12 ≤ x3.toNatClampNeg then none else
                          if (r_2.2.2.2.1 13 x3.toNatClampNeg) = (98 : Int32) then
                            if x3 < 0 ∨ 12 ≤ x3.toNatClampNeg then none else
                            if (r_2.2.2.2.1 37 x3.toNatClampNeg) = 0 then
                              fm_canDo_234 r_2.2
                            else
                              (fm_inBox r_2.2 x3).bind fun r_3 =>
                              if r_3.1 ≤ (2 : Int32) then
                                if x2 < 0 ∨ 12 ≤ x2.toNatClampNeg then none else
                                if (1 : Int32) &&& 1 = (1 : Int32) then some ((1 : Int32), (mA r_3.2 36 x2.toNatClampNeg ((200 : Int32) + x3))) else none
                              else
                                fm_canDo_234 r_3.2
                          else
                            fm_canDo_234 r_2.2
                      else
                        fm_canDo_234 r_2.2
                else
                  if x1 = (4 : Int32) then
                    fm_canDo_260 r_1.2 x1 x2
                  else
                    if x1 = (6 : Int32) then
                      fm_canDo_260 r_1.2 x1 x2
                    else
                      fm_canDo_265 r_1.2 x1 x2 (0 : Int32)
    else
      if (1 : Int32) &&& 1 = (1 : Int32) then some ((1 : Int32), σ) else none
set_option maxHeartbeats 4000000 in
set_option maxRecDepth 100000 in
theorem cm_canDo (l : Launch) (D : va_G) (ca : Nat → ClassId) (α : Nat → Nat) (A : Nat → Prop) (σ : mS) (x1 : Int32) (x2 : Int32) (x3 : Int32) (o : Int32 × mS) (h : fm_canDo σ x1 x2 x3 = some o) : mMetI l yX12_canDo cX12_canDo 5 (some .boolean) rmX12_canDo D ca α A σ [.int x1, .int x2, .int x3] o := by
  refine Met.ofW (cc := cX12_canDo) (maxL := 5) (ret := some .boolean) (by decide) rfl ?_
  intro p e s m args below meth c s₁ B hml hv
  obtain ⟨rfl, hP, hK, hD0⟩ := hv
  have C : mC p s m _ c cX12_canDo 5 D ca := ⟨B.exec, B.bytes, hml, findClass_of_methodNamed B.named, fun w hw => atoms_spec (ws := mWs yX12_canDo cX12_canDo 5 (some .boolean)) B.pre w (List.mem_cons_of_mem _ hw), hK⟩
  have hM : mM D ca α A s.heap σ s.heap [] := ⟨hP, hD0, va_S.rf⟩
  have hr := B.returns
  have hlk := B.notSynchronized
  have hx := C.1
  have hb := C.2.1
  have hl := lv_entry ([.ref (α 0), .int x1, .int x2, .int x3]) (n := 5) (Nat.le_of_ble_eq_true rfl)
  rw [lg_entry_eq]
  generalize (lg_sl ([.ref (α 0), .int x1, .int x2, .int x3]) ++ List.replicate (5 - (lg_sl ([.ref (α 0), .int x1, .int x2, .int x3])).length) Slot.unset).toArray = ls at hl ⊢
  have hl : lv_has ls 5 [(0, .ref (α 0)), (1, .int x1), (2, .int x2), (3, .int x3)] := hl
  unfold fm_canDo at h
  refine lv_iload_n hx hb dX12_canDo_0 rfl (lv_at hl 1 rfl) ?_
  refine lv_iconst (v := (1 : Int32)) hx hb dX12_canDo_1 (by decide) ?_
  refine lv_icmp_ne (tgt := 57) hx hb dX12_canDo_2 (by decide) (fun c_1 => ?_) (fun c_1 => ?_)
  · have h := br_F c_1 h
    refine lv_iload_n hx hb dX12_canDo_57 rfl (lv_at hl 1 rfl) ?_
    refine lv_bipush (v := (10 : Int32)) hx hb dX12_canDo_58 (by decide) ?_
    refine lv_icmp_lt (tgt := 65) hx hb dX12_canDo_60 (by decide) (fun c_2 => ?_) (fun c_2 => ?_)
    · have h := br_T c_2 h
      refine lv_iload_n hx hb dX12_canDo_65 rfl (lv_at hl 2 rfl) ?_
      refine lv_if_lt (tgt := 77) hx hb dX12_canDo_66 (by decide) (fun c_3 => ?_) (fun c_3 => ?_)
      · have h := br_T c_3 h
        exact gm_canDo_77 C hr hlk  _ _ _ _ hM (lv_sub hl [0] rfl) h
      · have h := br_F c_3 h
        refine lv_aload_n hx hb dX12_canDo_69 rfl (lv_at hl 0 rfl) ?_
        refine lv_iload_n hx hb dX12_canDo_70 rfl (lv_at hl 2 rfl) ?_
        obtain ⟨r_1, hr_1, h⟩ := bd_of h
        refine m_cVi (As := [.int x2]) (rest := []) C hM (cm_canReach l D ca α A σ x2 r_1 hr_1) mwy_canReach ⟨rfl, rfl⟩ ⟨Nat.le_of_ble_eq_true rfl, Nat.le_of_ble_eq_true rfl⟩ rfl rfl (Nat.le_of_ble_eq_true rfl) hl.1 dX12_canDo_71 ⟨rfl, rfl⟩ (fun H locs hM => ?_)
        refine lv_if_ne (tgt := 79) hx hb dX12_canDo_74 (by decide) (fun c_4 => ?_) (fun c_4 => ?_)
        · have h := br_F c_4 h
          refine lv_iload_n hx hb dX12_canDo_79 rfl (lv_at hl 1 rfl) ?_
          refine lv_bipush (v := (8 : Int32)) hx hb dX12_canDo_80 (by decide) ?_
          refine lv_icmp_ne (tgt := 97) hx hb dX12_canDo_82 (by decide) (fun c_5 => ?_) (fun c_5 => ?_)
          · have h := br_F c_5 h
            refine lv_iload_n hx hb dX12_canDo_97 rfl (lv_at hl 1 rfl) ?_
            refine lv_iconst (v := (2 : Int32)) hx hb dX12_canDo_98 (by decide) ?_
            refine lv_icmp_ne (tgt := 135) hx hb dX12_canDo_99 (by decide) (fun c_6 => ?_) (fun c_6 => ?_)
            · have h := br_F c_6 h
              refine lv_iload_n hx hb dX12_canDo_135 rfl (lv_at hl 1 rfl) ?_
              refine lv_iconst (v := (3 : Int32)) hx hb dX12_canDo_136 (by decide) ?_
              refine lv_icmp_ne (tgt := 165) hx hb dX12_canDo_137 (by decide) (fun c_7 => ?_) (fun c_7 => ?_)
              · have h := br_F c_7 h
                refine lv_iload_n hx hb dX12_canDo_165 rfl (lv_at hl 1 rfl) ?_
                refine lv_bipush (v := (9 : Int32)) hx hb dX12_canDo_166 (by decide) ?_
                refine lv_icmp_ne (tgt := 249) hx hb dX12_canDo_168 (by decide) (fun c_8 => ?_) (fun c_8 => ?_)
                · have h := br_F c_8 h
                  refine lv_iload_n hx hb dX12_canDo_249 rfl (lv_at hl 1 rfl) ?_
                  refine lv_iconst (v := (4 : Int32)) hx hb dX12_canDo_250 (by decide) ?_
                  refine lv_icmp_eq (tgt := 260) hx hb dX12_canDo_251 (by decide) (fun c_9 => ?_) (fun c_9 => ?_)
                  · have h := br_T c_9 h
                    exact gm_canDo_260 C hr hlk  _ _ _ _ _ _ hM (lv_sub hl [0, 1, 2] rfl) h
                  · have h := br_F c_9 h
                    refine lv_iload_n hx hb dX12_canDo_254 rfl (lv_at hl 1 rfl) ?_
                    refine lv_bipush (v := (6 : Int32)) hx hb dX12_canDo_255 (by decide) ?_
                    refine lv_icmp_ne (tgt := 264) hx hb dX12_canDo_257 (by decide) (fun c_10 => ?_) (fun c_10 => ?_)
                    · have h := br_F c_10 h
                      refine lv_iconst (v := (0 : Int32)) hx hb dX12_canDo_264 (by decide) ?_
                      exact gm_canDo_265 C hr hlk  _ _ _ _ _ _ _ hM (lv_sub hl [0, 1, 2] rfl) h
                    · have h := br_T c_10 h
                      exact gm_canDo_260 C hr hlk  _ _ _ _ _ _ hM (lv_sub hl [0, 1, 2] rfl) h
                · have h := br_T c_8 h
                  refine lv_iload_n hx hb dX12_canDo_171 rfl (lv_at hl 3 rfl) ?_
                  refine lv_if_lt (tgt := 234) hx hb dX12_canDo_172 (by decide) (fun c_11 => ?_) (fun c_11 => ?_)
                  · have h := br_T c_11 h
                    exact gm_canDo_234 C hr hlk  _ _ _ _ hM (lv_sub hl [0] rfl) h
                  · have h := br_F c_11 h
                    refine lv_aload_n hx hb dX12_canDo_175 rfl (lv_at hl 0 rfl) ?_
                    refine lv_iload_n hx hb dX12_canDo_176 rfl (lv_at hl 3 rfl) ?_
                    obtain ⟨r_2, hr_2, h⟩ := bd_of h
                    refine m_cVi (As := [.int x3]) (rest := []) C hM (cm_canReach l D ca α A r_1.2 x3 r_2 hr_2) mwy_canReach ⟨rfl, rfl⟩ ⟨Nat.le_of_ble_eq_true rfl, Nat.le_of_ble_eq_true rfl⟩ rfl rfl (Nat.le_of_ble_eq_true rfl) hl.1 dX12_canDo_177 ⟨rfl, rfl⟩ (fun H locs hM => ?_)
                    refine lv_if_eq (tgt := 234) hx hb dX12_canDo_180 (by decide) (fun c_12 => ?_) (fun c_12 => ?_)
                    · have h := br_T c_12 h
                      exact gm_canDo_234 C hr hlk  _ _ _ _ hM (lv_sub hl [0] rfl) h
                    · have h := br_F c_12 h
                      refine lv_aload_n hx hb dX12_canDo_183 rfl (lv_at hl 0 rfl) ?_
                      refine m_geta C hM (k := 36) (by decide) rfl dX12_canDo_184 ?_
                      refine lv_iload_n hx hb dX12_canDo_187 rfl (lv_at hl 2 rfl) ?_
                      obtain ⟨c_13, h⟩ := ko_of h
                      refine m_iald C hM (k := 36) rfl c_13 dX12_canDo_188 ?_
                      refine lv_bipush (v := (100 : Int32)) hx hb dX12_canDo_189 (by decide) ?_
                      refine lv_icmp_ne (tgt := 234) hx hb dX12_canDo_191 (by decide) (fun c_14 => ?_) (fun c_14 => ?_)
                      · have h := br_F c_14 h
                        exact gm_canDo_234 C hr hlk  _ _ _ _ hM (lv_sub hl [0] rfl) h
                      · have h := br_T c_14 h
                        refine lv_aload_n hx hb dX12_canDo_194 rfl (lv_at hl 0 rfl) ?_
                        refine m_geta C hM (k := 13) (by decide) rfl dX12_canDo_195 ?_
                        refine lv_iload_n hx hb dX12_canDo_198 rfl (lv_at hl 2 rfl) ?_
                        obtain ⟨c_15, h⟩ := ko_of h
                        refine m_cald C hM (k := 13) rfl c_15 dX12_canDo_199 ?_
                        refine lv_bipush (v := (98 : Int32)) hx hb dX12_canDo_200 (by decide) ?_
                        refine lv_icmp_eq (tgt := 234) hx hb dX12_canDo_202 (by decide) (fun c_16 => ?_) (fun c_16 => ?_)
                        · have h := br_T c_16 h
                          exact gm_canDo_234 C hr hlk  _ _ _ _ hM (lv_sub hl [0] rfl) h
                        · have h := br_F c_16 h
                          refine lv_aload_n hx hb dX12_canDo_205 rfl (lv_at hl 0 rfl) ?_
                          refine m_geta C hM (k := 13) (by decide) rfl dX12_canDo_206 ?_
                          refine lv_iload_n hx hb dX12_canDo_209 rfl (lv_at hl 3 rfl) ?_
                          obtain ⟨c_17, h⟩ := ko_of h
                          refine m_cald C hM (k := 13) rfl c_17 dX12_canDo_210 ?_
                          refine lv_bipush (v := (98 : Int32)) hx hb dX12_canDo_211 (by decide) ?_
                          refine lv_icmp_ne (tgt := 234) hx hb dX12_canDo_213 (by decide) (fun c_18 => ?_) (fun c_18 => ?_)
                          · have h := br_F c_18 h
                            exact gm_canDo_234 C hr hlk  _ _ _ _ hM (lv_sub hl [0] rfl) h
                          · have h := br_T c_18 h
                            refine lv_aload_n hx hb dX12_canDo_216 rfl (lv_at hl 0 rfl) ?_
                            refine m_geta C hM (k := 37) (by decide) rfl dX12_canDo_217 ?_
                            refine lv_iload_n hx hb dX12_canDo_220 rfl (lv_at hl 3 rfl) ?_
                            obtain ⟨c_19, h⟩ := ko_of h
                            refine m_zald C hM (k := 37) rfl c_19 dX12_canDo_221 ?_
                            refine lv_if_eq (tgt := 234) hx hb dX12_canDo_222 (by decide) (fun c_20 => ?_) (fun c_20 => ?_)
                            · have h := br_T c_20 h
                              exact gm_canDo_234 C hr hlk  _ _ _ _ hM (lv_sub hl [0] rfl) h
                            · have h := br_F c_20 h
                              refine lv_aload_n hx hb dX12_canDo_225 rfl (lv_at hl 0 rfl) ?_
                              refine lv_iload_n hx hb dX12_canDo_226 rfl (lv_at hl 3 rfl) ?_
                              obtain ⟨r_3, hr_3, h⟩ := bd_of h
                              refine m_cVi (As := [.int x3]) (rest := []) C hM (cm_inBox l D ca α A r_2.2 x3 r_3 hr_3) mwy_inBox ⟨rfl, rfl⟩ ⟨Nat.le_of_ble_eq_true rfl, Nat.le_of_ble_eq_true rfl⟩ rfl rfl (Nat.le_of_ble_eq_true rfl) hl.1 dX12_canDo_227 ⟨rfl, rfl⟩ (fun H locs hM => ?_)
                              refine lv_iconst (v := (2 : Int32)) hx hb dX12_canDo_230 (by decide) ?_
                              refine lv_icmp_le (tgt := 236) hx hb dX12_canDo_231 (by decide) (fun c_21 => ?_) (fun c_21 => ?_)
                              · have h := br_T c_21 h
                                refine lv_aload_n hx hb dX12_canDo_236 rfl (lv_at hl 0 rfl) ?_
                                refine m_geta C hM (k := 36) (by decide) rfl dX12_canDo_237 ?_
                                refine lv_iload_n hx hb dX12_canDo_240 rfl (lv_at hl 2 rfl) ?_
                                refine lv_sipush (v := (200 : Int32)) hx hb dX12_canDo_241 (by decide) ?_
                                refine lv_iload_n hx hb dX12_canDo_244 rfl (lv_at hl 3 rfl) ?_
                                refine lv_iadd hx hb dX12_canDo_245 ?_
                                obtain ⟨c_22, h⟩ := ko_of h
                                refine m_iast C hM (k := 36) rfl c_22 dX12_canDo_246 (fun H locs hM => ?_)
                                refine lv_iconst (v := (1 : Int32)) hx hb dX12_canDo_247 (by decide) ?_
                                exact m_rz C hM hr hlk dX12_canDo_248 h
                              · have h := br_F c_21 h
                                exact gm_canDo_234 C hr hlk  _ _ _ _ hM (lv_sub hl [0] rfl) h
              · have h := br_T c_7 h
                refine lv_aload_n hx hb dX12_canDo_140 rfl (lv_at hl 0 rfl) ?_
                refine m_geta C hM (k := 36) (by decide) rfl dX12_canDo_141 ?_
                refine lv_iload_n hx hb dX12_canDo_144 rfl (lv_at hl 2 rfl) ?_
                obtain ⟨c_23, h⟩ := ko_of h
                refine m_iald C hM (k := 36) rfl c_23 dX12_canDo_145 ?_
                refine lv_bipush (v := (100 : Int32)) hx hb dX12_canDo_146 (by decide) ?_
                refine lv_icmp_eq (tgt := 153) hx hb dX12_canDo_148 (by decide) (fun c_24 => ?_) (fun c_24 => ?_)
                · have h := br_T c_24 h
                  refine lv_aload_n hx hb dX12_canDo_153 rfl (lv_at hl 0 rfl) ?_
                  refine m_geta C hM (k := 36) (by decide) rfl dX12_canDo_154 ?_
                  refine lv_iload_n hx hb dX12_canDo_157 rfl (lv_at hl 2 rfl) ?_
                  refine lv_aload_n hx hb dX12_canDo_158 rfl (lv_at hl 0 rfl) ?_
                  refine m_geti C hM (k := 35) (Or.inl rfl) rfl dX12_canDo_159 ?_
                  obtain ⟨c_25, h⟩ := ko_of h
                  refine m_iast C hM (k := 36) rfl c_25 dX12_canDo_162 (fun H locs hM => ?_)
                  refine lv_iconst (v := (1 : Int32)) hx hb dX12_canDo_163 (by decide) ?_
                  exact m_rz C hM hr hlk dX12_canDo_164 h
                · have h := br_F c_24 h
                  refine lv_iconst (v := (0 : Int32)) hx hb dX12_canDo_151 (by decide) ?_
                  exact m_rz C hM hr hlk dX12_canDo_152 h
            · have h := br_T c_6 h
              refine lv_aload_n hx hb dX12_canDo_102 rfl (lv_at hl 0 rfl) ?_
              refine m_geta C hM (k := 36) (by decide) rfl dX12_canDo_103 ?_
              refine lv_iload_n hx hb dX12_canDo_106 rfl (lv_at hl 2 rfl) ?_
              obtain ⟨c_26, h⟩ := ko_of h
              refine m_iald C hM (k := 36) rfl c_26 dX12_canDo_107 ?_
              refine lv_bipush (v := (100 : Int32)) hx hb dX12_canDo_108 (by decide) ?_
              refine lv_icmp_eq (tgt := 123) hx hb dX12_canDo_110 (by decide) (fun c_27 => ?_) (fun c_27 => ?_)
              · have h := br_T c_27 h
                exact gm_canDo_123 C hr hlk  _ _ _ _ hM (lv_sub hl [0] rfl) h
              · have h := br_F c_27 h
                refine lv_aload_n hx hb dX12_canDo_113 rfl (lv_at hl 0 rfl) ?_
                refine lv_iload_n hx hb dX12_canDo_114 rfl (lv_at hl 2 rfl) ?_
                obtain ⟨r_4, hr_4, h⟩ := bd_of h
                refine m_cVi (As := [.int x2]) (rest := []) C hM (cm_weightWith l D ca α A r_1.2 x2 r_4 hr_4) mwy_weightWith ⟨rfl, rfl⟩ ⟨Nat.le_of_ble_eq_true rfl, Nat.le_of_ble_eq_true rfl⟩ rfl rfl (Nat.le_of_ble_eq_true rfl) hl.1 dX12_canDo_115 ⟨rfl, rfl⟩ (fun H locs hM => ?_)
                refine lv_bipush (v := (12 : Int32)) hx hb dX12_canDo_118 (by decide) ?_
                refine lv_icmp_le (tgt := 125) hx hb dX12_canDo_120 (by decide) (fun c_28 => ?_) (fun c_28 => ?_)
                · have h := br_T c_28 h
                  refine lv_aload_n hx hb dX12_canDo_125 rfl (lv_at hl 0 rfl) ?_
                  refine m_geta C hM (k := 36) (by decide) rfl dX12_canDo_126 ?_
                  refine lv_iload_n hx hb dX12_canDo_129 rfl (lv_at hl 2 rfl) ?_
                  refine lv_bipush (v := (100 : Int32)) hx hb dX12_canDo_130 (by decide) ?_
                  obtain ⟨c_29, h⟩ := ko_of h
                  refine m_iast C hM (k := 36) rfl c_29 dX12_canDo_132 (fun H locs hM => ?_)
                  refine lv_iconst (v := (1 : Int32)) hx hb dX12_canDo_133 (by decide) ?_
                  exact m_rz C hM hr hlk dX12_canDo_134 h
                · have h := br_F c_28 h
                  exact gm_canDo_123 C hr hlk  _ _ _ _ hM (lv_sub hl [0] rfl) h
          · have h := br_T c_5 h
            refine lv_aload_n hx hb dX12_canDo_85 rfl (lv_at hl 0 rfl) ?_
            refine lv_aload_n hx hb dX12_canDo_86 rfl (lv_at hl 0 rfl) ?_
            refine m_geta C hM (k := 15) (by decide) rfl dX12_canDo_87 ?_
            refine lv_iload_n hx hb dX12_canDo_90 rfl (lv_at hl 2 rfl) ?_
            obtain ⟨c_30, h⟩ := ko_of h
            refine m_lald C hM (k := 15) rfl c_30 dX12_canDo_91 ?_
            refine m_putl C hM (k := 39) rfl rfl dX12_canDo_92 (fun H locs hM => ?_)
            refine lv_iconst (v := (1 : Int32)) hx hb dX12_canDo_95 (by decide) ?_
            exact m_rz C hM hr hlk dX12_canDo_96 h
        · have h := br_T c_4 h
          exact gm_canDo_77 C hr hlk  _ _ _ _ hM (lv_sub hl [0] rfl) h
    · have h := br_F c_2 h
      refine lv_iconst (v := (1 : Int32)) hx hb dX12_canDo_63 (by decide) ?_
      exact m_rz C hM hr hlk dX12_canDo_64 h
  · have h := br_T c_1 h
    refine lv_aload_n hx hb dX12_canDo_5 rfl (lv_at hl 0 rfl) ?_
    refine m_geta C hM (k := 1) (by decide) rfl dX12_canDo_6 ?_
    refine lv_aload_n hx hb dX12_canDo_9 rfl (lv_at hl 0 rfl) ?_
    refine m_geta C hM (k := 40) (by decide) rfl dX12_canDo_10 ?_
    refine lv_iconst (v := (1 : Int32)) hx hb dX12_canDo_13 (by decide) ?_
    obtain ⟨c_31, h⟩ := ko_of h
    refine m_iald C hM (k := 40) rfl c_31 dX12_canDo_14 ?_
    obtain ⟨c_32, h⟩ := ko_of h
    refine m_iald C hM (k := 1) rfl c_32 dX12_canDo_15 ?_
    obtain ⟨r_5, hr_5, h⟩ := bd_of h
    refine m_cSi (As := [.int (σ.2.2.1 1 (σ.2.2.1 40 (1 : Int32).toNatClampNeg).toNatClampNeg)]) (rest := []) C hM (cm_directionOf l D ca α A σ (σ.2.2.1 1 (σ.2.2.1 40 (1 : Int32).toNatClampNeg).toNatClampNeg) r_5 hr_5) mwy_directionOf ⟨rfl, rfl⟩ ⟨Nat.le_of_ble_eq_true rfl, Nat.le_of_ble_eq_true rfl⟩ rfl rfl (Nat.le_of_ble_eq_true rfl) hl.1 dX12_canDo_16 ⟨rfl, rfl⟩ (fun H locs hM => ?_)
    refine lv_istore (lv' := [(4, .int r_5), (0, .ref (α 0)), (1, .int x1), (2, .int x2), (3, .int x3)]) hx hb dX12_canDo_19 hl (by decide) rfl (fun ls hl => ?_)
    refine lv_aload_n hx hb dX12_canDo_21 rfl (lv_at hl 1 rfl) ?_
    refine lv_aload_n hx hb dX12_canDo_22 rfl (lv_at hl 1 rfl) ?_
    refine m_geti C hM (k := 35) (Or.inl rfl) rfl dX12_canDo_23 ?_
    refine lv_iload hx hb dX12_canDo_26 (lv_at hl 0 rfl) ?_
    obtain ⟨r_6, hr_6, h⟩ := bd_of h
    refine m_cVi (As := [.int (σ.1 35), .int r_5]) (rest := []) C hM (cm_isFree l D ca α A σ (σ.1 35) r_5 r_6 hr_6) mwy_isFree ⟨rfl, rfl⟩ ⟨Nat.le_of_ble_eq_true rfl, Nat.le_of_ble_eq_true rfl⟩ rfl rfl (Nat.le_of_ble_eq_true rfl) hl.1 dX12_canDo_28 ⟨rfl, rfl⟩ (fun H locs hM => ?_)
    refine lv_if_ne (tgt := 36) hx hb dX12_canDo_31 (by decide) (fun c_33 => ?_) (fun c_33 => ?_)
    · have h := br_F c_33 h
      refine lv_aload_n hx hb dX12_canDo_36 rfl (lv_at hl 1 rfl) ?_
      refine lv_aload_n hx hb dX12_canDo_37 rfl (lv_at hl 1 rfl) ?_
      refine m_geta C hM (k := 7) (by decide) rfl dX12_canDo_38 ?_
      refine lv_bipush (v := (6 : Int32)) hx hb dX12_canDo_41 (by decide) ?_
      refine lv_aload_n hx hb dX12_canDo_43 rfl (lv_at hl 1 rfl) ?_
      refine m_geti C hM (k := 35) (Or.inl rfl) rfl dX12_canDo_44 ?_
      refine lv_imul hx hb dX12_canDo_47 ?_
      refine lv_iload hx hb dX12_canDo_48 (lv_at hl 0 rfl) ?_
      refine lv_iadd hx hb dX12_canDo_50 ?_
      obtain ⟨c_34, h⟩ := ko_of h
      refine m_iald C hM (k := 7) rfl c_34 dX12_canDo_51 ?_
      refine m_puti C hM (k := 35) rfl rfl dX12_canDo_52 (fun H locs hM => ?_)
      refine lv_iconst (v := (1 : Int32)) hx hb dX12_canDo_55 (by decide) ?_
      exact m_rz C hM hr hlk dX12_canDo_56 h
    · have h := br_T c_33 h
      refine lv_iconst (v := (0 : Int32)) hx hb dX12_canDo_34 (by decide) ?_
      exact m_rz C hM hr hlk dX12_canDo_35 h
theorem mwy_canDo : mCallV RX12 278 yX12_canDo cX12_canDo 5 (some .boolean) 3 := ⟨⟨wl_in (i := 2161) (by decide +kernel), wl_in (i := 2163) (by decide +kernel), wl_inp (i := 47) (by decide +kernel), wl_in (i := 16) (by decide +kernel), wl_in (i := 2164) (by decide +kernel)⟩, rfl, by decide, by decide, by decide +kernel⟩
/-! say()C -/
abbrev rmX12_say : Room := { frames := 4, cells := 0, slots := 0, locals := 92 }
def fm_say_186 (σ : mS) (x2 : Int32) : Option (Int32 × mS) :=
  if x2.toUInt32.toUInt16.toUInt32.toInt32 = x2 then some (x2, (mI σ 2 (0 : Int32))) else none
set_option maxHeartbeats 4000000 in
set_option maxRecDepth 100000 in
theorem gm_say_186 {p : Program} {l : Launch} {e : Env} {s : State} {m : MethodId} {args : Array Value} {below : List Frame} {meth : Method} {c : Code} {D : va_G} {ca : Nat → ClassId} {α : Nat → Nat} {A : Nat → Prop} {o : Int32 × mS} (C : mC p s m args c cX12_say 6 D ca) (hr : meth.sig.returnType = some .char) (hlk : meth.locks = false) : ∀ (σ : mS) (x2 : Int32) (H : Heap) (locs : List Loc) (ls : Array Slot), mM D ca α A s.heap σ H locs → lv_has ls 6 [(0, .ref (α 0)), (2, .int x2)] → fm_say_186 σ x2 = some o → mGI p l e rmX12_say s m args below meth c D ca α A o H locs 186 ls [] := by
  have hx := C.1
  have hb := C.2.1
  intro σ x2 H locs ls hM hl h
  unfold fm_say_186 at h
  refine lv_aload_n hx hb dX12_say_186 rfl (lv_at hl 0 rfl) ?_
  refine lv_iconst (v := (0 : Int32)) hx hb dX12_say_187 (by decide) ?_
  refine m_puti C hM (k := 2) rfl rfl dX12_say_188 (fun H locs hM => ?_)
  refine lv_iload_n hx hb dX12_say_191 rfl (lv_at hl 1 rfl) ?_
  exact m_rc C hM hr hlk dX12_say_192 h
def fm_say_157 (σ : mS) (x2 : Int32) (x5 : Int32) (s0 : Int32) : Option (Int32 × mS) :=
  (fm_isWrong σ s0).bind fun r_1 =>
  if r_1.1 = 0 then
    if x5 = (-1 : Int32) then
      (fm_comes r_1.2 (0 : Int32) (0 : Int32)).bind fun r_2 =>
      fm_say_186 r_2 x2
    else
      fm_say_186 (mI r_1.2 34 x5) x2
  else
    if (0 : Int32).toUInt32.toUInt16.toUInt32.toInt32 = (0 : Int32) then some ((0 : Int32), r_1.2) else none
set_option maxHeartbeats 4000000 in
set_option maxRecDepth 100000 in
theorem gm_say_157 {p : Program} {l : Launch} {e : Env} {s : State} {m : MethodId} {args : Array Value} {below : List Frame} {meth : Method} {c : Code} {D : va_G} {ca : Nat → ClassId} {α : Nat → Nat} {A : Nat → Prop} {o : Int32 × mS} (C : mC p s m args c cX12_say 6 D ca) (hr : meth.sig.returnType = some .char) (hlk : meth.locks = false) : ∀ (σ : mS) (x2 : Int32) (x5 : Int32) (s0 : Int32) (H : Heap) (locs : List Loc) (ls : Array Slot), mM D ca α A s.heap σ H locs → lv_has ls 6 [(0, .ref (α 0)), (2, .int x2), (5, .int x5)] → fm_say_157 σ x2 x5 s0 = some o → mGI p l e rmX12_say s m args below meth c D ca α A o H locs 157 ls [.int s0, .ref (α 0)] := by
  have hx := C.1
  have hb := C.2.1
  intro σ x2 x5 s0 H locs ls hM hl h
  unfold fm_say_157 at h
  obtain ⟨r_1, hr_1, h⟩ := bd_of h
  refine m_cVi (As := [.int s0]) (rest := []) C hM (cm_isWrong l D ca α A σ s0 r_1 hr_1) mwy_isWrong ⟨rfl, rfl⟩ ⟨Nat.le_of_ble_eq_true rfl, Nat.le_of_ble_eq_true rfl⟩ rfl rfl (Nat.le_of_ble_eq_true rfl) hl.1 dX12_say_157 ⟨rfl, rfl⟩ (fun H locs hM => ?_)
  refine lv_if_eq (tgt := 165) hx hb dX12_say_160 (by decide) (fun c_1 => ?_) (fun c_1 => ?_)
  · have h := br_T c_1 h
    refine lv_iload hx hb dX12_say_165 (lv_at hl 2 rfl) ?_
    refine lv_iconst (v := (-1 : Int32)) hx hb dX12_say_167 (by decide) ?_
    refine lv_icmp_ne (tgt := 180) hx hb dX12_say_168 (by decide) (fun c_2 => ?_) (fun c_2 => ?_)
    · have h := br_F c_2 h
      refine lv_aload_n hx hb dX12_say_180 rfl (lv_at hl 0 rfl) ?_
      refine lv_iload hx hb dX12_say_181 (lv_at hl 2 rfl) ?_
      refine m_puti C hM (k := 34) rfl rfl dX12_say_183 (fun H locs hM => ?_)
      exact gm_say_186 C hr hlk  _ _ _ _ _ hM (lv_sub hl [0, 1] rfl) h
    · have h := br_T c_2 h
      refine lv_aload_n hx hb dX12_say_171 rfl (lv_at hl 0 rfl) ?_
      refine lv_iconst (v := (0 : Int32)) hx hb dX12_say_172 (by decide) ?_
      refine lv_iconst (v := (0 : Int32)) hx hb dX12_say_173 (by decide) ?_
      obtain ⟨r_2, hr_2, h⟩ := bd_of h
      refine m_cVv (As := [.int (0 : Int32), .int (0 : Int32)]) (rest := []) C hM (cm_comes l D ca α A r_1.2 (0 : Int32) (0 : Int32) r_2 hr_2) mwy_comes ⟨rfl, rfl⟩ ⟨Nat.le_of_ble_eq_true rfl, Nat.le_of_ble_eq_true rfl⟩ rfl rfl (Nat.le_of_ble_eq_true rfl) hl.1 dX12_say_174 ⟨rfl, rfl⟩ (fun H locs hM => ?_)
      refine lv_goto (tgt := 186) hx hb dX12_say_177 (by decide) ?_
      exact gm_say_186 C hr hlk  _ _ _ _ _ hM (lv_sub hl [0, 1] rfl) h
  · have h := br_F c_1 h
    refine lv_iconst (v := (0 : Int32)) hx hb dX12_say_163 (by decide) ?_
    exact m_rc C hM hr hlk dX12_say_164 h
def fm_say_156 (σ : mS) (x2 : Int32) (x5 : Int32) : Option (Int32 × mS) :=
  fm_say_157 σ x2 x5 (0 : Int32)
set_option maxHeartbeats 4000000 in
set_option maxRecDepth 100000 in
theorem gm_say_156 {p : Program} {l : Launch} {e : Env} {s : State} {m : MethodId} {args : Array Value} {below : List Frame} {meth : Method} {c : Code} {D : va_G} {ca : Nat → ClassId} {α : Nat → Nat} {A : Nat → Prop} {o : Int32 × mS} (C : mC p s m args c cX12_say 6 D ca) (hr : meth.sig.returnType = some .char) (hlk : meth.locks = false) : ∀ (σ : mS) (x2 : Int32) (x5 : Int32) (H : Heap) (locs : List Loc) (ls : Array Slot), mM D ca α A s.heap σ H locs → lv_has ls 6 [(0, .ref (α 0)), (2, .int x2), (5, .int x5)] → fm_say_156 σ x2 x5 = some o → mGI p l e rmX12_say s m args below meth c D ca α A o H locs 156 ls [.ref (α 0)] := by
  have hx := C.1
  have hb := C.2.1
  intro σ x2 x5 H locs ls hM hl h
  unfold fm_say_156 at h
  refine lv_iconst (v := (0 : Int32)) hx hb dX12_say_156 (by decide) ?_
  exact gm_say_157 C hr hlk  _ _ _ _ _ _ _ hM (lv_sub hl [0, 1, 2] rfl) h
def fm_say_122 (σ : mS) (x2 : Int32) : Option (Int32 × mS) :=
  if x2 = (111 : Int32) then
    (fm_childBy σ (0 : Int32) (0 : Int32)).bind fun r_1 =>
    if r_1.1 = (-1 : Int32) then
      if (r_1.2.1 33) = (80 : Int32) then
        fm_say_157 r_1.2 x2 r_1.1 (1 : Int32)
      else
        fm_say_156 r_1.2 x2 r_1.1
    else
      fm_say_156 r_1.2 x2 r_1.1
  else
    fm_say_186 σ x2
set_option maxHeartbeats 4000000 in
set_option maxRecDepth 100000 in
theorem gm_say_122 {p : Program} {l : Launch} {e : Env} {s : State} {m : MethodId} {args : Array Value} {below : List Frame} {meth : Method} {c : Code} {D : va_G} {ca : Nat → ClassId} {α : Nat → Nat} {A : Nat → Prop} {o : Int32 × mS} (C : mC p s m args c cX12_say 6 D ca) (hr : meth.sig.returnType = some .char) (hlk : meth.locks = false) : ∀ (σ : mS) (x2 : Int32) (H : Heap) (locs : List Loc) (ls : Array Slot), mM D ca α A s.heap σ H locs → lv_has ls 6 [(0, .ref (α 0)), (2, .int x2)] → fm_say_122 σ x2 = some o → mGI p l e rmX12_say s m args below meth c D ca α A o H locs 122 ls [] := by
  have hx := C.1
  have hb := C.2.1
  intro σ x2 H locs ls hM hl h
  unfold fm_say_122 at h
  refine lv_iload_n hx hb dX12_say_122 rfl (lv_at hl 1 rfl) ?_
  refine lv_bipush (v := (111 : Int32)) hx hb dX12_say_123 (by decide) ?_
  refine lv_icmp_ne (tgt := 186) hx hb dX12_say_125 (by decide) (fun c_1 => ?_) (fun c_1 => ?_)
  · have h := br_F c_1 h
    exact gm_say_186 C hr hlk  _ _ _ _ _ hM (lv_sub hl [0, 1] rfl) h
  · have h := br_T c_1 h
    refine lv_aload_n hx hb dX12_say_128 rfl (lv_at hl 0 rfl) ?_
    refine lv_iconst (v := (0 : Int32)) hx hb dX12_say_129 (by decide) ?_
    refine lv_iconst (v := (0 : Int32)) hx hb dX12_say_130 (by decide) ?_
    obtain ⟨r_1, hr_1, h⟩ := bd_of h
    refine m_cVi (As := [.int (0 : Int32), .int (0 : Int32)]) (rest := []) C hM (cm_childBy l D ca α A σ (0 : Int32) (0 : Int32) r_1 hr_1) mwy_childBy ⟨rfl, rfl⟩ ⟨Nat.le_of_ble_eq_true rfl, Nat.le_of_ble_eq_true rfl⟩ rfl rfl (Nat.le_of_ble_eq_true rfl) hl.1 dX12_say_131 ⟨rfl, rfl⟩ (fun H locs hM => ?_)
    refine lv_istore (lv' := [(5, .int r_1.1), (0, .ref (α 0)), (2, .int x2)]) hx hb dX12_say_134 hl (by decide) rfl (fun ls hl => ?_)
    refine lv_aload_n hx hb dX12_say_136 rfl (lv_at hl 1 rfl) ?_
    refine lv_iload hx hb dX12_say_137 (lv_at hl 0 rfl) ?_
    refine lv_iconst (v := (-1 : Int32)) hx hb dX12_say_139 (by decide) ?_
    refine lv_icmp_ne (tgt := 156) hx hb dX12_say_140 (by decide) (fun c_2 => ?_) (fun c_2 => ?_)
    · have h := br_F c_2 h
      exact gm_say_156 C hr hlk  _ _ _ _ _ _ hM (lv_sub hl [1, 2, 0] rfl) h
    · have h := br_T c_2 h
      refine lv_aload_n hx hb dX12_say_143 rfl (lv_at hl 1 rfl) ?_
      refine m_geti C hM (k := 33) (Or.inl rfl) rfl dX12_say_144 ?_
      refine lv_bipush (v := (80 : Int32)) hx hb dX12_say_147 (by decide) ?_
      refine lv_icmp_ne (tgt := 156) hx hb dX12_say_149 (by decide) (fun c_3 => ?_) (fun c_3 => ?_)
      · have h := br_F c_3 h
        exact gm_say_156 C hr hlk  _ _ _ _ _ _ hM (lv_sub hl [1, 2, 0] rfl) h
      · have h := br_T c_3 h
        refine lv_iconst (v := (1 : Int32)) hx hb dX12_say_152 (by decide) ?_
        refine lv_goto (tgt := 157) hx hb dX12_say_153 (by decide) ?_
        exact gm_say_157 C hr hlk  _ _ _ _ _ _ _ hM (lv_sub hl [1, 2, 0] rfl) h
def fm_say_102 (σ : mS) : Option (Int32 × mS) :=
  fm_say_122 σ (119 : Int32)
set_option maxHeartbeats 4000000 in
set_option maxRecDepth 100000 in
theorem gm_say_102 {p : Program} {l : Launch} {e : Env} {s : State} {m : MethodId} {args : Array Value} {below : List Frame} {meth : Method} {c : Code} {D : va_G} {ca : Nat → ClassId} {α : Nat → Nat} {A : Nat → Prop} {o : Int32 × mS} (C : mC p s m args c cX12_say 6 D ca) (hr : meth.sig.returnType = some .char) (hlk : meth.locks = false) : ∀ (σ : mS) (H : Heap) (locs : List Loc) (ls : Array Slot), mM D ca α A s.heap σ H locs → lv_has ls 6 [(0, .ref (α 0))] → fm_say_102 σ = some o → mGI p l e rmX12_say s m args below meth c D ca α A o H locs 102 ls [] := by
  have hx := C.1
  have hb := C.2.1
  intro σ H locs ls hM hl h
  unfold fm_say_102 at h
  refine lv_bipush (v := (119 : Int32)) hx hb dX12_say_102 (by decide) ?_
  refine lv_istore_n (lv' := [(2, .int (119 : Int32)), (0, .ref (α 0))]) hx hb dX12_say_104 rfl hl (by decide) rfl (fun ls hl => ?_)
  refine lv_goto (tgt := 122) hx hb dX12_say_105 (by decide) ?_
  exact gm_say_122 C hr hlk  _ _ _ _ _ hM (lv_sub hl [1, 0] rfl) h
def fm_say_79 (σ : mS) (x1 : Int32) (x2 : Int32) (x3 : Int32) (s0 : Int32) : Option (Int32 × mS) :=
  if x1 = 0 then
    fm_say_122 σ (63 : Int32)
  else
    if x3 = (-1 : Int32) then
      fm_say_102 σ
    else
      if s0 = (-1 : Int32) then
        fm_say_102 σ
      else
        (fm_canDo σ x1 x3 s0).bind fun r_1 =>
        if r_1.1 = 0 then
          fm_say_122 r_1.2 (110 : Int32)
        else
          fm_say_122 r_1.2 x2
set_option maxHeartbeats 4000000 in
set_option maxRecDepth 100000 in
theorem gm_say_79 {p : Program} {l : Launch} {e : Env} {s : State} {m : MethodId} {args : Array Value} {below : List Frame} {meth : Method} {c : Code} {D : va_G} {ca : Nat → ClassId} {α : Nat → Nat} {A : Nat → Prop} {o : Int32 × mS} (C : mC p s m args c cX12_say 6 D ca) (hr : meth.sig.returnType = some .char) (hlk : meth.locks = false) : ∀ (σ : mS) (x1 : Int32) (x2 : Int32) (x3 : Int32) (s0 : Int32) (H : Heap) (locs : List Loc) (ls : Array Slot), mM D ca α A s.heap σ H locs → lv_has ls 6 [(0, .ref (α 0)), (1, .int x1), (2, .int x2), (3, .int x3)] → fm_say_79 σ x1 x2 x3 s0 = some o → mGI p l e rmX12_say s m args below meth c D ca α A o H locs 79 ls [.int s0] := by
  have hx := C.1
  have hb := C.2.1
  intro σ x1 x2 x3 s0 H locs ls hM hl h
  unfold fm_say_79 at h
  refine lv_istore (lv' := [(4, .int s0), (0, .ref (α 0)), (1, .int x1), (2, .int x2), (3, .int x3)]) hx hb dX12_say_79 hl (by decide) rfl (fun ls hl => ?_)
  refine lv_iload_n hx hb dX12_say_81 rfl (lv_at hl 2 rfl) ?_
  refine lv_if_ne (tgt := 91) hx hb dX12_say_82 (by decide) (fun c_1 => ?_) (fun c_1 => ?_)
  · have h := br_F c_1 h
    refine lv_iload_n hx hb dX12_say_91 rfl (lv_at hl 4 rfl) ?_
    refine lv_iconst (v := (-1 : Int32)) hx hb dX12_say_92 (by decide) ?_
    refine lv_icmp_eq (tgt := 102) hx hb dX12_say_93 (by decide) (fun c_2 => ?_) (fun c_2 => ?_)
    · have h := br_T c_2 h
      exact gm_say_102 C hr hlk  _ _ _ _ hM (lv_sub hl [1] rfl) h
    · have h := br_F c_2 h
      refine lv_iload hx hb dX12_say_96 (lv_at hl 0 rfl) ?_
      refine lv_iconst (v := (-1 : Int32)) hx hb dX12_say_98 (by decide) ?_
      refine lv_icmp_ne (tgt := 108) hx hb dX12_say_99 (by decide) (fun c_3 => ?_) (fun c_3 => ?_)
      · have h := br_F c_3 h
        refine lv_aload_n hx hb dX12_say_108 rfl (lv_at hl 1 rfl) ?_
        refine lv_iload_n hx hb dX12_say_109 rfl (lv_at hl 2 rfl) ?_
        refine lv_iload_n hx hb dX12_say_110 rfl (lv_at hl 4 rfl) ?_
        refine lv_iload hx hb dX12_say_111 (lv_at hl 0 rfl) ?_
        obtain ⟨r_1, hr_1, h⟩ := bd_of h
        refine m_cVi (As := [.int x1, .int x3, .int s0]) (rest := []) C hM (cm_canDo l D ca α A σ x1 x3 s0 r_1 hr_1) mwy_canDo ⟨rfl, rfl⟩ ⟨Nat.le_of_ble_eq_true rfl, Nat.le_of_ble_eq_true rfl⟩ rfl rfl (Nat.le_of_ble_eq_true rfl) hl.1 dX12_say_113 ⟨rfl, rfl⟩ (fun H locs hM => ?_)
        refine lv_if_ne (tgt := 122) hx hb dX12_say_116 (by decide) (fun c_4 => ?_) (fun c_4 => ?_)
        · have h := br_F c_4 h
          exact gm_say_122 C hr hlk  _ _ _ _ _ hM (lv_sub hl [1, 3] rfl) h
        · have h := br_T c_4 h
          refine lv_bipush (v := (110 : Int32)) hx hb dX12_say_119 (by decide) ?_
          refine lv_istore_n (lv' := [(2, .int (110 : Int32)), (4, .int s0), (0, .ref (α 0)), (1, .int x1), (3, .int x3)]) hx hb dX12_say_121 rfl hl (by decide) rfl (fun ls hl => ?_)
          exact gm_say_122 C hr hlk  _ _ _ _ _ hM (lv_sub hl [2, 0] rfl) h
      · have h := br_T c_3 h
        exact gm_say_102 C hr hlk  _ _ _ _ hM (lv_sub hl [1] rfl) h
  · have h := br_T c_1 h
    refine lv_bipush (v := (63 : Int32)) hx hb dX12_say_85 (by decide) ?_
    refine lv_istore_n (lv' := [(2, .int (63 : Int32)), (4, .int s0), (0, .ref (α 0)), (1, .int x1), (3, .int x3)]) hx hb dX12_say_87 rfl hl (by decide) rfl (fun ls hl => ?_)
    refine lv_goto (tgt := 122) hx hb dX12_say_88 (by decide) ?_
    exact gm_say_122 C hr hlk  _ _ _ _ _ hM (lv_sub hl [2, 0] rfl) h
def fm_say_63 (σ : mS) (x1 : Int32) (x2 : Int32) (s0 : Int32) : Option (Int32 × mS) :=
  if x1 = (9 : Int32) then
    (fm_thingAt σ (3 : Int32)).bind fun r_1 =>
    fm_say_79 r_1.2 x1 x2 s0 r_1.1
  else
    fm_say_79 σ x1 x2 s0 (0 : Int32)
set_option maxHeartbeats 4000000 in
set_option maxRecDepth 100000 in
theorem gm_say_63 {p : Program} {l : Launch} {e : Env} {s : State} {m : MethodId} {args : Array Value} {below : List Frame} {meth : Method} {c : Code} {D : va_G} {ca : Nat → ClassId} {α : Nat → Nat} {A : Nat → Prop} {o : Int32 × mS} (C : mC p s m args c cX12_say 6 D ca) (hr : meth.sig.returnType = some .char) (hlk : meth.locks = false) : ∀ (σ : mS) (x1 : Int32) (x2 : Int32) (s0 : Int32) (H : Heap) (locs : List Loc) (ls : Array Slot), mM D ca α A s.heap σ H locs → lv_has ls 6 [(0, .ref (α 0)), (1, .int x1), (2, .int x2)] → fm_say_63 σ x1 x2 s0 = some o → mGI p l e rmX12_say s m args below meth c D ca α A o H locs 63 ls [.int s0] := by
  have hx := C.1
  have hb := C.2.1
  intro σ x1 x2 s0 H locs ls hM hl h
  unfold fm_say_63 at h
  refine lv_istore_n (lv' := [(3, .int s0), (0, .ref (α 0)), (1, .int x1), (2, .int x2)]) hx hb dX12_say_63 rfl hl (by decide) rfl (fun ls hl => ?_)
  refine lv_iload_n hx hb dX12_say_64 rfl (lv_at hl 2 rfl) ?_
  refine lv_bipush (v := (9 : Int32)) hx hb dX12_say_65 (by decide) ?_
  refine lv_icmp_ne (tgt := 78) hx hb dX12_say_67 (by decide) (fun c_1 => ?_) (fun c_1 => ?_)
  · have h := br_F c_1 h
    refine lv_iconst (v := (0 : Int32)) hx hb dX12_say_78 (by decide) ?_
    exact gm_say_79 C hr hlk  _ _ _ _ _ _ _ _ hM (lv_sub hl [1, 2, 3, 0] rfl) h
  · have h := br_T c_1 h
    refine lv_aload_n hx hb dX12_say_70 rfl (lv_at hl 1 rfl) ?_
    refine lv_iconst (v := (3 : Int32)) hx hb dX12_say_71 (by decide) ?_
    obtain ⟨r_1, hr_1, h⟩ := bd_of h
    refine m_cVi (As := [.int (3 : Int32)]) (rest := []) C hM (cm_thingAt l D ca α A σ (3 : Int32) r_1 hr_1) mwy_thingAt ⟨rfl, rfl⟩ ⟨Nat.le_of_ble_eq_true rfl, Nat.le_of_ble_eq_true rfl⟩ rfl rfl (Nat.le_of_ble_eq_true rfl) hl.1 dX12_say_72 ⟨rfl, rfl⟩ (fun H locs hM => ?_)
    refine lv_goto (tgt := 79) hx hb dX12_say_75 (by decide) ?_
    exact gm_say_79 C hr hlk  _ _ _ _ _ _ _ _ hM (lv_sub hl [1, 2, 3, 0] rfl) h
def fm_say_54 (σ : mS) (x1 : Int32) (x2 : Int32) : Option (Int32 × mS) :=
  (fm_thingAt σ (1 : Int32)).bind fun r_1 =>
  fm_say_63 r_1.2 x1 x2 r_1.1
set_option maxHeartbeats 4000000 in
set_option maxRecDepth 100000 in
theorem gm_say_54 {p : Program} {l : Launch} {e : Env} {s : State} {m : MethodId} {args : Array Value} {below : List Frame} {meth : Method} {c : Code} {D : va_G} {ca : Nat → ClassId} {α : Nat → Nat} {A : Nat → Prop} {o : Int32 × mS} (C : mC p s m args c cX12_say 6 D ca) (hr : meth.sig.returnType = some .char) (hlk : meth.locks = false) : ∀ (σ : mS) (x1 : Int32) (x2 : Int32) (H : Heap) (locs : List Loc) (ls : Array Slot), mM D ca α A s.heap σ H locs → lv_has ls 6 [(0, .ref (α 0)), (1, .int x1), (2, .int x2)] → fm_say_54 σ x1 x2 = some o → mGI p l e rmX12_say s m args below meth c D ca α A o H locs 54 ls [] := by
  have hx := C.1
  have hb := C.2.1
  intro σ x1 x2 H locs ls hM hl h
  unfold fm_say_54 at h
  refine lv_aload_n hx hb dX12_say_54 rfl (lv_at hl 0 rfl) ?_
  refine lv_iconst (v := (1 : Int32)) hx hb dX12_say_55 (by decide) ?_
  obtain ⟨r_1, hr_1, h⟩ := bd_of h
  refine m_cVi (As := [.int (1 : Int32)]) (rest := []) C hM (cm_thingAt l D ca α A σ (1 : Int32) r_1 hr_1) mwy_thingAt ⟨rfl, rfl⟩ ⟨Nat.le_of_ble_eq_true rfl, Nat.le_of_ble_eq_true rfl⟩ rfl rfl (Nat.le_of_ble_eq_true rfl) hl.1 dX12_say_56 ⟨rfl, rfl⟩ (fun H locs hM => ?_)
  refine lv_goto (tgt := 63) hx hb dX12_say_59 (by decide) ?_
  exact gm_say_63 C hr hlk  _ _ _ _ _ _ _ hM (lv_sub hl [0, 1, 2] rfl) h
def fm_say_62 (σ : mS) (x1 : Int32) (x2 : Int32) : Option (Int32 × mS) :=
  fm_say_63 σ x1 x2 (0 : Int32)
set_option maxHeartbeats 4000000 in
set_option maxRecDepth 100000 in
theorem gm_say_62 {p : Program} {l : Launch} {e : Env} {s : State} {m : MethodId} {args : Array Value} {below : List Frame} {meth : Method} {c : Code} {D : va_G} {ca : Nat → ClassId} {α : Nat → Nat} {A : Nat → Prop} {o : Int32 × mS} (C : mC p s m args c cX12_say 6 D ca) (hr : meth.sig.returnType = some .char) (hlk : meth.locks = false) : ∀ (σ : mS) (x1 : Int32) (x2 : Int32) (H : Heap) (locs : List Loc) (ls : Array Slot), mM D ca α A s.heap σ H locs → lv_has ls 6 [(0, .ref (α 0)), (1, .int x1), (2, .int x2)] → fm_say_62 σ x1 x2 = some o → mGI p l e rmX12_say s m args below meth c D ca α A o H locs 62 ls [] := by
  have hx := C.1
  have hb := C.2.1
  intro σ x1 x2 H locs ls hM hl h
  unfold fm_say_62 at h
  refine lv_iconst (v := (0 : Int32)) hx hb dX12_say_62 (by decide) ?_
  exact gm_say_63 C hr hlk  _ _ _ _ _ _ _ hM (lv_sub hl [0, 1, 2] rfl) h
def fm_say_13 (σ : mS) (s0 : Int32) : Option (Int32 × mS) :=
  (fm_isWrong σ s0).bind fun r_1 =>
  if r_1.1 = 0 then
    (fm_verb r_1.2).bind fun r_2 =>
    (fm_takesUp r_2.2 (r_2.2.1 34)).bind fun r_3 =>
    if r_2.1 = (9 : Int32) then
      fm_say_54 r_3 r_2.1 (111 : Int32)
    else
      if r_2.1 ≤ (1 : Int32) then
        fm_say_62 r_3 r_2.1 (111 : Int32)
      else
        if (9 : Int32) ≤ r_2.1 then
          fm_say_62 r_3 r_2.1 (111 : Int32)
        else
          fm_say_54 r_3 r_2.1 (111 : Int32)
  else
    if (0 : Int32).toUInt32.toUInt16.toUInt32.toInt32 = (0 : Int32) then some ((0 : Int32), r_1.2) else none
set_option maxHeartbeats 4000000 in
set_option maxRecDepth 100000 in
theorem gm_say_13 {p : Program} {l : Launch} {e : Env} {s : State} {m : MethodId} {args : Array Value} {below : List Frame} {meth : Method} {c : Code} {D : va_G} {ca : Nat → ClassId} {α : Nat → Nat} {A : Nat → Prop} {o : Int32 × mS} (C : mC p s m args c cX12_say 6 D ca) (hr : meth.sig.returnType = some .char) (hlk : meth.locks = false) : ∀ (σ : mS) (s0 : Int32) (H : Heap) (locs : List Loc) (ls : Array Slot), mM D ca α A s.heap σ H locs → lv_has ls 6 [(0, .ref (α 0))] → fm_say_13 σ s0 = some o → mGI p l e rmX12_say s m args below meth c D ca α A o H locs 13 ls [.int s0, .ref (α 0)] := by
  have hx := C.1
  have hb := C.2.1
  intro σ s0 H locs ls hM hl h
  unfold fm_say_13 at h
  obtain ⟨r_1, hr_1, h⟩ := bd_of h
  refine m_cVi (As := [.int s0]) (rest := []) C hM (cm_isWrong l D ca α A σ s0 r_1 hr_1) mwy_isWrong ⟨rfl, rfl⟩ ⟨Nat.le_of_ble_eq_true rfl, Nat.le_of_ble_eq_true rfl⟩ rfl rfl (Nat.le_of_ble_eq_true rfl) hl.1 dX12_say_13 ⟨rfl, rfl⟩ (fun H locs hM => ?_)
  refine lv_if_eq (tgt := 21) hx hb dX12_say_16 (by decide) (fun c_1 => ?_) (fun c_1 => ?_)
  · have h := br_T c_1 h
    refine lv_aload_n hx hb dX12_say_21 rfl (lv_at hl 0 rfl) ?_
    obtain ⟨r_2, hr_2, h⟩ := bd_of h
    refine m_cVi (As := []) (rest := []) C hM (cm_verb l D ca α A r_1.2  r_2 hr_2) mwy_verb ⟨rfl, rfl⟩ ⟨Nat.le_of_ble_eq_true rfl, Nat.le_of_ble_eq_true rfl⟩ rfl rfl (Nat.le_of_ble_eq_true rfl) hl.1 dX12_say_22 ⟨rfl, rfl⟩ (fun H locs hM => ?_)
    refine lv_istore_n (lv' := [(1, .int r_2.1), (0, .ref (α 0))]) hx hb dX12_say_25 rfl hl (by decide) rfl (fun ls hl => ?_)
    refine lv_bipush (v := (111 : Int32)) hx hb dX12_say_26 (by decide) ?_
    refine lv_istore_n (lv' := [(2, .int (111 : Int32)), (1, .int r_2.1), (0, .ref (α 0))]) hx hb dX12_say_28 rfl hl (by decide) rfl (fun ls hl => ?_)
    refine lv_aload_n hx hb dX12_say_29 rfl (lv_at hl 2 rfl) ?_
    refine lv_aload_n hx hb dX12_say_30 rfl (lv_at hl 2 rfl) ?_
    refine m_geti C hM (k := 34) (Or.inl rfl) rfl dX12_say_31 ?_
    obtain ⟨r_3, hr_3, h⟩ := bd_of h
    refine m_cVv (As := [.int (r_2.2.1 34)]) (rest := []) C hM (cm_takesUp l D ca α A r_2.2 (r_2.2.1 34) r_3 hr_3) mwy_takesUp ⟨rfl, rfl⟩ ⟨Nat.le_of_ble_eq_true rfl, Nat.le_of_ble_eq_true rfl⟩ rfl rfl (Nat.le_of_ble_eq_true rfl) hl.1 dX12_say_34 ⟨rfl, rfl⟩ (fun H locs hM => ?_)
    refine lv_iload_n hx hb dX12_say_37 rfl (lv_at hl 1 rfl) ?_
    refine lv_bipush (v := (9 : Int32)) hx hb dX12_say_38 (by decide) ?_
    refine lv_icmp_eq (tgt := 54) hx hb dX12_say_40 (by decide) (fun c_2 => ?_) (fun c_2 => ?_)
    · have h := br_T c_2 h
      exact gm_say_54 C hr hlk  _ _ _ _ _ _ hM (lv_sub hl [2, 1, 0] rfl) h
    · have h := br_F c_2 h
      refine lv_iload_n hx hb dX12_say_43 rfl (lv_at hl 1 rfl) ?_
      refine lv_iconst (v := (1 : Int32)) hx hb dX12_say_44 (by decide) ?_
      refine lv_icmp_le (tgt := 62) hx hb dX12_say_45 (by decide) (fun c_3 => ?_) (fun c_3 => ?_)
      · have h := br_T c_3 h
        exact gm_say_62 C hr hlk  _ _ _ _ _ _ hM (lv_sub hl [2, 1, 0] rfl) h
      · have h := br_F c_3 h
        refine lv_iload_n hx hb dX12_say_48 rfl (lv_at hl 1 rfl) ?_
        refine lv_bipush (v := (9 : Int32)) hx hb dX12_say_49 (by decide) ?_
        refine lv_icmp_ge (tgt := 62) hx hb dX12_say_51 (by decide) (fun c_4 => ?_) (fun c_4 => ?_)
        · have h := br_T c_4 h
          exact gm_say_62 C hr hlk  _ _ _ _ _ _ hM (lv_sub hl [2, 1, 0] rfl) h
        · have h := br_F c_4 h
          exact gm_say_54 C hr hlk  _ _ _ _ _ _ hM (lv_sub hl [2, 1, 0] rfl) h
  · have h := br_F c_1 h
    refine lv_iconst (v := (0 : Int32)) hx hb dX12_say_19 (by decide) ?_
    exact m_rc C hM hr hlk dX12_say_20 h
def fm_say (σ : mS) : Option (Int32 × mS) :=
  if (σ.1 20) = 0 then
    fm_say_13 σ (1 : Int32)
  else
    fm_say_13 σ (0 : Int32)
set_option maxHeartbeats 4000000 in
set_option maxRecDepth 100000 in
theorem cm_say (l : Launch) (D : va_G) (ca : Nat → ClassId) (α : Nat → Nat) (A : Nat → Prop) (σ : mS) (o : Int32 × mS) (h : fm_say σ  = some o) : mMetI l yX12_say cX12_say 6 (some .char) rmX12_say D ca α A σ [] o := by
  refine Met.ofW (cc := cX12_say) (maxL := 6) (ret := some .char) (by decide) rfl ?_
  intro p e s m args below meth c s₁ B hml hv
  obtain ⟨rfl, hP, hK, hD0⟩ := hv
  have C : mC p s m _ c cX12_say 6 D ca := ⟨B.exec, B.bytes, hml, findClass_of_methodNamed B.named, fun w hw => atoms_spec (ws := mWs yX12_say cX12_say 6 (some .char)) B.pre w (List.mem_cons_of_mem _ hw), hK⟩
  have hM : mM D ca α A s.heap σ s.heap [] := ⟨hP, hD0, va_S.rf⟩
  have hr := B.returns
  have hlk := B.notSynchronized
  have hx := C.1
  have hb := C.2.1
  have hl := lv_entry ([.ref (α 0)]) (n := 6) (Nat.le_of_ble_eq_true rfl)
  rw [lg_entry_eq]
  generalize (lg_sl ([.ref (α 0)]) ++ List.replicate (6 - (lg_sl ([.ref (α 0)])).length) Slot.unset).toArray = ls at hl ⊢
  have hl : lv_has ls 6 [(0, .ref (α 0))] := hl
  unfold fm_say at h
  refine lv_aload_n hx hb dX12_say_0 rfl (lv_at hl 0 rfl) ?_
  refine lv_aload_n hx hb dX12_say_1 rfl (lv_at hl 0 rfl) ?_
  refine m_geti C hM (k := 20) (Or.inr rfl) rfl dX12_say_2 ?_
  refine lv_if_eq (tgt := 12) hx hb dX12_say_5 (by decide) (fun c_1 => ?_) (fun c_1 => ?_)
  · have h := br_T c_1 h
    refine lv_iconst (v := (1 : Int32)) hx hb dX12_say_12 (by decide) ?_
    exact gm_say_13 C hr hlk  _ _ _ _ _ hM (lv_sub hl [0] rfl) h
  · have h := br_F c_1 h
    refine lv_iconst (v := (0 : Int32)) hx hb dX12_say_8 (by decide) ?_
    refine lv_goto (tgt := 13) hx hb dX12_say_9 (by decide) ?_
    exact gm_say_13 C hr hlk  _ _ _ _ _ hM (lv_sub hl [0] rfl) h
/-! isNotBegun()Z -/
abbrev rmX12_isNotBegun : Room := { frames := 1, cells := 0, slots := 0, locals := 21 }
def fm_isNotBegun_13 (σ : mS) (s0 : Int32) : Option (Int32 × mS) :=
  (fm_isWrong σ s0).bind fun r_1 =>
  if r_1.1 &&& 1 = r_1.1 then some (r_1.1, r_1.2) else none
set_option maxHeartbeats 4000000 in
set_option maxRecDepth 100000 in
theorem gm_isNotBegun_13 {p : Program} {l : Launch} {e : Env} {s : State} {m : MethodId} {args : Array Value} {below : List Frame} {meth : Method} {c : Code} {D : va_G} {ca : Nat → ClassId} {α : Nat → Nat} {A : Nat → Prop} {o : Int32 × mS} (C : mC p s m args c cX12_isNotBegun 1 D ca) (hr : meth.sig.returnType = some .boolean) (hlk : meth.locks = false) : ∀ (σ : mS) (s0 : Int32) (H : Heap) (locs : List Loc) (ls : Array Slot), mM D ca α A s.heap σ H locs → lv_has ls 1 [(0, .ref (α 0))] → fm_isNotBegun_13 σ s0 = some o → mGI p l e rmX12_isNotBegun s m args below meth c D ca α A o H locs 13 ls [.int s0, .ref (α 0)] := by
  have hx := C.1
  have hb := C.2.1
  intro σ s0 H locs ls hM hl h
  unfold fm_isNotBegun_13 at h
  obtain ⟨r_1, hr_1, h⟩ := bd_of h
  refine m_cVi (As := [.int s0]) (rest := []) C hM (cm_isWrong l D ca α A σ s0 r_1 hr_1) mwy_isWrong ⟨rfl, rfl⟩ ⟨Nat.le_of_ble_eq_true rfl, Nat.le_of_ble_eq_true rfl⟩ rfl rfl (Nat.le_of_ble_eq_true rfl) hl.1 dX12_isNotBegun_13 ⟨rfl, rfl⟩ (fun H locs hM => ?_)
  exact m_rz C hM hr hlk dX12_isNotBegun_16 h
def fm_isNotBegun (σ : mS) : Option (Int32 × mS) :=
  if (σ.1 20) = 0 then
    fm_isNotBegun_13 σ (1 : Int32)
  else
    fm_isNotBegun_13 σ (0 : Int32)
set_option maxHeartbeats 4000000 in
set_option maxRecDepth 100000 in
theorem cm_isNotBegun (l : Launch) (D : va_G) (ca : Nat → ClassId) (α : Nat → Nat) (A : Nat → Prop) (σ : mS) (o : Int32 × mS) (h : fm_isNotBegun σ  = some o) : mMetI l yX12_isNotBegun cX12_isNotBegun 1 (some .boolean) rmX12_isNotBegun D ca α A σ [] o := by
  refine Met.ofW (cc := cX12_isNotBegun) (maxL := 1) (ret := some .boolean) (by decide) rfl ?_
  intro p e s m args below meth c s₁ B hml hv
  obtain ⟨rfl, hP, hK, hD0⟩ := hv
  have C : mC p s m _ c cX12_isNotBegun 1 D ca := ⟨B.exec, B.bytes, hml, findClass_of_methodNamed B.named, fun w hw => atoms_spec (ws := mWs yX12_isNotBegun cX12_isNotBegun 1 (some .boolean)) B.pre w (List.mem_cons_of_mem _ hw), hK⟩
  have hM : mM D ca α A s.heap σ s.heap [] := ⟨hP, hD0, va_S.rf⟩
  have hr := B.returns
  have hlk := B.notSynchronized
  have hx := C.1
  have hb := C.2.1
  have hl := lv_entry ([.ref (α 0)]) (n := 1) (Nat.le_of_ble_eq_true rfl)
  rw [lg_entry_eq]
  generalize (lg_sl ([.ref (α 0)]) ++ List.replicate (1 - (lg_sl ([.ref (α 0)])).length) Slot.unset).toArray = ls at hl ⊢
  have hl : lv_has ls 1 [(0, .ref (α 0))] := hl
  unfold fm_isNotBegun at h
  refine lv_aload_n hx hb dX12_isNotBegun_0 rfl (lv_at hl 0 rfl) ?_
  refine lv_aload_n hx hb dX12_isNotBegun_1 rfl (lv_at hl 0 rfl) ?_
  refine m_geti C hM (k := 20) (Or.inr rfl) rfl dX12_isNotBegun_2 ?_
  refine lv_if_eq (tgt := 12) hx hb dX12_isNotBegun_5 (by decide) (fun c_1 => ?_) (fun c_1 => ?_)
  · have h := br_T c_1 h
    refine lv_iconst (v := (1 : Int32)) hx hb dX12_isNotBegun_12 (by decide) ?_
    exact gm_isNotBegun_13 C hr hlk  _ _ _ _ _ hM (lv_sub hl [0] rfl) h
  · have h := br_F c_1 h
    refine lv_iconst (v := (0 : Int32)) hx hb dX12_isNotBegun_8 (by decide) ?_
    refine lv_goto (tgt := 13) hx hb dX12_isNotBegun_9 (by decide) ?_
    exact gm_isNotBegun_13 C hr hlk  _ _ _ _ _ hM (lv_sub hl [0] rfl) h
theorem mwy_isNotBegun : mCallV RX12 284 yX12_isNotBegun cX12_isNotBegun 1 (some .boolean) 0 := ⟨⟨wl_in (i := 2193) (by decide +kernel), wl_in (i := 2195) (by decide +kernel), wl_inp (i := 54) (by decide +kernel), wl_in (i := 16) (by decide +kernel), wl_in (i := 2196) (by decide +kernel)⟩, rfl, by decide, by decide, by decide +kernel⟩
/-! isNoThing(IZ)Z -/
abbrev rmX12_isNoThing : Room := { frames := 2, cells := 0, slots := 0, locals := 43 }
def fm_isNoThing_33 (σ : mS) (s0 : Int32) : Option (Int32 × mS) :=
  (fm_isWrong σ s0).bind fun r_1 =>
  if r_1.1 &&& 1 = r_1.1 then some (r_1.1, r_1.2) else none
set_option maxHeartbeats 4000000 in
set_option maxRecDepth 100000 in
theorem gm_isNoThing_33 {p : Program} {l : Launch} {e : Env} {s : State} {m : MethodId} {args : Array Value} {below : List Frame} {meth : Method} {c : Code} {D : va_G} {ca : Nat → ClassId} {α : Nat → Nat} {A : Nat → Prop} {o : Int32 × mS} (C : mC p s m args c cX12_isNoThing 3 D ca) (hr : meth.sig.returnType = some .boolean) (hlk : meth.locks = false) : ∀ (σ : mS) (s0 : Int32) (H : Heap) (locs : List Loc) (ls : Array Slot), mM D ca α A s.heap σ H locs → lv_has ls 3 [(0, .ref (α 0))] → fm_isNoThing_33 σ s0 = some o → mGI p l e rmX12_isNoThing s m args below meth c D ca α A o H locs 33 ls [.int s0, .ref (α 0)] := by
  have hx := C.1
  have hb := C.2.1
  intro σ s0 H locs ls hM hl h
  unfold fm_isNoThing_33 at h
  obtain ⟨r_1, hr_1, h⟩ := bd_of h
  refine m_cVi (As := [.int s0]) (rest := []) C hM (cm_isWrong l D ca α A σ s0 r_1 hr_1) mwy_isWrong ⟨rfl, rfl⟩ ⟨Nat.le_of_ble_eq_true rfl, Nat.le_of_ble_eq_true rfl⟩ rfl rfl (Nat.le_of_ble_eq_true rfl) hl.1 dX12_isNoThing_33 ⟨rfl, rfl⟩ (fun H locs hM => ?_)
  exact m_rz C hM hr hlk dX12_isNoThing_36 h
def fm_isNoThing (σ : mS) (x1 : Int32) (x2 : Int32) : Option (Int32 × mS) :=
  (fm_isThing σ x1).bind fun r_1 =>
  if r_1.1 = 0 then
    fm_isNoThing_33 r_1.2 (1 : Int32)
  else
    if (r_1.2.1 20) = 0 then
      fm_isNoThing_33 r_1.2 (2 : Int32)
    else
      if x2 = 0 then
        fm_isNoThing_33 r_1.2 (3 : Int32)
      else
        fm_isNoThing_33 r_1.2 (0 : Int32)
set_option maxHeartbeats 4000000 in
set_option maxRecDepth 100000 in
theorem cm_isNoThing (l : Launch) (D : va_G) (ca : Nat → ClassId) (α : Nat → Nat) (A : Nat → Prop) (σ : mS) (x1 : Int32) (x2 : Int32) (o : Int32 × mS) (h : fm_isNoThing σ x1 x2 = some o) : mMetI l yX12_isNoThing cX12_isNoThing 3 (some .boolean) rmX12_isNoThing D ca α A σ [.int x1, .int x2] o := by
  refine Met.ofW (cc := cX12_isNoThing) (maxL := 3) (ret := some .boolean) (by decide) rfl ?_
  intro p e s m args below meth c s₁ B hml hv
  obtain ⟨rfl, hP, hK, hD0⟩ := hv
  have C : mC p s m _ c cX12_isNoThing 3 D ca := ⟨B.exec, B.bytes, hml, findClass_of_methodNamed B.named, fun w hw => atoms_spec (ws := mWs yX12_isNoThing cX12_isNoThing 3 (some .boolean)) B.pre w (List.mem_cons_of_mem _ hw), hK⟩
  have hM : mM D ca α A s.heap σ s.heap [] := ⟨hP, hD0, va_S.rf⟩
  have hr := B.returns
  have hlk := B.notSynchronized
  have hx := C.1
  have hb := C.2.1
  have hl := lv_entry ([.ref (α 0), .int x1, .int x2]) (n := 3) (Nat.le_of_ble_eq_true rfl)
  rw [lg_entry_eq]
  generalize (lg_sl ([.ref (α 0), .int x1, .int x2]) ++ List.replicate (3 - (lg_sl ([.ref (α 0), .int x1, .int x2])).length) Slot.unset).toArray = ls at hl ⊢
  have hl : lv_has ls 3 [(0, .ref (α 0)), (1, .int x1), (2, .int x2)] := hl
  unfold fm_isNoThing at h
  refine lv_aload_n hx hb dX12_isNoThing_0 rfl (lv_at hl 0 rfl) ?_
  refine lv_aload_n hx hb dX12_isNoThing_1 rfl (lv_at hl 0 rfl) ?_
  refine lv_iload_n hx hb dX12_isNoThing_2 rfl (lv_at hl 1 rfl) ?_
  obtain ⟨r_1, hr_1, h⟩ := bd_of h
  refine m_cVi (As := [.int x1]) (rest := [.ref (α 0)]) C hM (cm_isThing l D ca α A σ x1 r_1 hr_1) mwy_isThing ⟨rfl, rfl⟩ ⟨Nat.le_of_ble_eq_true rfl, Nat.le_of_ble_eq_true rfl⟩ rfl rfl (Nat.le_of_ble_eq_true rfl) hl.1 dX12_isNoThing_3 ⟨rfl, rfl⟩ (fun H locs hM => ?_)
  refine lv_if_ne (tgt := 13) hx hb dX12_isNoThing_6 (by decide) (fun c_1 => ?_) (fun c_1 => ?_)
  · have h := br_F c_1 h
    refine lv_aload_n hx hb dX12_isNoThing_13 rfl (lv_at hl 0 rfl) ?_
    refine m_geti C hM (k := 20) (Or.inr rfl) rfl dX12_isNoThing_14 ?_
    refine lv_if_ne (tgt := 24) hx hb dX12_isNoThing_17 (by decide) (fun c_2 => ?_) (fun c_2 => ?_)
    · have h := br_F c_2 h
      refine lv_iload_n hx hb dX12_isNoThing_24 rfl (lv_at hl 2 rfl) ?_
      refine lv_if_ne (tgt := 32) hx hb dX12_isNoThing_25 (by decide) (fun c_3 => ?_) (fun c_3 => ?_)
      · have h := br_F c_3 h
        refine lv_iconst (v := (0 : Int32)) hx hb dX12_isNoThing_32 (by decide) ?_
        exact gm_isNoThing_33 C hr hlk  _ _ _ _ _ hM (lv_sub hl [0] rfl) h
      · have h := br_T c_3 h
        refine lv_iconst (v := (3 : Int32)) hx hb dX12_isNoThing_28 (by decide) ?_
        refine lv_goto (tgt := 33) hx hb dX12_isNoThing_29 (by decide) ?_
        exact gm_isNoThing_33 C hr hlk  _ _ _ _ _ hM (lv_sub hl [0] rfl) h
    · have h := br_T c_2 h
      refine lv_iconst (v := (2 : Int32)) hx hb dX12_isNoThing_20 (by decide) ?_
      refine lv_goto (tgt := 33) hx hb dX12_isNoThing_21 (by decide) ?_
      exact gm_isNoThing_33 C hr hlk  _ _ _ _ _ hM (lv_sub hl [0] rfl) h
  · have h := br_T c_1 h
    refine lv_iconst (v := (1 : Int32)) hx hb dX12_isNoThing_9 (by decide) ?_
    refine lv_goto (tgt := 33) hx hb dX12_isNoThing_10 (by decide) ?_
    exact gm_isNoThing_33 C hr hlk  _ _ _ _ _ hM (lv_sub hl [0] rfl) h
theorem mwy_isNoThing : mCallV RX12 287 yX12_isNoThing cX12_isNoThing 3 (some .boolean) 2 := ⟨⟨wl_in (i := 2201) (by decide +kernel), wl_in (i := 2203) (by decide +kernel), wl_inp (i := 55) (by decide +kernel), wl_in (i := 16) (by decide +kernel), wl_in (i := 2204) (by decide +kernel)⟩, rfl, by decide, by decide, by decide +kernel⟩
/-! at()I -/
abbrev rmX12_at : Room := { frames := 2, cells := 0, slots := 0, locals := 41 }
def fm_at_20 (σ : mS) (s0 : Int32) : Option (Int32 × mS) :=
  some (s0, σ)
set_option maxHeartbeats 4000000 in
set_option maxRecDepth 100000 in
theorem gm_at_20 {p : Program} {l : Launch} {e : Env} {s : State} {m : MethodId} {args : Array Value} {below : List Frame} {meth : Method} {c : Code} {D : va_G} {ca : Nat → ClassId} {α : Nat → Nat} {A : Nat → Prop} {o : Int32 × mS} (C : mC p s m args c cX12_at 1 D ca) (hr : meth.sig.returnType = some .int) (hlk : meth.locks = false) : ∀ (σ : mS) (s0 : Int32) (H : Heap) (locs : List Loc) (ls : Array Slot), mM D ca α A s.heap σ H locs → lv_has ls 1 [(0, .ref (α 0))] → fm_at_20 σ s0 = some o → mGI p l e rmX12_at s m args below meth c D ca α A o H locs 20 ls [.int s0] := by
  have hx := C.1
  have hb := C.2.1
  intro σ s0 H locs ls hM hl h
  unfold fm_at_20 at h
  exact m_ri C hM hr hlk dX12_at_20 h
def fm_at (σ : mS) : Option (Int32 × mS) :=
  (fm_isNotBegun σ).bind fun r_1 =>
  if r_1.1 = 0 then
    if (r_1.2.1 34) < 0 ∨ 80 ≤ (r_1.2.1 34).toNatClampNeg then none else
    fm_at_20 r_1.2 (r_1.2.2.2.1 21 (r_1.2.1 34).toNatClampNeg)
  else
    fm_at_20 r_1.2 (0 : Int32)
set_option maxHeartbeats 4000000 in
set_option maxRecDepth 100000 in
theorem cm_at (l : Launch) (D : va_G) (ca : Nat → ClassId) (α : Nat → Nat) (A : Nat → Prop) (σ : mS) (o : Int32 × mS) (h : fm_at σ  = some o) : mMetI l yX12_at cX12_at 1 (some .int) rmX12_at D ca α A σ [] o := by
  refine Met.ofW (cc := cX12_at) (maxL := 1) (ret := some .int) (by decide) rfl ?_
  intro p e s m args below meth c s₁ B hml hv
  obtain ⟨rfl, hP, hK, hD0⟩ := hv
  have C : mC p s m _ c cX12_at 1 D ca := ⟨B.exec, B.bytes, hml, findClass_of_methodNamed B.named, fun w hw => atoms_spec (ws := mWs yX12_at cX12_at 1 (some .int)) B.pre w (List.mem_cons_of_mem _ hw), hK⟩
  have hM : mM D ca α A s.heap σ s.heap [] := ⟨hP, hD0, va_S.rf⟩
  have hr := B.returns
  have hlk := B.notSynchronized
  have hx := C.1
  have hb := C.2.1
  have hl := lv_entry ([.ref (α 0)]) (n := 1) (Nat.le_of_ble_eq_true rfl)
  rw [lg_entry_eq]
  generalize (lg_sl ([.ref (α 0)]) ++ List.replicate (1 - (lg_sl ([.ref (α 0)])).length) Slot.unset).toArray = ls at hl ⊢
  have hl : lv_has ls 1 [(0, .ref (α 0))] := hl
  unfold fm_at at h
  refine lv_aload_n hx hb dX12_at_0 rfl (lv_at hl 0 rfl) ?_
  obtain ⟨r_1, hr_1, h⟩ := bd_of h
  refine m_cVi (As := []) (rest := []) C hM (cm_isNotBegun l D ca α A σ  r_1 hr_1) mwy_isNotBegun ⟨rfl, rfl⟩ ⟨Nat.le_of_ble_eq_true rfl, Nat.le_of_ble_eq_true rfl⟩ rfl rfl (Nat.le_of_ble_eq_true rfl) hl.1 dX12_at_1 ⟨rfl, rfl⟩ (fun H locs hM => ?_)
  refine lv_if_eq (tgt := 11) hx hb dX12_at_4 (by decide) (fun c_1 => ?_) (fun c_1 => ?_)
  · have h := br_T c_1 h
    refine lv_aload_n hx hb dX12_at_11 rfl (lv_at hl 0 rfl) ?_
    refine m_geta C hM (k := 21) (by decide) rfl dX12_at_12 ?_
    refine lv_aload_n hx hb dX12_at_15 rfl (lv_at hl 0 rfl) ?_
    refine m_geti C hM (k := 34) (Or.inl rfl) rfl dX12_at_16 ?_
    obtain ⟨c_2, h⟩ := ko_of h
    refine m_iald C hM (k := 21) rfl c_2 dX12_at_19 ?_
    exact gm_at_20 C hr hlk  _ _ _ _ _ hM (lv_sub hl [0] rfl) h
  · have h := br_F c_1 h
    refine lv_iconst (v := (0 : Int32)) hx hb dX12_at_7 (by decide) ?_
    refine lv_goto (tgt := 20) hx hb dX12_at_8 (by decide) ?_
    exact gm_at_20 C hr hlk  _ _ _ _ _ hM (lv_sub hl [0] rfl) h
/-! place(I)I -/
abbrev rmX12_place : Room := { frames := 3, cells := 0, slots := 0, locals := 65 }
def fm_place_27 (σ : mS) (s0 : Int32) : Option (Int32 × mS) :=
  some (s0, σ)
set_option maxHeartbeats 4000000 in
set_option maxRecDepth 100000 in
theorem gm_place_27 {p : Program} {l : Launch} {e : Env} {s : State} {m : MethodId} {args : Array Value} {below : List Frame} {meth : Method} {c : Code} {D : va_G} {ca : Nat → ClassId} {α : Nat → Nat} {A : Nat → Prop} {o : Int32 × mS} (C : mC p s m args c cX12_place 2 D ca) (hr : meth.sig.returnType = some .int) (hlk : meth.locks = false) : ∀ (σ : mS) (s0 : Int32) (H : Heap) (locs : List Loc) (ls : Array Slot), mM D ca α A s.heap σ H locs → lv_has ls 2 [(0, .ref (α 0))] → fm_place_27 σ s0 = some o → mGI p l e rmX12_place s m args below meth c D ca α A o H locs 27 ls [.int s0] := by
  have hx := C.1
  have hb := C.2.1
  intro σ s0 H locs ls hM hl h
  unfold fm_place_27 at h
  exact m_ri C hM hr hlk dX12_place_27 h
def fm_place (σ : mS) (x1 : Int32) : Option (Int32 × mS) :=
  (fm_isNoThing σ x1 (1 : Int32)).bind fun r_1 =>
  if r_1.1 = 0 then
    if (((12 : Int32) * (r_1.2.1 34)) + x1) < 0 ∨ 960 ≤ (((12 : Int32) * (r_1.2.1 34)) + x1).toNatClampNeg then none else
    fm_place_27 r_1.2 (r_1.2.2.2.1 22 (((12 : Int32) * (r_1.2.1 34)) + x1).toNatClampNeg)
  else
    fm_place_27 r_1.2 (0 : Int32)
set_option maxHeartbeats 4000000 in
set_option maxRecDepth 100000 in
theorem cm_place (l : Launch) (D : va_G) (ca : Nat → ClassId) (α : Nat → Nat) (A : Nat → Prop) (σ : mS) (x1 : Int32) (o : Int32 × mS) (h : fm_place σ x1 = some o) : mMetI l yX12_place cX12_place 2 (some .int) rmX12_place D ca α A σ [.int x1] o := by
  refine Met.ofW (cc := cX12_place) (maxL := 2) (ret := some .int) (by decide) rfl ?_
  intro p e s m args below meth c s₁ B hml hv
  obtain ⟨rfl, hP, hK, hD0⟩ := hv
  have C : mC p s m _ c cX12_place 2 D ca := ⟨B.exec, B.bytes, hml, findClass_of_methodNamed B.named, fun w hw => atoms_spec (ws := mWs yX12_place cX12_place 2 (some .int)) B.pre w (List.mem_cons_of_mem _ hw), hK⟩
  have hM : mM D ca α A s.heap σ s.heap [] := ⟨hP, hD0, va_S.rf⟩
  have hr := B.returns
  have hlk := B.notSynchronized
  have hx := C.1
  have hb := C.2.1
  have hl := lv_entry ([.ref (α 0), .int x1]) (n := 2) (Nat.le_of_ble_eq_true rfl)
  rw [lg_entry_eq]
  generalize (lg_sl ([.ref (α 0), .int x1]) ++ List.replicate (2 - (lg_sl ([.ref (α 0), .int x1])).length) Slot.unset).toArray = ls at hl ⊢
  have hl : lv_has ls 2 [(0, .ref (α 0)), (1, .int x1)] := hl
  unfold fm_place at h
  refine lv_aload_n hx hb dX12_place_0 rfl (lv_at hl 0 rfl) ?_
  refine lv_iload_n hx hb dX12_place_1 rfl (lv_at hl 1 rfl) ?_
  refine lv_iconst (v := (1 : Int32)) hx hb dX12_place_2 (by decide) ?_
  obtain ⟨r_1, hr_1, h⟩ := bd_of h
  refine m_cVi (As := [.int x1, .int (1 : Int32)]) (rest := []) C hM (cm_isNoThing l D ca α A σ x1 (1 : Int32) r_1 hr_1) mwy_isNoThing ⟨rfl, rfl⟩ ⟨Nat.le_of_ble_eq_true rfl, Nat.le_of_ble_eq_true rfl⟩ rfl rfl (Nat.le_of_ble_eq_true rfl) hl.1 dX12_place_3 ⟨rfl, rfl⟩ (fun H locs hM => ?_)
  refine lv_if_eq (tgt := 13) hx hb dX12_place_6 (by decide) (fun c_1 => ?_) (fun c_1 => ?_)
  · have h := br_T c_1 h
    refine lv_aload_n hx hb dX12_place_13 rfl (lv_at hl 0 rfl) ?_
    refine m_geta C hM (k := 22) (by decide) rfl dX12_place_14 ?_
    refine lv_bipush (v := (12 : Int32)) hx hb dX12_place_17 (by decide) ?_
    refine lv_aload_n hx hb dX12_place_19 rfl (lv_at hl 0 rfl) ?_
    refine m_geti C hM (k := 34) (Or.inl rfl) rfl dX12_place_20 ?_
    refine lv_imul hx hb dX12_place_23 ?_
    refine lv_iload_n hx hb dX12_place_24 rfl (lv_at hl 1 rfl) ?_
    refine lv_iadd hx hb dX12_place_25 ?_
    obtain ⟨c_2, h⟩ := ko_of h
    refine m_iald C hM (k := 22) rfl c_2 dX12_place_26 ?_
    exact gm_place_27 C hr hlk  _ _ _ _ _ hM (lv_sub hl [0] rfl) h
  · have h := br_F c_1 h
    refine lv_iconst (v := (0 : Int32)) hx hb dX12_place_9 (by decide) ?_
    refine lv_goto (tgt := 27) hx hb dX12_place_10 (by decide) ?_
    exact gm_place_27 C hr hlk  _ _ _ _ _ hM (lv_sub hl [0] rfl) h
/-! isOpen(I)Z -/
abbrev rmX12_isOpen : Room := { frames := 3, cells := 0, slots := 0, locals := 65 }
def fm_isOpen_54 (σ : mS) (s0 : Int32) : Option (Int32 × mS) :=
  if s0 &&& 1 = s0 then some (s0, σ) else none
set_option maxHeartbeats 4000000 in
set_option maxRecDepth 100000 in
theorem gm_isOpen_54 {p : Program} {l : Launch} {e : Env} {s : State} {m : MethodId} {args : Array Value} {below : List Frame} {meth : Method} {c : Code} {D : va_G} {ca : Nat → ClassId} {α : Nat → Nat} {A : Nat → Prop} {o : Int32 × mS} (C : mC p s m args c cX12_isOpen 2 D ca) (hr : meth.sig.returnType = some .boolean) (hlk : meth.locks = false) : ∀ (σ : mS) (s0 : Int32) (H : Heap) (locs : List Loc) (ls : Array Slot), mM D ca α A s.heap σ H locs → lv_has ls 2 [(0, .ref (α 0))] → fm_isOpen_54 σ s0 = some o → mGI p l e rmX12_isOpen s m args below meth c D ca α A o H locs 54 ls [.int s0] := by
  have hx := C.1
  have hb := C.2.1
  intro σ s0 H locs ls hM hl h
  unfold fm_isOpen_54 at h
  exact m_rz C hM hr hlk dX12_isOpen_54 h
def fm_isOpen_53 (σ : mS) : Option (Int32 × mS) :=
  fm_isOpen_54 σ (0 : Int32)
set_option maxHeartbeats 4000000 in
set_option maxRecDepth 100000 in
theorem gm_isOpen_53 {p : Program} {l : Launch} {e : Env} {s : State} {m : MethodId} {args : Array Value} {below : List Frame} {meth : Method} {c : Code} {D : va_G} {ca : Nat → ClassId} {α : Nat → Nat} {A : Nat → Prop} {o : Int32 × mS} (C : mC p s m args c cX12_isOpen 2 D ca) (hr : meth.sig.returnType = some .boolean) (hlk : meth.locks = false) : ∀ (σ : mS) (H : Heap) (locs : List Loc) (ls : Array Slot), mM D ca α A s.heap σ H locs → lv_has ls 2 [(0, .ref (α 0))] → fm_isOpen_53 σ = some o → mGI p l e rmX12_isOpen s m args below meth c D ca α A o H locs 53 ls [] := by
  have hx := C.1
  have hb := C.2.1
  intro σ H locs ls hM hl h
  unfold fm_isOpen_53 at h
  refine lv_iconst (v := (0 : Int32)) hx hb dX12_isOpen_53 (by decide) ?_
  exact gm_isOpen_54 C hr hlk  _ _ _ _ _ hM (lv_sub hl [0] rfl) h
def fm_isOpen_26 (σ : mS) (x1 : Int32) (s0 : Int32) (s1 : Int32) : Option (Int32 × mS) :=
  (fm_isNoThing σ s1 s0).bind fun r_1 =>
  if r_1.1 = 0 then
    if (((12 : Int32) * (r_1.2.1 34)) + x1) < 0 ∨ 960 ≤ (((12 : Int32) * (r_1.2.1 34)) + x1).toNatClampNeg then none else
    if (r_1.2.2.2.1 23 (((12 : Int32) * (r_1.2.1 34)) + x1).toNatClampNeg) = 0 then
      fm_isOpen_53 r_1.2
    else
      fm_isOpen_54 r_1.2 (1 : Int32)
  else
    fm_isOpen_53 r_1.2
set_option maxHeartbeats 4000000 in
set_option maxRecDepth 100000 in
theorem gm_isOpen_26 {p : Program} {l : Launch} {e : Env} {s : State} {m : MethodId} {args : Array Value} {below : List Frame} {meth : Method} {c : Code} {D : va_G} {ca : Nat → ClassId} {α : Nat → Nat} {A : Nat → Prop} {o : Int32 × mS} (C : mC p s m args c cX12_isOpen 2 D ca) (hr : meth.sig.returnType = some .boolean) (hlk : meth.locks = false) : ∀ (σ : mS) (x1 : Int32) (s0 : Int32) (s1 : Int32) (H : Heap) (locs : List Loc) (ls : Array Slot), mM D ca α A s.heap σ H locs → lv_has ls 2 [(0, .ref (α 0)), (1, .int x1)] → fm_isOpen_26 σ x1 s0 s1 = some o → mGI p l e rmX12_isOpen s m args below meth c D ca α A o H locs 26 ls [.int s0, .int s1, .ref (α 0)] := by
  have hx := C.1
  have hb := C.2.1
  intro σ x1 s0 s1 H locs ls hM hl h
  unfold fm_isOpen_26 at h
  obtain ⟨r_1, hr_1, h⟩ := bd_of h
  refine m_cVi (As := [.int s1, .int s0]) (rest := []) C hM (cm_isNoThing l D ca α A σ s1 s0 r_1 hr_1) mwy_isNoThing ⟨rfl, rfl⟩ ⟨Nat.le_of_ble_eq_true rfl, Nat.le_of_ble_eq_true rfl⟩ rfl rfl (Nat.le_of_ble_eq_true rfl) hl.1 dX12_isOpen_26 ⟨rfl, rfl⟩ (fun H locs hM => ?_)
  refine lv_if_ne (tgt := 53) hx hb dX12_isOpen_29 (by decide) (fun c_1 => ?_) (fun c_1 => ?_)
  · have h := br_F c_1 h
    exact gm_isOpen_53 C hr hlk  _ _ _ _ hM (lv_sub hl [0] rfl) h
  · have h := br_T c_1 h
    refine lv_aload_n hx hb dX12_isOpen_32 rfl (lv_at hl 0 rfl) ?_
    refine m_geta C hM (k := 23) (by decide) rfl dX12_isOpen_33 ?_
    refine lv_bipush (v := (12 : Int32)) hx hb dX12_isOpen_36 (by decide) ?_
    refine lv_aload_n hx hb dX12_isOpen_38 rfl (lv_at hl 0 rfl) ?_
    refine m_geti C hM (k := 34) (Or.inl rfl) rfl dX12_isOpen_39 ?_
    refine lv_imul hx hb dX12_isOpen_42 ?_
    refine lv_iload_n hx hb dX12_isOpen_43 rfl (lv_at hl 1 rfl) ?_
    refine lv_iadd hx hb dX12_isOpen_44 ?_
    obtain ⟨c_2, h⟩ := ko_of h
    refine m_zald C hM (k := 23) rfl c_2 dX12_isOpen_45 ?_
    refine lv_if_eq (tgt := 53) hx hb dX12_isOpen_46 (by decide) (fun c_3 => ?_) (fun c_3 => ?_)
    · have h := br_T c_3 h
      exact gm_isOpen_53 C hr hlk  _ _ _ _ hM (lv_sub hl [0] rfl) h
    · have h := br_F c_3 h
      refine lv_iconst (v := (1 : Int32)) hx hb dX12_isOpen_49 (by decide) ?_
      refine lv_goto (tgt := 54) hx hb dX12_isOpen_50 (by decide) ?_
      exact gm_isOpen_54 C hr hlk  _ _ _ _ _ hM (lv_sub hl [0] rfl) h
def fm_isOpen_25 (σ : mS) (x1 : Int32) (s0 : Int32) : Option (Int32 × mS) :=
  fm_isOpen_26 σ x1 (0 : Int32) s0
set_option maxHeartbeats 4000000 in
set_option maxRecDepth 100000 in
theorem gm_isOpen_25 {p : Program} {l : Launch} {e : Env} {s : State} {m : MethodId} {args : Array Value} {below : List Frame} {meth : Method} {c : Code} {D : va_G} {ca : Nat → ClassId} {α : Nat → Nat} {A : Nat → Prop} {o : Int32 × mS} (C : mC p s m args c cX12_isOpen 2 D ca) (hr : meth.sig.returnType = some .boolean) (hlk : meth.locks = false) : ∀ (σ : mS) (x1 : Int32) (s0 : Int32) (H : Heap) (locs : List Loc) (ls : Array Slot), mM D ca α A s.heap σ H locs → lv_has ls 2 [(0, .ref (α 0)), (1, .int x1)] → fm_isOpen_25 σ x1 s0 = some o → mGI p l e rmX12_isOpen s m args below meth c D ca α A o H locs 25 ls [.int s0, .ref (α 0)] := by
  have hx := C.1
  have hb := C.2.1
  intro σ x1 s0 H locs ls hM hl h
  unfold fm_isOpen_25 at h
  refine lv_iconst (v := (0 : Int32)) hx hb dX12_isOpen_25 (by decide) ?_
  exact gm_isOpen_26 C hr hlk  _ _ _ _ _ _ _ hM (lv_sub hl [0, 1] rfl) h
def fm_isOpen (σ : mS) (x1 : Int32) : Option (Int32 × mS) :=
  (fm_isThing σ x1).bind fun r_1 =>
  if r_1.1 = 0 then
    fm_isOpen_25 r_1.2 x1 x1
  else
    if x1 < 0 ∨ 12 ≤ x1.toNatClampNeg then none else
    if (r_1.2.2.2.1 13 x1.toNatClampNeg) = (98 : Int32) then
      fm_isOpen_26 r_1.2 x1 (1 : Int32) x1
    else
      fm_isOpen_25 r_1.2 x1 x1
set_option maxHeartbeats 4000000 in
set_option maxRecDepth 100000 in
theorem cm_isOpen (l : Launch) (D : va_G) (ca : Nat → ClassId) (α : Nat → Nat) (A : Nat → Prop) (σ : mS) (x1 : Int32) (o : Int32 × mS) (h : fm_isOpen σ x1 = some o) : mMetI l yX12_isOpen cX12_isOpen 2 (some .boolean) rmX12_isOpen D ca α A σ [.int x1] o := by
  refine Met.ofW (cc := cX12_isOpen) (maxL := 2) (ret := some .boolean) (by decide) rfl ?_
  intro p e s m args below meth c s₁ B hml hv
  obtain ⟨rfl, hP, hK, hD0⟩ := hv
  have C : mC p s m _ c cX12_isOpen 2 D ca := ⟨B.exec, B.bytes, hml, findClass_of_methodNamed B.named, fun w hw => atoms_spec (ws := mWs yX12_isOpen cX12_isOpen 2 (some .boolean)) B.pre w (List.mem_cons_of_mem _ hw), hK⟩
  have hM : mM D ca α A s.heap σ s.heap [] := ⟨hP, hD0, va_S.rf⟩
  have hr := B.returns
  have hlk := B.notSynchronized
  have hx := C.1
  have hb := C.2.1
  have hl := lv_entry ([.ref (α 0), .int x1]) (n := 2) (Nat.le_of_ble_eq_true rfl)
  rw [lg_entry_eq]
  generalize (lg_sl ([.ref (α 0), .int x1]) ++ List.replicate (2 - (lg_sl ([.ref (α 0), .int x1])).length) Slot.unset).toArray = ls at hl ⊢
  have hl : lv_has ls 2 [(0, .ref (α 0)), (1, .int x1)] := hl
  unfold fm_isOpen at h
  refine lv_aload_n hx hb dX12_isOpen_0 rfl (lv_at hl 0 rfl) ?_
  refine lv_iload_n hx hb dX12_isOpen_1 rfl (lv_at hl 1 rfl) ?_
  refine lv_aload_n hx hb dX12_isOpen_2 rfl (lv_at hl 0 rfl) ?_
  refine lv_iload_n hx hb dX12_isOpen_3 rfl (lv_at hl 1 rfl) ?_
  obtain ⟨r_1, hr_1, h⟩ := bd_of h
  refine m_cVi (As := [.int x1]) (rest := [.int x1, .ref (α 0)]) C hM (cm_isThing l D ca α A σ x1 r_1 hr_1) mwy_isThing ⟨rfl, rfl⟩ ⟨Nat.le_of_ble_eq_true rfl, Nat.le_of_ble_eq_true rfl⟩ rfl rfl (Nat.le_of_ble_eq_true rfl) hl.1 dX12_isOpen_4 ⟨rfl, rfl⟩ (fun H locs hM => ?_)
  refine lv_if_eq (tgt := 25) hx hb dX12_isOpen_7 (by decide) (fun c_1 => ?_) (fun c_1 => ?_)
  · have h := br_T c_1 h
    exact gm_isOpen_25 C hr hlk  _ _ _ _ _ _ hM (lv_sub hl [0, 1] rfl) h
  · have h := br_F c_1 h
    refine lv_aload_n hx hb dX12_isOpen_10 rfl (lv_at hl 0 rfl) ?_
    refine m_geta C hM (k := 13) (by decide) rfl dX12_isOpen_11 ?_
    refine lv_iload_n hx hb dX12_isOpen_14 rfl (lv_at hl 1 rfl) ?_
    obtain ⟨c_2, h⟩ := ko_of h
    refine m_cald C hM (k := 13) rfl c_2 dX12_isOpen_15 ?_
    refine lv_bipush (v := (98 : Int32)) hx hb dX12_isOpen_16 (by decide) ?_
    refine lv_icmp_ne (tgt := 25) hx hb dX12_isOpen_18 (by decide) (fun c_3 => ?_) (fun c_3 => ?_)
    · have h := br_F c_3 h
      exact gm_isOpen_25 C hr hlk  _ _ _ _ _ _ hM (lv_sub hl [0, 1] rfl) h
    · have h := br_T c_3 h
      refine lv_iconst (v := (1 : Int32)) hx hb dX12_isOpen_21 (by decide) ?_
      refine lv_goto (tgt := 26) hx hb dX12_isOpen_22 (by decide) ?_
      exact gm_isOpen_26 C hr hlk  _ _ _ _ _ _ _ hM (lv_sub hl [0, 1] rfl) h
/-! lit(I)I -/
abbrev rmX12_lit : Room := { frames := 3, cells := 0, slots := 0, locals := 65 }
def fm_lit_73 (σ : mS) (s0 : Int32) : Option (Int32 × mS) :=
  some (s0, σ)
set_option maxHeartbeats 4000000 in
set_option maxRecDepth 100000 in
theorem gm_lit_73 {p : Program} {l : Launch} {e : Env} {s : State} {m : MethodId} {args : Array Value} {below : List Frame} {meth : Method} {c : Code} {D : va_G} {ca : Nat → ClassId} {α : Nat → Nat} {A : Nat → Prop} {o : Int32 × mS} (C : mC p s m args c cX12_lit 3 D ca) (hr : meth.sig.returnType = some .int) (hlk : meth.locks = false) : ∀ (σ : mS) (s0 : Int32) (H : Heap) (locs : List Loc) (ls : Array Slot), mM D ca α A s.heap σ H locs → lv_has ls 3 [(0, .ref (α 0))] → fm_lit_73 σ s0 = some o → mGI p l e rmX12_lit s m args below meth c D ca α A o H locs 73 ls [.int s0] := by
  have hx := C.1
  have hb := C.2.1
  intro σ s0 H locs ls hM hl h
  unfold fm_lit_73 at h
  exact m_ri C hM hr hlk dX12_lit_73 h
def fm_lit_26 (σ : mS) (x1 : Int32) (s0 : Int32) (s1 : Int32) : Option (Int32 × mS) :=
  (fm_isNoThing σ s1 s0).bind fun r_1 =>
  if r_1.1 = 0 then
    if (((12 : Int32) * (r_1.2.1 34)) + x1) < 0 ∨ 960 ≤ (((12 : Int32) * (r_1.2.1 34)) + x1).toNatClampNeg then none else
    if (((12 : Int32) * (r_1.2.1 34)) + x1) < 0 ∨ 960 ≤ (((12 : Int32) * (r_1.2.1 34)) + x1).toNatClampNeg then none else
    if (r_1.2.2.2.1 23 (((12 : Int32) * (r_1.2.1 34)) + x1).toNatClampNeg) = 0 then
      fm_lit_73 r_1.2 ((-1 : Int32) - (r_1.2.2.2.1 24 (((12 : Int32) * (r_1.2.1 34)) + x1).toNatClampNeg))
    else
      fm_lit_73 r_1.2 (r_1.2.2.2.1 24 (((12 : Int32) * (r_1.2.1 34)) + x1).toNatClampNeg)
  else
    some ((0 : Int32), r_1.2)
set_option maxHeartbeats 4000000 in
set_option maxRecDepth 100000 in
theorem gm_lit_26 {p : Program} {l : Launch} {e : Env} {s : State} {m : MethodId} {args : Array Value} {below : List Frame} {meth : Method} {c : Code} {D : va_G} {ca : Nat → ClassId} {α : Nat → Nat} {A : Nat → Prop} {o : Int32 × mS} (C : mC p s m args c cX12_lit 3 D ca) (hr : meth.sig.returnType = some .int) (hlk : meth.locks = false) : ∀ (σ : mS) (x1 : Int32) (s0 : Int32) (s1 : Int32) (H : Heap) (locs : List Loc) (ls : Array Slot), mM D ca α A s.heap σ H locs → lv_has ls 3 [(0, .ref (α 0)), (1, .int x1)] → fm_lit_26 σ x1 s0 s1 = some o → mGI p l e rmX12_lit s m args below meth c D ca α A o H locs 26 ls [.int s0, .int s1, .ref (α 0)] := by
  have hx := C.1
  have hb := C.2.1
  intro σ x1 s0 s1 H locs ls hM hl h
  unfold fm_lit_26 at h
  obtain ⟨r_1, hr_1, h⟩ := bd_of h
  refine m_cVi (As := [.int s1, .int s0]) (rest := []) C hM (cm_isNoThing l D ca α A σ s1 s0 r_1 hr_1) mwy_isNoThing ⟨rfl, rfl⟩ ⟨Nat.le_of_ble_eq_true rfl, Nat.le_of_ble_eq_true rfl⟩ rfl rfl (Nat.le_of_ble_eq_true rfl) hl.1 dX12_lit_26 ⟨rfl, rfl⟩ (fun H locs hM => ?_)
  refine lv_if_eq (tgt := 34) hx hb dX12_lit_29 (by decide) (fun c_1 => ?_) (fun c_1 => ?_)
  · have h := br_T c_1 h
    refine lv_aload_n hx hb dX12_lit_34 rfl (lv_at hl 0 rfl) ?_
    refine m_geta C hM (k := 24) (by decide) rfl dX12_lit_35 ?_
    refine lv_bipush (v := (12 : Int32)) hx hb dX12_lit_38 (by decide) ?_
    refine lv_aload_n hx hb dX12_lit_40 rfl (lv_at hl 0 rfl) ?_
    refine m_geti C hM (k := 34) (Or.inl rfl) rfl dX12_lit_41 ?_
    refine lv_imul hx hb dX12_lit_44 ?_
    refine lv_iload_n hx hb dX12_lit_45 rfl (lv_at hl 1 rfl) ?_
    refine lv_iadd hx hb dX12_lit_46 ?_
    obtain ⟨c_2, h⟩ := ko_of h
    refine m_iald C hM (k := 24) rfl c_2 dX12_lit_47 ?_
    refine lv_istore_n (lv' := [(2, .int (r_1.2.2.2.1 24 (((12 : Int32) * (r_1.2.1 34)) + x1).toNatClampNeg)), (0, .ref (α 0)), (1, .int x1)]) hx hb dX12_lit_48 rfl hl (by decide) rfl (fun ls hl => ?_)
    refine lv_aload_n hx hb dX12_lit_49 rfl (lv_at hl 1 rfl) ?_
    refine m_geta C hM (k := 23) (by decide) rfl dX12_lit_50 ?_
    refine lv_bipush (v := (12 : Int32)) hx hb dX12_lit_53 (by decide) ?_
    refine lv_aload_n hx hb dX12_lit_55 rfl (lv_at hl 1 rfl) ?_
    refine m_geti C hM (k := 34) (Or.inl rfl) rfl dX12_lit_56 ?_
    refine lv_imul hx hb dX12_lit_59 ?_
    refine lv_iload_n hx hb dX12_lit_60 rfl (lv_at hl 2 rfl) ?_
    refine lv_iadd hx hb dX12_lit_61 ?_
    obtain ⟨c_3, h⟩ := ko_of h
    refine m_zald C hM (k := 23) rfl c_3 dX12_lit_62 ?_
    refine lv_if_eq (tgt := 70) hx hb dX12_lit_63 (by decide) (fun c_4 => ?_) (fun c_4 => ?_)
    · have h := br_T c_4 h
      refine lv_iconst (v := (-1 : Int32)) hx hb dX12_lit_70 (by decide) ?_
      refine lv_iload_n hx hb dX12_lit_71 rfl (lv_at hl 0 rfl) ?_
      refine lv_isub hx hb dX12_lit_72 ?_
      exact gm_lit_73 C hr hlk  _ _ _ _ _ hM (lv_sub hl [1] rfl) h
    · have h := br_F c_4 h
      refine lv_iload_n hx hb dX12_lit_66 rfl (lv_at hl 0 rfl) ?_
      refine lv_goto (tgt := 73) hx hb dX12_lit_67 (by decide) ?_
      exact gm_lit_73 C hr hlk  _ _ _ _ _ hM (lv_sub hl [1] rfl) h
  · have h := br_F c_1 h
    refine lv_iconst (v := (0 : Int32)) hx hb dX12_lit_32 (by decide) ?_
    exact m_ri C hM hr hlk dX12_lit_33 h
def fm_lit_25 (σ : mS) (x1 : Int32) (s0 : Int32) : Option (Int32 × mS) :=
  fm_lit_26 σ x1 (0 : Int32) s0
set_option maxHeartbeats 4000000 in
set_option maxRecDepth 100000 in
theorem gm_lit_25 {p : Program} {l : Launch} {e : Env} {s : State} {m : MethodId} {args : Array Value} {below : List Frame} {meth : Method} {c : Code} {D : va_G} {ca : Nat → ClassId} {α : Nat → Nat} {A : Nat → Prop} {o : Int32 × mS} (C : mC p s m args c cX12_lit 3 D ca) (hr : meth.sig.returnType = some .int) (hlk : meth.locks = false) : ∀ (σ : mS) (x1 : Int32) (s0 : Int32) (H : Heap) (locs : List Loc) (ls : Array Slot), mM D ca α A s.heap σ H locs → lv_has ls 3 [(0, .ref (α 0)), (1, .int x1)] → fm_lit_25 σ x1 s0 = some o → mGI p l e rmX12_lit s m args below meth c D ca α A o H locs 25 ls [.int s0, .ref (α 0)] := by
  have hx := C.1
  have hb := C.2.1
  intro σ x1 s0 H locs ls hM hl h
  unfold fm_lit_25 at h
  refine lv_iconst (v := (0 : Int32)) hx hb dX12_lit_25 (by decide) ?_
  exact gm_lit_26 C hr hlk  _ _ _ _ _ _ _ hM (lv_sub hl [0, 1] rfl) h
def fm_lit (σ : mS) (x1 : Int32) : Option (Int32 × mS) :=
  (fm_isThing σ x1).bind fun r_1 =>
  if r_1.1 = 0 then
    fm_lit_25 r_1.2 x1 x1
  else
    if x1 < 0 ∨ 12 ≤ x1.toNatClampNeg then none else
    if (r_1.2.2.2.1 13 x1.toNatClampNeg) = (108 : Int32) then
      fm_lit_26 r_1.2 x1 (1 : Int32) x1
    else
      fm_lit_25 r_1.2 x1 x1
set_option maxHeartbeats 4000000 in
set_option maxRecDepth 100000 in
theorem cm_lit (l : Launch) (D : va_G) (ca : Nat → ClassId) (α : Nat → Nat) (A : Nat → Prop) (σ : mS) (x1 : Int32) (o : Int32 × mS) (h : fm_lit σ x1 = some o) : mMetI l yX12_lit cX12_lit 3 (some .int) rmX12_lit D ca α A σ [.int x1] o := by
  refine Met.ofW (cc := cX12_lit) (maxL := 3) (ret := some .int) (by decide) rfl ?_
  intro p e s m args below meth c s₁ B hml hv
  obtain ⟨rfl, hP, hK, hD0⟩ := hv
  have C : mC p s m _ c cX12_lit 3 D ca := ⟨B.exec, B.bytes, hml, findClass_of_methodNamed B.named, fun w hw => atoms_spec (ws := mWs yX12_lit cX12_lit 3 (some .int)) B.pre w (List.mem_cons_of_mem _ hw), hK⟩
  have hM : mM D ca α A s.heap σ s.heap [] := ⟨hP, hD0, va_S.rf⟩
  have hr := B.returns
  have hlk := B.notSynchronized
  have hx := C.1
  have hb := C.2.1
  have hl := lv_entry ([.ref (α 0), .int x1]) (n := 3) (Nat.le_of_ble_eq_true rfl)
  rw [lg_entry_eq]
  generalize (lg_sl ([.ref (α 0), .int x1]) ++ List.replicate (3 - (lg_sl ([.ref (α 0), .int x1])).length) Slot.unset).toArray = ls at hl ⊢
  have hl : lv_has ls 3 [(0, .ref (α 0)), (1, .int x1)] := hl
  unfold fm_lit at h
  refine lv_aload_n hx hb dX12_lit_0 rfl (lv_at hl 0 rfl) ?_
  refine lv_iload_n hx hb dX12_lit_1 rfl (lv_at hl 1 rfl) ?_
  refine lv_aload_n hx hb dX12_lit_2 rfl (lv_at hl 0 rfl) ?_
  refine lv_iload_n hx hb dX12_lit_3 rfl (lv_at hl 1 rfl) ?_
  obtain ⟨r_1, hr_1, h⟩ := bd_of h
  refine m_cVi (As := [.int x1]) (rest := [.int x1, .ref (α 0)]) C hM (cm_isThing l D ca α A σ x1 r_1 hr_1) mwy_isThing ⟨rfl, rfl⟩ ⟨Nat.le_of_ble_eq_true rfl, Nat.le_of_ble_eq_true rfl⟩ rfl rfl (Nat.le_of_ble_eq_true rfl) hl.1 dX12_lit_4 ⟨rfl, rfl⟩ (fun H locs hM => ?_)
  refine lv_if_eq (tgt := 25) hx hb dX12_lit_7 (by decide) (fun c_1 => ?_) (fun c_1 => ?_)
  · have h := br_T c_1 h
    exact gm_lit_25 C hr hlk  _ _ _ _ _ _ hM (lv_sub hl [0, 1] rfl) h
  · have h := br_F c_1 h
    refine lv_aload_n hx hb dX12_lit_10 rfl (lv_at hl 0 rfl) ?_
    refine m_geta C hM (k := 13) (by decide) rfl dX12_lit_11 ?_
    refine lv_iload_n hx hb dX12_lit_14 rfl (lv_at hl 1 rfl) ?_
    obtain ⟨c_2, h⟩ := ko_of h
    refine m_cald C hM (k := 13) rfl c_2 dX12_lit_15 ?_
    refine lv_bipush (v := (108 : Int32)) hx hb dX12_lit_16 (by decide) ?_
    refine lv_icmp_ne (tgt := 25) hx hb dX12_lit_18 (by decide) (fun c_3 => ?_) (fun c_3 => ?_)
    · have h := br_F c_3 h
      exact gm_lit_25 C hr hlk  _ _ _ _ _ _ hM (lv_sub hl [0, 1] rfl) h
    · have h := br_T c_3 h
      refine lv_iconst (v := (1 : Int32)) hx hb dX12_lit_21 (by decide) ?_
      refine lv_goto (tgt := 26) hx hb dX12_lit_22 (by decide) ?_
      exact gm_lit_26 C hr hlk  _ _ _ _ _ _ _ hM (lv_sub hl [0, 1] rfl) h
/-! isBright()Z -/
abbrev rmX12_isBright : Room := { frames := 2, cells := 0, slots := 0, locals := 44 }
def fm_isBright (σ : mS) : Option (Int32 × mS) :=
  (fm_isNotBegun σ).bind fun r_1 =>
  if r_1.1 = 0 then
    (fm_takesUp r_1.2 (r_1.2.1 34)).bind fun r_2 =>
    (fm_isBrightHere r_2).bind fun r_3 =>
    if r_3.1 &&& 1 = r_3.1 then some (r_3.1, r_3.2) else none
  else
    if (0 : Int32) &&& 1 = (0 : Int32) then some ((0 : Int32), r_1.2) else none
set_option maxHeartbeats 4000000 in
set_option maxRecDepth 100000 in
theorem cm_isBright (l : Launch) (D : va_G) (ca : Nat → ClassId) (α : Nat → Nat) (A : Nat → Prop) (σ : mS) (o : Int32 × mS) (h : fm_isBright σ  = some o) : mMetI l yX12_isBright cX12_isBright 1 (some .boolean) rmX12_isBright D ca α A σ [] o := by
  refine Met.ofW (cc := cX12_isBright) (maxL := 1) (ret := some .boolean) (by decide) rfl ?_
  intro p e s m args below meth c s₁ B hml hv
  obtain ⟨rfl, hP, hK, hD0⟩ := hv
  have C : mC p s m _ c cX12_isBright 1 D ca := ⟨B.exec, B.bytes, hml, findClass_of_methodNamed B.named, fun w hw => atoms_spec (ws := mWs yX12_isBright cX12_isBright 1 (some .boolean)) B.pre w (List.mem_cons_of_mem _ hw), hK⟩
  have hM : mM D ca α A s.heap σ s.heap [] := ⟨hP, hD0, va_S.rf⟩
  have hr := B.returns
  have hlk := B.notSynchronized
  have hx := C.1
  have hb := C.2.1
  have hl := lv_entry ([.ref (α 0)]) (n := 1) (Nat.le_of_ble_eq_true rfl)
  rw [lg_entry_eq]
  generalize (lg_sl ([.ref (α 0)]) ++ List.replicate (1 - (lg_sl ([.ref (α 0)])).length) Slot.unset).toArray = ls at hl ⊢
  have hl : lv_has ls 1 [(0, .ref (α 0))] := hl
  unfold fm_isBright at h
  refine lv_aload_n hx hb dX12_isBright_0 rfl (lv_at hl 0 rfl) ?_
  obtain ⟨r_1, hr_1, h⟩ := bd_of h
  refine m_cVi (As := []) (rest := []) C hM (cm_isNotBegun l D ca α A σ  r_1 hr_1) mwy_isNotBegun ⟨rfl, rfl⟩ ⟨Nat.le_of_ble_eq_true rfl, Nat.le_of_ble_eq_true rfl⟩ rfl rfl (Nat.le_of_ble_eq_true rfl) hl.1 dX12_isBright_1 ⟨rfl, rfl⟩ (fun H locs hM => ?_)
  refine lv_if_eq (tgt := 9) hx hb dX12_isBright_4 (by decide) (fun c_1 => ?_) (fun c_1 => ?_)
  · have h := br_T c_1 h
    refine lv_aload_n hx hb dX12_isBright_9 rfl (lv_at hl 0 rfl) ?_
    refine lv_aload_n hx hb dX12_isBright_10 rfl (lv_at hl 0 rfl) ?_
    refine m_geti C hM (k := 34) (Or.inl rfl) rfl dX12_isBright_11 ?_
    obtain ⟨r_2, hr_2, h⟩ := bd_of h
    refine m_cVv (As := [.int (r_1.2.1 34)]) (rest := []) C hM (cm_takesUp l D ca α A r_1.2 (r_1.2.1 34) r_2 hr_2) mwy_takesUp ⟨rfl, rfl⟩ ⟨Nat.le_of_ble_eq_true rfl, Nat.le_of_ble_eq_true rfl⟩ rfl rfl (Nat.le_of_ble_eq_true rfl) hl.1 dX12_isBright_14 ⟨rfl, rfl⟩ (fun H locs hM => ?_)
    refine lv_aload_n hx hb dX12_isBright_17 rfl (lv_at hl 0 rfl) ?_
    obtain ⟨r_3, hr_3, h⟩ := bd_of h
    refine m_cVi (As := []) (rest := []) C hM (cm_isBrightHere l D ca α A r_2  r_3 hr_3) mwy_isBrightHere ⟨rfl, rfl⟩ ⟨Nat.le_of_ble_eq_true rfl, Nat.le_of_ble_eq_true rfl⟩ rfl rfl (Nat.le_of_ble_eq_true rfl) hl.1 dX12_isBright_18 ⟨rfl, rfl⟩ (fun H locs hM => ?_)
    exact m_rz C hM hr hlk dX12_isBright_21 h
  · have h := br_F c_1 h
    refine lv_iconst (v := (0 : Int32)) hx hb dX12_isBright_7 (by decide) ?_
    exact m_rz C hM hr hlk dX12_isBright_8 h
/-! weight()I -/
abbrev rmX12_weight : Room := { frames := 2, cells := 0, slots := 0, locals := 41 }
def fm_weight (σ : mS) : Option (Int32 × mS) :=
  (fm_isNotBegun σ).bind fun r_1 =>
  if r_1.1 = 0 then
    (fm_takesUp r_1.2 (r_1.2.1 34)).bind fun r_2 =>
    (fm_weightWith r_2 (-1 : Int32)).bind fun r_3 =>
    some (r_3.1, r_3.2)
  else
    some ((0 : Int32), r_1.2)
set_option maxHeartbeats 4000000 in
set_option maxRecDepth 100000 in
theorem cm_weight (l : Launch) (D : va_G) (ca : Nat → ClassId) (α : Nat → Nat) (A : Nat → Prop) (σ : mS) (o : Int32 × mS) (h : fm_weight σ  = some o) : mMetI l yX12_weight cX12_weight 1 (some .int) rmX12_weight D ca α A σ [] o := by
  refine Met.ofW (cc := cX12_weight) (maxL := 1) (ret := some .int) (by decide) rfl ?_
  intro p e s m args below meth c s₁ B hml hv
  obtain ⟨rfl, hP, hK, hD0⟩ := hv
  have C : mC p s m _ c cX12_weight 1 D ca := ⟨B.exec, B.bytes, hml, findClass_of_methodNamed B.named, fun w hw => atoms_spec (ws := mWs yX12_weight cX12_weight 1 (some .int)) B.pre w (List.mem_cons_of_mem _ hw), hK⟩
  have hM : mM D ca α A s.heap σ s.heap [] := ⟨hP, hD0, va_S.rf⟩
  have hr := B.returns
  have hlk := B.notSynchronized
  have hx := C.1
  have hb := C.2.1
  have hl := lv_entry ([.ref (α 0)]) (n := 1) (Nat.le_of_ble_eq_true rfl)
  rw [lg_entry_eq]
  generalize (lg_sl ([.ref (α 0)]) ++ List.replicate (1 - (lg_sl ([.ref (α 0)])).length) Slot.unset).toArray = ls at hl ⊢
  have hl : lv_has ls 1 [(0, .ref (α 0))] := hl
  unfold fm_weight at h
  refine lv_aload_n hx hb dX12_weight_0 rfl (lv_at hl 0 rfl) ?_
  obtain ⟨r_1, hr_1, h⟩ := bd_of h
  refine m_cVi (As := []) (rest := []) C hM (cm_isNotBegun l D ca α A σ  r_1 hr_1) mwy_isNotBegun ⟨rfl, rfl⟩ ⟨Nat.le_of_ble_eq_true rfl, Nat.le_of_ble_eq_true rfl⟩ rfl rfl (Nat.le_of_ble_eq_true rfl) hl.1 dX12_weight_1 ⟨rfl, rfl⟩ (fun H locs hM => ?_)
  refine lv_if_eq (tgt := 9) hx hb dX12_weight_4 (by decide) (fun c_1 => ?_) (fun c_1 => ?_)
  · have h := br_T c_1 h
    refine lv_aload_n hx hb dX12_weight_9 rfl (lv_at hl 0 rfl) ?_
    refine lv_aload_n hx hb dX12_weight_10 rfl (lv_at hl 0 rfl) ?_
    refine m_geti C hM (k := 34) (Or.inl rfl) rfl dX12_weight_11 ?_
    obtain ⟨r_2, hr_2, h⟩ := bd_of h
    refine m_cVv (As := [.int (r_1.2.1 34)]) (rest := []) C hM (cm_takesUp l D ca α A r_1.2 (r_1.2.1 34) r_2 hr_2) mwy_takesUp ⟨rfl, rfl⟩ ⟨Nat.le_of_ble_eq_true rfl, Nat.le_of_ble_eq_true rfl⟩ rfl rfl (Nat.le_of_ble_eq_true rfl) hl.1 dX12_weight_14 ⟨rfl, rfl⟩ (fun H locs hM => ?_)
    refine lv_aload_n hx hb dX12_weight_17 rfl (lv_at hl 0 rfl) ?_
    refine lv_iconst (v := (-1 : Int32)) hx hb dX12_weight_18 (by decide) ?_
    obtain ⟨r_3, hr_3, h⟩ := bd_of h
    refine m_cVi (As := [.int (-1 : Int32)]) (rest := []) C hM (cm_weightWith l D ca α A r_2 (-1 : Int32) r_3 hr_3) mwy_weightWith ⟨rfl, rfl⟩ ⟨Nat.le_of_ble_eq_true rfl, Nat.le_of_ble_eq_true rfl⟩ rfl rfl (Nat.le_of_ble_eq_true rfl) hl.1 dX12_weight_19 ⟨rfl, rfl⟩ (fun H locs hM => ?_)
    exact m_ri C hM hr hlk dX12_weight_22 h
  · have h := br_F c_1 h
    refine lv_iconst (v := (0 : Int32)) hx hb dX12_weight_7 (by decide) ?_
    exact m_ri C hM hr hlk dX12_weight_8 h
/-! node()I -/
abbrev rmX12_node : Room := { frames := 2, cells := 0, slots := 0, locals := 41 }
def fm_node_15 (σ : mS) (s0 : Int32) : Option (Int32 × mS) :=
  some (s0, σ)
set_option maxHeartbeats 4000000 in
set_option maxRecDepth 100000 in
theorem gm_node_15 {p : Program} {l : Launch} {e : Env} {s : State} {m : MethodId} {args : Array Value} {below : List Frame} {meth : Method} {c : Code} {D : va_G} {ca : Nat → ClassId} {α : Nat → Nat} {A : Nat → Prop} {o : Int32 × mS} (C : mC p s m args c cX12_node 1 D ca) (hr : meth.sig.returnType = some .int) (hlk : meth.locks = false) : ∀ (σ : mS) (s0 : Int32) (H : Heap) (locs : List Loc) (ls : Array Slot), mM D ca α A s.heap σ H locs → lv_has ls 1 [(0, .ref (α 0))] → fm_node_15 σ s0 = some o → mGI p l e rmX12_node s m args below meth c D ca α A o H locs 15 ls [.int s0] := by
  have hx := C.1
  have hb := C.2.1
  intro σ s0 H locs ls hM hl h
  unfold fm_node_15 at h
  exact m_ri C hM hr hlk dX12_node_15 h
def fm_node (σ : mS) : Option (Int32 × mS) :=
  (fm_isNotBegun σ).bind fun r_1 =>
  if r_1.1 = 0 then
    fm_node_15 r_1.2 (r_1.2.1 34)
  else
    fm_node_15 r_1.2 (0 : Int32)
set_option maxHeartbeats 4000000 in
set_option maxRecDepth 100000 in
theorem cm_node (l : Launch) (D : va_G) (ca : Nat → ClassId) (α : Nat → Nat) (A : Nat → Prop) (σ : mS) (o : Int32 × mS) (h : fm_node σ  = some o) : mMetI l yX12_node cX12_node 1 (some .int) rmX12_node D ca α A σ [] o := by
  refine Met.ofW (cc := cX12_node) (maxL := 1) (ret := some .int) (by decide) rfl ?_
  intro p e s m args below meth c s₁ B hml hv
  obtain ⟨rfl, hP, hK, hD0⟩ := hv
  have C : mC p s m _ c cX12_node 1 D ca := ⟨B.exec, B.bytes, hml, findClass_of_methodNamed B.named, fun w hw => atoms_spec (ws := mWs yX12_node cX12_node 1 (some .int)) B.pre w (List.mem_cons_of_mem _ hw), hK⟩
  have hM : mM D ca α A s.heap σ s.heap [] := ⟨hP, hD0, va_S.rf⟩
  have hr := B.returns
  have hlk := B.notSynchronized
  have hx := C.1
  have hb := C.2.1
  have hl := lv_entry ([.ref (α 0)]) (n := 1) (Nat.le_of_ble_eq_true rfl)
  rw [lg_entry_eq]
  generalize (lg_sl ([.ref (α 0)]) ++ List.replicate (1 - (lg_sl ([.ref (α 0)])).length) Slot.unset).toArray = ls at hl ⊢
  have hl : lv_has ls 1 [(0, .ref (α 0))] := hl
  unfold fm_node at h
  refine lv_aload_n hx hb dX12_node_0 rfl (lv_at hl 0 rfl) ?_
  obtain ⟨r_1, hr_1, h⟩ := bd_of h
  refine m_cVi (As := []) (rest := []) C hM (cm_isNotBegun l D ca α A σ  r_1 hr_1) mwy_isNotBegun ⟨rfl, rfl⟩ ⟨Nat.le_of_ble_eq_true rfl, Nat.le_of_ble_eq_true rfl⟩ rfl rfl (Nat.le_of_ble_eq_true rfl) hl.1 dX12_node_1 ⟨rfl, rfl⟩ (fun H locs hM => ?_)
  refine lv_if_eq (tgt := 11) hx hb dX12_node_4 (by decide) (fun c_1 => ?_) (fun c_1 => ?_)
  · have h := br_T c_1 h
    refine lv_aload_n hx hb dX12_node_11 rfl (lv_at hl 0 rfl) ?_
    refine m_geti C hM (k := 34) (Or.inl rfl) rfl dX12_node_12 ?_
    exact gm_node_15 C hr hlk  _ _ _ _ _ hM (lv_sub hl [0] rfl) h
  · have h := br_F c_1 h
    refine lv_iconst (v := (0 : Int32)) hx hb dX12_node_7 (by decide) ?_
    refine lv_goto (tgt := 15) hx hb dX12_node_8 (by decide) ?_
    exact gm_node_15 C hr hlk  _ _ _ _ _ hM (lv_sub hl [0] rfl) h
/-! nodes()I -/
abbrev rmX12_nodes : Room := { frames := 2, cells := 0, slots := 0, locals := 41 }
def fm_nodes_15 (σ : mS) (s0 : Int32) : Option (Int32 × mS) :=
  some (s0, σ)
set_option maxHeartbeats 4000000 in
set_option maxRecDepth 100000 in
theorem gm_nodes_15 {p : Program} {l : Launch} {e : Env} {s : State} {m : MethodId} {args : Array Value} {below : List Frame} {meth : Method} {c : Code} {D : va_G} {ca : Nat → ClassId} {α : Nat → Nat} {A : Nat → Prop} {o : Int32 × mS} (C : mC p s m args c cX12_nodes 1 D ca) (hr : meth.sig.returnType = some .int) (hlk : meth.locks = false) : ∀ (σ : mS) (s0 : Int32) (H : Heap) (locs : List Loc) (ls : Array Slot), mM D ca α A s.heap σ H locs → lv_has ls 1 [(0, .ref (α 0))] → fm_nodes_15 σ s0 = some o → mGI p l e rmX12_nodes s m args below meth c D ca α A o H locs 15 ls [.int s0] := by
  have hx := C.1
  have hb := C.2.1
  intro σ s0 H locs ls hM hl h
  unfold fm_nodes_15 at h
  exact m_ri C hM hr hlk dX12_nodes_15 h
def fm_nodes (σ : mS) : Option (Int32 × mS) :=
  (fm_isNotBegun σ).bind fun r_1 =>
  if r_1.1 = 0 then
    fm_nodes_15 r_1.2 (r_1.2.1 33)
  else
    fm_nodes_15 r_1.2 (0 : Int32)
set_option maxHeartbeats 4000000 in
set_option maxRecDepth 100000 in
theorem cm_nodes (l : Launch) (D : va_G) (ca : Nat → ClassId) (α : Nat → Nat) (A : Nat → Prop) (σ : mS) (o : Int32 × mS) (h : fm_nodes σ  = some o) : mMetI l yX12_nodes cX12_nodes 1 (some .int) rmX12_nodes D ca α A σ [] o := by
  refine Met.ofW (cc := cX12_nodes) (maxL := 1) (ret := some .int) (by decide) rfl ?_
  intro p e s m args below meth c s₁ B hml hv
  obtain ⟨rfl, hP, hK, hD0⟩ := hv
  have C : mC p s m _ c cX12_nodes 1 D ca := ⟨B.exec, B.bytes, hml, findClass_of_methodNamed B.named, fun w hw => atoms_spec (ws := mWs yX12_nodes cX12_nodes 1 (some .int)) B.pre w (List.mem_cons_of_mem _ hw), hK⟩
  have hM : mM D ca α A s.heap σ s.heap [] := ⟨hP, hD0, va_S.rf⟩
  have hr := B.returns
  have hlk := B.notSynchronized
  have hx := C.1
  have hb := C.2.1
  have hl := lv_entry ([.ref (α 0)]) (n := 1) (Nat.le_of_ble_eq_true rfl)
  rw [lg_entry_eq]
  generalize (lg_sl ([.ref (α 0)]) ++ List.replicate (1 - (lg_sl ([.ref (α 0)])).length) Slot.unset).toArray = ls at hl ⊢
  have hl : lv_has ls 1 [(0, .ref (α 0))] := hl
  unfold fm_nodes at h
  refine lv_aload_n hx hb dX12_nodes_0 rfl (lv_at hl 0 rfl) ?_
  obtain ⟨r_1, hr_1, h⟩ := bd_of h
  refine m_cVi (As := []) (rest := []) C hM (cm_isNotBegun l D ca α A σ  r_1 hr_1) mwy_isNotBegun ⟨rfl, rfl⟩ ⟨Nat.le_of_ble_eq_true rfl, Nat.le_of_ble_eq_true rfl⟩ rfl rfl (Nat.le_of_ble_eq_true rfl) hl.1 dX12_nodes_1 ⟨rfl, rfl⟩ (fun H locs hM => ?_)
  refine lv_if_eq (tgt := 11) hx hb dX12_nodes_4 (by decide) (fun c_1 => ?_) (fun c_1 => ?_)
  · have h := br_T c_1 h
    refine lv_aload_n hx hb dX12_nodes_11 rfl (lv_at hl 0 rfl) ?_
    refine m_geti C hM (k := 33) (Or.inl rfl) rfl dX12_nodes_12 ?_
    exact gm_nodes_15 C hr hlk  _ _ _ _ _ hM (lv_sub hl [0] rfl) h
  · have h := br_F c_1 h
    refine lv_iconst (v := (0 : Int32)) hx hb dX12_nodes_7 (by decide) ?_
    refine lv_goto (tgt := 15) hx hb dX12_nodes_8 (by decide) ?_
    exact gm_nodes_15 C hr hlk  _ _ _ _ _ hM (lv_sub hl [0] rfl) h
/-! isNode(I)Z -/
abbrev rmX12_isNode : Room := { frames := 1, cells := 0, slots := 0, locals := 22 }
def fm_isNode (σ : mS) (x1 : Int32) : Option (Int32 × mS) :=
  (fm_isBetween x1 (0 : Int32) ((σ.1 33) - (1 : Int32))).bind fun r_1 =>
  if r_1 &&& 1 = r_1 then some (r_1, σ) else none
set_option maxHeartbeats 4000000 in
set_option maxRecDepth 100000 in
theorem cm_isNode (l : Launch) (D : va_G) (ca : Nat → ClassId) (α : Nat → Nat) (A : Nat → Prop) (σ : mS) (x1 : Int32) (o : Int32 × mS) (h : fm_isNode σ x1 = some o) : mMetI l yX12_isNode cX12_isNode 2 (some .boolean) rmX12_isNode D ca α A σ [.int x1] o := by
  refine Met.ofW (cc := cX12_isNode) (maxL := 2) (ret := some .boolean) (by decide) rfl ?_
  intro p e s m args below meth c s₁ B hml hv
  obtain ⟨rfl, hP, hK, hD0⟩ := hv
  have C : mC p s m _ c cX12_isNode 2 D ca := ⟨B.exec, B.bytes, hml, findClass_of_methodNamed B.named, fun w hw => atoms_spec (ws := mWs yX12_isNode cX12_isNode 2 (some .boolean)) B.pre w (List.mem_cons_of_mem _ hw), hK⟩
  have hM : mM D ca α A s.heap σ s.heap [] := ⟨hP, hD0, va_S.rf⟩
  have hr := B.returns
  have hlk := B.notSynchronized
  have hx := C.1
  have hb := C.2.1
  have hl := lv_entry ([.ref (α 0), .int x1]) (n := 2) (Nat.le_of_ble_eq_true rfl)
  rw [lg_entry_eq]
  generalize (lg_sl ([.ref (α 0), .int x1]) ++ List.replicate (2 - (lg_sl ([.ref (α 0), .int x1])).length) Slot.unset).toArray = ls at hl ⊢
  have hl : lv_has ls 2 [(0, .ref (α 0)), (1, .int x1)] := hl
  unfold fm_isNode at h
  refine lv_iload_n hx hb dX12_isNode_0 rfl (lv_at hl 1 rfl) ?_
  refine lv_iconst (v := (0 : Int32)) hx hb dX12_isNode_1 (by decide) ?_
  refine lv_aload_n hx hb dX12_isNode_2 rfl (lv_at hl 0 rfl) ?_
  refine m_geti C hM (k := 33) (Or.inl rfl) rfl dX12_isNode_3 ?_
  refine lv_iconst (v := (1 : Int32)) hx hb dX12_isNode_6 (by decide) ?_
  refine lv_isub hx hb dX12_isNode_7 ?_
  obtain ⟨r_1, hr_1, h⟩ := bd_of h
  refine m_cSi (As := [.int x1, .int (0 : Int32), .int ((σ.1 33) - (1 : Int32))]) (rest := []) C hM (cm_isBetween l D ca α A σ x1 (0 : Int32) ((σ.1 33) - (1 : Int32)) r_1 hr_1) mwy_isBetween ⟨rfl, rfl⟩ ⟨Nat.le_of_ble_eq_true rfl, Nat.le_of_ble_eq_true rfl⟩ rfl rfl (Nat.le_of_ble_eq_true rfl) hl.1 dX12_isNode_8 ⟨rfl, rfl⟩ (fun H locs hM => ?_)
  exact m_rz C hM hr hlk dX12_isNode_11 h
theorem mwy_isNode : mCallV RX12 291 yX12_isNode cX12_isNode 2 (some .boolean) 1 := ⟨⟨wl_in (i := 2233) (by decide +kernel), wl_in (i := 2235) (by decide +kernel), wl_inp (i := 56) (by decide +kernel), wl_in (i := 16) (by decide +kernel), wl_in (i := 2236) (by decide +kernel)⟩, rfl, by decide, by decide, by decide +kernel⟩
/-! depthOf(I)I -/
abbrev rmX12_depthOf : Room := { frames := 0, cells := 0, slots := 0, locals := 0 }
def fm_depthOf_4 : Nat → mS → Int32 → Int32 → Option (Int32 × mS)
  | 0, _, _, _ => none
  | n + 1, σ, x2, x3 =>
    if x3 < 0 ∨ 80 ≤ x3.toNatClampNeg then none else
    if (σ.2.2.1 25 x3.toNatClampNeg) = (-1 : Int32) then
      some (x2, σ)
    else
      if x3 < 0 ∨ 80 ≤ x3.toNatClampNeg then none else
      (fm_depthOf_4 n) σ (x2 + (1 : Int32)) (σ.2.2.1 25 x3.toNatClampNeg)
set_option maxHeartbeats 4000000 in
set_option maxRecDepth 100000 in
theorem gm_depthOf_4 {p : Program} {l : Launch} {e : Env} {s : State} {m : MethodId} {args : Array Value} {below : List Frame} {meth : Method} {c : Code} {D : va_G} {ca : Nat → ClassId} {α : Nat → Nat} {A : Nat → Prop} {o : Int32 × mS} (C : mC p s m args c cX12_depthOf 4 D ca) (hr : meth.sig.returnType = some .int) (hlk : meth.locks = false) : ∀ (n : Nat) (σ : mS) (x2 : Int32) (x3 : Int32) (H : Heap) (locs : List Loc) (ls : Array Slot), mM D ca α A s.heap σ H locs → lv_has ls 4 [(0, .ref (α 0)), (2, .int x2), (3, .int x3)] → fm_depthOf_4 n σ x2 x3 = some o → mGI p l e rmX12_depthOf s m args below meth c D ca α A o H locs 4 ls [] := by
  have hx := C.1
  have hb := C.2.1
  intro n
  induction n with
  | zero =>
    intro σ x2 x3 H locs ls hM hl h
    cases h
  | succ n ih =>
    intro σ x2 x3 H locs ls hM hl h
    rw [fm_depthOf_4] at h
    refine lv_aload_n hx hb dX12_depthOf_4 rfl (lv_at hl 0 rfl) ?_
    refine m_geta C hM (k := 25) (by decide) rfl dX12_depthOf_5 ?_
    refine lv_iload_n hx hb dX12_depthOf_8 rfl (lv_at hl 2 rfl) ?_
    obtain ⟨c_1, h⟩ := ko_of h
    refine m_iald C hM (k := 25) rfl c_1 dX12_depthOf_9 ?_
    refine lv_iconst (v := (-1 : Int32)) hx hb dX12_depthOf_10 (by decide) ?_
    refine lv_icmp_eq (tgt := 27) hx hb dX12_depthOf_11 (by decide) (fun c_2 => ?_) (fun c_2 => ?_)
    · have h := br_T c_2 h
      refine lv_iload_n hx hb dX12_depthOf_27 rfl (lv_at hl 1 rfl) ?_
      exact m_ri C hM hr hlk dX12_depthOf_28 h
    · have h := br_F c_2 h
      refine lv_iinc (v := (x2 + (1 : Int32))) (lv' := [(2, .int (x2 + (1 : Int32))), (0, .ref (α 0)), (3, .int x3)]) hx hb dX12_depthOf_14 hl (k := 1) rfl rfl (by decide) rfl (fun ls hl => ?_)
      refine lv_aload_n hx hb dX12_depthOf_17 rfl (lv_at hl 1 rfl) ?_
      refine m_geta C hM (k := 25) (by decide) rfl dX12_depthOf_18 ?_
      refine lv_iload_n hx hb dX12_depthOf_21 rfl (lv_at hl 2 rfl) ?_
      obtain ⟨c_3, h⟩ := ko_of h
      refine m_iald C hM (k := 25) rfl c_3 dX12_depthOf_22 ?_
      refine lv_istore_n (lv' := [(3, .int (σ.2.2.1 25 x3.toNatClampNeg)), (2, .int (x2 + (1 : Int32))), (0, .ref (α 0))]) hx hb dX12_depthOf_23 rfl hl (by decide) rfl (fun ls hl => ?_)
      refine lv_goto (tgt := 4) hx hb dX12_depthOf_24 (by decide) ?_
      exact ih _ _ _ _ _ _ hM (lv_sub hl [2, 1, 0] rfl) h
def fm_depthOf (σ : mS) (x1 : Int32) : Option (Int32 × mS) :=
  fm_depthOf_4 3000 σ (0 : Int32) x1
set_option maxHeartbeats 4000000 in
set_option maxRecDepth 100000 in
theorem cm_depthOf (l : Launch) (D : va_G) (ca : Nat → ClassId) (α : Nat → Nat) (A : Nat → Prop) (σ : mS) (x1 : Int32) (o : Int32 × mS) (h : fm_depthOf σ x1 = some o) : mMetI l yX12_depthOf cX12_depthOf 4 (some .int) rmX12_depthOf D ca α A σ [.int x1] o := by
  refine Met.ofW (cc := cX12_depthOf) (maxL := 4) (ret := some .int) (by decide) rfl ?_
  intro p e s m args below meth c s₁ B hml hv
  obtain ⟨rfl, hP, hK, hD0⟩ := hv
  have C : mC p s m _ c cX12_depthOf 4 D ca := ⟨B.exec, B.bytes, hml, findClass_of_methodNamed B.named, fun w hw => atoms_spec (ws := mWs yX12_depthOf cX12_depthOf 4 (some .int)) B.pre w (List.mem_cons_of_mem _ hw), hK⟩
  have hM : mM D ca α A s.heap σ s.heap [] := ⟨hP, hD0, va_S.rf⟩
  have hr := B.returns
  have hlk := B.notSynchronized
  have hx := C.1
  have hb := C.2.1
  have hl := lv_entry ([.ref (α 0), .int x1]) (n := 4) (Nat.le_of_ble_eq_true rfl)
  rw [lg_entry_eq]
  generalize (lg_sl ([.ref (α 0), .int x1]) ++ List.replicate (4 - (lg_sl ([.ref (α 0), .int x1])).length) Slot.unset).toArray = ls at hl ⊢
  have hl : lv_has ls 4 [(0, .ref (α 0)), (1, .int x1)] := hl
  unfold fm_depthOf at h
  refine lv_iconst (v := (0 : Int32)) hx hb dX12_depthOf_0 (by decide) ?_
  refine lv_istore_n (lv' := [(2, .int (0 : Int32)), (0, .ref (α 0)), (1, .int x1)]) hx hb dX12_depthOf_1 rfl hl (by decide) rfl (fun ls hl => ?_)
  refine lv_iload_n hx hb dX12_depthOf_2 rfl (lv_at hl 2 rfl) ?_
  refine lv_istore_n (lv' := [(3, .int x1), (2, .int (0 : Int32)), (0, .ref (α 0)), (1, .int x1)]) hx hb dX12_depthOf_3 rfl hl (by decide) rfl (fun ls hl => ?_)
  exact gm_depthOf_4 C hr hlk  _ _ _ _ _ _ _ hM (lv_sub hl [2, 1, 0] rfl) h
theorem mwy_depthOf : mCallV RX12 294 yX12_depthOf cX12_depthOf 4 (some .int) 1 := ⟨⟨wl_in (i := 2241) (by decide +kernel), wl_in (i := 2243) (by decide +kernel), wl_inp (i := 57) (by decide +kernel), wl_in (i := 16) (by decide +kernel), wl_in (i := 2244) (by decide +kernel)⟩, rfl, by decide, by decide, by decide +kernel⟩
/-! parent(I)I -/
abbrev rmX12_parent : Room := { frames := 2, cells := 0, slots := 0, locals := 43 }
def fm_parent_38 (σ : mS) (s0 : Int32) : Option (Int32 × mS) :=
  some (s0, σ)
set_option maxHeartbeats 4000000 in
set_option maxRecDepth 100000 in
theorem gm_parent_38 {p : Program} {l : Launch} {e : Env} {s : State} {m : MethodId} {args : Array Value} {below : List Frame} {meth : Method} {c : Code} {D : va_G} {ca : Nat → ClassId} {α : Nat → Nat} {A : Nat → Prop} {o : Int32 × mS} (C : mC p s m args c cX12_parent 2 D ca) (hr : meth.sig.returnType = some .int) (hlk : meth.locks = false) : ∀ (σ : mS) (s0 : Int32) (H : Heap) (locs : List Loc) (ls : Array Slot), mM D ca α A s.heap σ H locs → lv_has ls 2 [(0, .ref (α 0))] → fm_parent_38 σ s0 = some o → mGI p l e rmX12_parent s m args below meth c D ca α A o H locs 38 ls [.int s0] := by
  have hx := C.1
  have hb := C.2.1
  intro σ s0 H locs ls hM hl h
  unfold fm_parent_38 at h
  exact m_ri C hM hr hlk dX12_parent_38 h
def fm_parent_22 (σ : mS) (x1 : Int32) (s0 : Int32) : Option (Int32 × mS) :=
  (fm_isWrong σ s0).bind fun r_1 =>
  if r_1.1 = 0 then
    if x1 < 0 ∨ 80 ≤ x1.toNatClampNeg then none else
    fm_parent_38 r_1.2 (r_1.2.2.2.1 25 x1.toNatClampNeg)
  else
    fm_parent_38 r_1.2 (0 : Int32)
set_option maxHeartbeats 4000000 in
set_option maxRecDepth 100000 in
theorem gm_parent_22 {p : Program} {l : Launch} {e : Env} {s : State} {m : MethodId} {args : Array Value} {below : List Frame} {meth : Method} {c : Code} {D : va_G} {ca : Nat → ClassId} {α : Nat → Nat} {A : Nat → Prop} {o : Int32 × mS} (C : mC p s m args c cX12_parent 2 D ca) (hr : meth.sig.returnType = some .int) (hlk : meth.locks = false) : ∀ (σ : mS) (x1 : Int32) (s0 : Int32) (H : Heap) (locs : List Loc) (ls : Array Slot), mM D ca α A s.heap σ H locs → lv_has ls 2 [(0, .ref (α 0)), (1, .int x1)] → fm_parent_22 σ x1 s0 = some o → mGI p l e rmX12_parent s m args below meth c D ca α A o H locs 22 ls [.int s0, .ref (α 0)] := by
  have hx := C.1
  have hb := C.2.1
  intro σ x1 s0 H locs ls hM hl h
  unfold fm_parent_22 at h
  obtain ⟨r_1, hr_1, h⟩ := bd_of h
  refine m_cVi (As := [.int s0]) (rest := []) C hM (cm_isWrong l D ca α A σ s0 r_1 hr_1) mwy_isWrong ⟨rfl, rfl⟩ ⟨Nat.le_of_ble_eq_true rfl, Nat.le_of_ble_eq_true rfl⟩ rfl rfl (Nat.le_of_ble_eq_true rfl) hl.1 dX12_parent_22 ⟨rfl, rfl⟩ (fun H locs hM => ?_)
  refine lv_if_eq (tgt := 32) hx hb dX12_parent_25 (by decide) (fun c_1 => ?_) (fun c_1 => ?_)
  · have h := br_T c_1 h
    refine lv_aload_n hx hb dX12_parent_32 rfl (lv_at hl 0 rfl) ?_
    refine m_geta C hM (k := 25) (by decide) rfl dX12_parent_33 ?_
    refine lv_iload_n hx hb dX12_parent_36 rfl (lv_at hl 1 rfl) ?_
    obtain ⟨c_2, h⟩ := ko_of h
    refine m_iald C hM (k := 25) rfl c_2 dX12_parent_37 ?_
    exact gm_parent_38 C hr hlk  _ _ _ _ _ hM (lv_sub hl [0] rfl) h
  · have h := br_F c_1 h
    refine lv_iconst (v := (0 : Int32)) hx hb dX12_parent_28 (by decide) ?_
    refine lv_goto (tgt := 38) hx hb dX12_parent_29 (by decide) ?_
    exact gm_parent_38 C hr hlk  _ _ _ _ _ hM (lv_sub hl [0] rfl) h
def fm_parent (σ : mS) (x1 : Int32) : Option (Int32 × mS) :=
  (fm_isNode σ x1).bind fun r_1 =>
  if r_1.1 = 0 then
    fm_parent_22 r_1.2 x1 (1 : Int32)
  else
    if x1 = 0 then
      fm_parent_22 r_1.2 x1 (2 : Int32)
    else
      fm_parent_22 r_1.2 x1 (0 : Int32)
set_option maxHeartbeats 4000000 in
set_option maxRecDepth 100000 in
theorem cm_parent (l : Launch) (D : va_G) (ca : Nat → ClassId) (α : Nat → Nat) (A : Nat → Prop) (σ : mS) (x1 : Int32) (o : Int32 × mS) (h : fm_parent σ x1 = some o) : mMetI l yX12_parent cX12_parent 2 (some .int) rmX12_parent D ca α A σ [.int x1] o := by
  refine Met.ofW (cc := cX12_parent) (maxL := 2) (ret := some .int) (by decide) rfl ?_
  intro p e s m args below meth c s₁ B hml hv
  obtain ⟨rfl, hP, hK, hD0⟩ := hv
  have C : mC p s m _ c cX12_parent 2 D ca := ⟨B.exec, B.bytes, hml, findClass_of_methodNamed B.named, fun w hw => atoms_spec (ws := mWs yX12_parent cX12_parent 2 (some .int)) B.pre w (List.mem_cons_of_mem _ hw), hK⟩
  have hM : mM D ca α A s.heap σ s.heap [] := ⟨hP, hD0, va_S.rf⟩
  have hr := B.returns
  have hlk := B.notSynchronized
  have hx := C.1
  have hb := C.2.1
  have hl := lv_entry ([.ref (α 0), .int x1]) (n := 2) (Nat.le_of_ble_eq_true rfl)
  rw [lg_entry_eq]
  generalize (lg_sl ([.ref (α 0), .int x1]) ++ List.replicate (2 - (lg_sl ([.ref (α 0), .int x1])).length) Slot.unset).toArray = ls at hl ⊢
  have hl : lv_has ls 2 [(0, .ref (α 0)), (1, .int x1)] := hl
  unfold fm_parent at h
  refine lv_aload_n hx hb dX12_parent_0 rfl (lv_at hl 0 rfl) ?_
  refine lv_aload_n hx hb dX12_parent_1 rfl (lv_at hl 0 rfl) ?_
  refine lv_iload_n hx hb dX12_parent_2 rfl (lv_at hl 1 rfl) ?_
  obtain ⟨r_1, hr_1, h⟩ := bd_of h
  refine m_cVi (As := [.int x1]) (rest := [.ref (α 0)]) C hM (cm_isNode l D ca α A σ x1 r_1 hr_1) mwy_isNode ⟨rfl, rfl⟩ ⟨Nat.le_of_ble_eq_true rfl, Nat.le_of_ble_eq_true rfl⟩ rfl rfl (Nat.le_of_ble_eq_true rfl) hl.1 dX12_parent_3 ⟨rfl, rfl⟩ (fun H locs hM => ?_)
  refine lv_if_ne (tgt := 13) hx hb dX12_parent_6 (by decide) (fun c_1 => ?_) (fun c_1 => ?_)
  · have h := br_F c_1 h
    refine lv_iload_n hx hb dX12_parent_13 rfl (lv_at hl 1 rfl) ?_
    refine lv_if_ne (tgt := 21) hx hb dX12_parent_14 (by decide) (fun c_2 => ?_) (fun c_2 => ?_)
    · have h := br_F c_2 h
      refine lv_iconst (v := (0 : Int32)) hx hb dX12_parent_21 (by decide) ?_
      exact gm_parent_22 C hr hlk  _ _ _ _ _ _ hM (lv_sub hl [0, 1] rfl) h
    · have h := br_T c_2 h
      refine lv_iconst (v := (2 : Int32)) hx hb dX12_parent_17 (by decide) ?_
      refine lv_goto (tgt := 22) hx hb dX12_parent_18 (by decide) ?_
      exact gm_parent_22 C hr hlk  _ _ _ _ _ _ hM (lv_sub hl [0, 1] rfl) h
  · have h := br_T c_1 h
    refine lv_iconst (v := (1 : Int32)) hx hb dX12_parent_9 (by decide) ?_
    refine lv_goto (tgt := 22) hx hb dX12_parent_10 (by decide) ?_
    exact gm_parent_22 C hr hlk  _ _ _ _ _ _ hM (lv_sub hl [0, 1] rfl) h
