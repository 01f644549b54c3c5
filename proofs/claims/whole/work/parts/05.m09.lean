/-! The reference's methods: what each makes of the state (fm_..), as the bytecode has it; and that it does (cm_..). -/

/-! lines()V -/
abbrev rmX12_lines : Room := { frames := 2, cells := 0, slots := 0, locals := 46 }
def fm_lines_283 (k_205 : mS → Int32 → Option (mS)) (σ : mS) (x2 : Int32) : Option (mS) :=
  k_205 σ (x2 + (1 : Int32))
set_option maxHeartbeats 4000000 in
set_option maxRecDepth 100000 in
theorem gm_lines_283 {p : Program} {l : Launch} {e : Env} {s : State} {m : MethodId} {args : Array Value} {below : List Frame} {meth : Method} {c : Code} {D : va_G} {ca : Nat → ClassId} {α : Nat → Nat} {A : Nat → Prop} {o : mS} {k_205 : mS → Int32 → Option (mS)} (C : mC p s m args c cX12_lines 4 D ca) (hr : meth.sig.returnType = none) (hlk : meth.locks = false) (hk_205 : ∀ (σ : mS) (x2 : Int32) (H : Heap) (locs : List Loc) (ls : Array Slot), mM D ca α A s.heap σ H locs → lv_has ls 4 [(0, .ref (α 0)), (2, .int x2)] → k_205 σ x2 = some o → mGV p l e rmX12_lines s m args below meth c D ca α A o H locs 205 ls []) : ∀ (σ : mS) (x2 : Int32) (H : Heap) (locs : List Loc) (ls : Array Slot), mM D ca α A s.heap σ H locs → lv_has ls 4 [(0, .ref (α 0)), (2, .int x2)] → fm_lines_283 k_205 σ x2 = some o → mGV p l e rmX12_lines s m args below meth c D ca α A o H locs 283 ls [] := by
  have hx := C.1
  have hb := C.2.1
  intro σ x2 H locs ls hM hl h
  unfold fm_lines_283 at h
  refine lv_iinc (v := (x2 + (1 : Int32))) (lv' := [(2, .int (x2 + (1 : Int32))), (0, .ref (α 0))]) hx hb dX12_lines_283 hl (k := 1) rfl rfl (by decide) rfl (fun ls hl => ?_)
  refine lv_goto (tgt := 205) hx hb dX12_lines_286 (by decide) ?_
  exact hk_205 _ _ _ _ _ hM (lv_sub hl [1, 0] rfl) h
def fm_lines_243 (k_205 : mS → Int32 → Option (mS)) : Nat → mS → Int32 → Int32 → Option (mS)
  | 0, _, _, _ => none
  | n + 1, σ, x2, x3 =>
    if x2 < 0 ∨ 12 ≤ x2.toNatClampNeg then none else
    (fm_lengthOf σ (σ.2.2.1 10 x2.toNatClampNeg)).bind fun r_1 =>
    if r_1.1 ≤ x3 then
      fm_lines_283 k_205 r_1.2 x2
    else
      if x2 < 0 ∨ 12 ≤ x2.toNatClampNeg then none else
      if (((8 : Int32) * (r_1.2.2.2.1 10 x2.toNatClampNeg)) + x3) < 0 ∨ 320 ≤ (((8 : Int32) * (r_1.2.2.2.1 10 x2.toNatClampNeg)) + x3).toNatClampNeg then none else
      (fm_adds r_1.2 (r_1.2.2.2.1 3 (((8 : Int32) * (r_1.2.2.2.1 10 x2.toNatClampNeg)) + x3).toNatClampNeg)).bind fun r_2 =>
      (fm_lines_243 k_205 n) r_2 x2 (x3 + (1 : Int32))
set_option maxHeartbeats 4000000 in
set_option maxRecDepth 100000 in
theorem gm_lines_243 {p : Program} {l : Launch} {e : Env} {s : State} {m : MethodId} {args : Array Value} {below : List Frame} {meth : Method} {c : Code} {D : va_G} {ca : Nat → ClassId} {α : Nat → Nat} {A : Nat → Prop} {o : mS} {k_205 : mS → Int32 → Option (mS)} (C : mC p s m args c cX12_lines 4 D ca) (hr : meth.sig.returnType = none) (hlk : meth.locks = false) (hk_205 : ∀ (σ : mS) (x2 : Int32) (H : Heap) (locs : List Loc) (ls : Array Slot), mM D ca α A s.heap σ H locs → lv_has ls 4 [(0, .ref (α 0)), (2, .int x2)] → k_205 σ x2 = some o → mGV p l e rmX12_lines s m args below meth c D ca α A o H locs 205 ls []) : ∀ (n : Nat) (σ : mS) (x2 : Int32) (x3 : Int32) (H : Heap) (locs : List Loc) (ls : Array Slot), mM D ca α A s.heap σ H locs → lv_has ls 4 [(0, .ref (α 0)), (2, .int x2), (3, .int x3)] → fm_lines_243 k_205 n σ x2 x3 = some o → mGV p l e rmX12_lines s m args below meth c D ca α A o H locs 243 ls [] := by
  have hx := C.1
  have hb := C.2.1
  intro n
  induction n with
  | zero =>
    intro σ x2 x3 H locs ls hM hl h
    cases h
  | succ n ih =>
    intro σ x2 x3 H locs ls hM hl h
    rw [fm_lines_243] at h
    refine lv_iload_n hx hb dX12_lines_243 rfl (lv_at hl 2 rfl) ?_
    refine lv_aload_n hx hb dX12_lines_244 rfl (lv_at hl 0 rfl) ?_
    refine lv_aload_n hx hb dX12_lines_245 rfl (lv_at hl 0 rfl) ?_
    refine m_geta C hM (k := 10) (by decide) rfl dX12_lines_246 ?_
    refine lv_iload_n hx hb dX12_lines_249 rfl (lv_at hl 1 rfl) ?_
    obtain ⟨c_1, h⟩ := ko_of h
    refine m_iald C hM (k := 10) rfl c_1 dX12_lines_250 ?_
    obtain ⟨r_1, hr_1, h⟩ := bd_of h
    refine m_cVi (As := [.int (σ.2.2.1 10 x2.toNatClampNeg)]) (rest := [.int x3]) C hM (cm_lengthOf l D ca α A σ (σ.2.2.1 10 x2.toNatClampNeg) r_1 hr_1) mwy_lengthOf ⟨rfl, rfl⟩ ⟨Nat.le_of_ble_eq_true rfl, Nat.le_of_ble_eq_true rfl⟩ rfl rfl (Nat.le_of_ble_eq_true rfl) hl.1 dX12_lines_251 ⟨rfl, rfl⟩ (fun H locs hM => ?_)
    refine lv_icmp_ge (tgt := 283) hx hb dX12_lines_254 (by decide) (fun c_2 => ?_) (fun c_2 => ?_)
    · have h := br_T c_2 h
      exact gm_lines_283 C hr hlk hk_205 _ _ _ _ _ hM (lv_sub hl [0, 1] rfl) h
    · have h := br_F c_2 h
      refine lv_aload_n hx hb dX12_lines_257 rfl (lv_at hl 0 rfl) ?_
      refine lv_aload_n hx hb dX12_lines_258 rfl (lv_at hl 0 rfl) ?_
      refine m_geta C hM (k := 3) (by decide) rfl dX12_lines_259 ?_
      refine lv_bipush (v := (8 : Int32)) hx hb dX12_lines_262 (by decide) ?_
      refine lv_aload_n hx hb dX12_lines_264 rfl (lv_at hl 0 rfl) ?_
      refine m_geta C hM (k := 10) (by decide) rfl dX12_lines_265 ?_
      refine lv_iload_n hx hb dX12_lines_268 rfl (lv_at hl 1 rfl) ?_
      obtain ⟨c_3, h⟩ := ko_of h
      refine m_iald C hM (k := 10) rfl c_3 dX12_lines_269 ?_
      refine lv_imul hx hb dX12_lines_270 ?_
      refine lv_iload_n hx hb dX12_lines_271 rfl (lv_at hl 2 rfl) ?_
      refine lv_iadd hx hb dX12_lines_272 ?_
      obtain ⟨c_4, h⟩ := ko_of h
      refine m_iald C hM (k := 3) rfl c_4 dX12_lines_273 ?_
      obtain ⟨r_2, hr_2, h⟩ := bd_of h
      refine m_cVv (As := [.int (r_1.2.2.2.1 3 (((8 : Int32) * (r_1.2.2.2.1 10 x2.toNatClampNeg)) + x3).toNatClampNeg)]) (rest := []) C hM (cm_adds l D ca α A r_1.2 (r_1.2.2.2.1 3 (((8 : Int32) * (r_1.2.2.2.1 10 x2.toNatClampNeg)) + x3).toNatClampNeg) r_2 hr_2) mwy_adds ⟨rfl, rfl⟩ ⟨Nat.le_of_ble_eq_true rfl, Nat.le_of_ble_eq_true rfl⟩ rfl rfl (Nat.le_of_ble_eq_true rfl) hl.1 dX12_lines_274 ⟨rfl, rfl⟩ (fun H locs hM => ?_)
      refine lv_iinc (v := (x3 + (1 : Int32))) (lv' := [(3, .int (x3 + (1 : Int32))), (0, .ref (α 0)), (2, .int x2)]) hx hb dX12_lines_277 hl (k := 2) rfl rfl (by decide) rfl (fun ls hl => ?_)
      refine lv_goto (tgt := 243) hx hb dX12_lines_280 (by decide) ?_
      exact ih _ _ _ _ _ _ hM (lv_sub hl [1, 2, 0] rfl) h
def fm_lines_205 : Nat → mS → Int32 → Option (mS)
  | 0, _, _ => none
  | n + 1, σ, x2 =>
    if (σ.1 16) ≤ x2 then
      some σ
    else
      if (((12 : Int32) * (σ.1 34)) + x2) < 0 ∨ 960 ≤ (((12 : Int32) * (σ.1 34)) + x2).toNatClampNeg then none else
      if (σ.2.2.1 22 (((12 : Int32) * (σ.1 34)) + x2).toNatClampNeg) = (100 : Int32) then
        (fm_adds σ (32 : Int32)).bind fun r_1 =>
        fm_lines_243 (fm_lines_205 n) 3000 r_1 x2 (0 : Int32)
      else
        fm_lines_283 (fm_lines_205 n) σ x2
set_option maxHeartbeats 4000000 in
set_option maxRecDepth 100000 in
theorem gm_lines_205 {p : Program} {l : Launch} {e : Env} {s : State} {m : MethodId} {args : Array Value} {below : List Frame} {meth : Method} {c : Code} {D : va_G} {ca : Nat → ClassId} {α : Nat → Nat} {A : Nat → Prop} {o : mS} (C : mC p s m args c cX12_lines 4 D ca) (hr : meth.sig.returnType = none) (hlk : meth.locks = false) : ∀ (n : Nat) (σ : mS) (x2 : Int32) (H : Heap) (locs : List Loc) (ls : Array Slot), mM D ca α A s.heap σ H locs → lv_has ls 4 [(0, .ref (α 0)), (2, .int x2)] → fm_lines_205 n σ x2 = some o → mGV p l e rmX12_lines s m args below meth c D ca α A o H locs 205 ls [] := by
  have hx := C.1
  have hb := C.2.1
  intro n
  induction n with
  | zero =>
    intro σ x2 H locs ls hM hl h
    cases h
  | succ n ih =>
    intro σ x2 H locs ls hM hl h
    rw [fm_lines_205] at h
    refine lv_iload_n hx hb dX12_lines_205 rfl (lv_at hl 1 rfl) ?_
    refine lv_aload_n hx hb dX12_lines_206 rfl (lv_at hl 0 rfl) ?_
    refine m_geti C hM (k := 16) (Or.inl rfl) rfl dX12_lines_207 ?_
    refine lv_icmp_ge (tgt := 289) hx hb dX12_lines_210 (by decide) (fun c_1 => ?_) (fun c_1 => ?_)
    · have h := br_T c_1 h
      exact m_rv C hM hr hlk dX12_lines_289 h
    · have h := br_F c_1 h
      refine lv_aload_n hx hb dX12_lines_213 rfl (lv_at hl 0 rfl) ?_
      refine m_geta C hM (k := 22) (by decide) rfl dX12_lines_214 ?_
      refine lv_bipush (v := (12 : Int32)) hx hb dX12_lines_217 (by decide) ?_
      refine lv_aload_n hx hb dX12_lines_219 rfl (lv_at hl 0 rfl) ?_
      refine m_geti C hM (k := 34) (Or.inl rfl) rfl dX12_lines_220 ?_
      refine lv_imul hx hb dX12_lines_223 ?_
      refine lv_iload_n hx hb dX12_lines_224 rfl (lv_at hl 1 rfl) ?_
      refine lv_iadd hx hb dX12_lines_225 ?_
      obtain ⟨c_2, h⟩ := ko_of h
      refine m_iald C hM (k := 22) rfl c_2 dX12_lines_226 ?_
      refine lv_bipush (v := (100 : Int32)) hx hb dX12_lines_227 (by decide) ?_
      refine lv_icmp_eq (tgt := 235) hx hb dX12_lines_229 (by decide) (fun c_3 => ?_) (fun c_3 => ?_)
      · have h := br_T c_3 h
        refine lv_aload_n hx hb dX12_lines_235 rfl (lv_at hl 0 rfl) ?_
        refine lv_bipush (v := (32 : Int32)) hx hb dX12_lines_236 (by decide) ?_
        obtain ⟨r_1, hr_1, h⟩ := bd_of h
        refine m_cVv (As := [.int (32 : Int32)]) (rest := []) C hM (cm_adds l D ca α A σ (32 : Int32) r_1 hr_1) mwy_adds ⟨rfl, rfl⟩ ⟨Nat.le_of_ble_eq_true rfl, Nat.le_of_ble_eq_true rfl⟩ rfl rfl (Nat.le_of_ble_eq_true rfl) hl.1 dX12_lines_238 ⟨rfl, rfl⟩ (fun H locs hM => ?_)
        refine lv_iconst (v := (0 : Int32)) hx hb dX12_lines_241 (by decide) ?_
        refine lv_istore_n (lv' := [(3, .int (0 : Int32)), (0, .ref (α 0)), (2, .int x2)]) hx hb dX12_lines_242 rfl hl (by decide) rfl (fun ls hl => ?_)
        exact gm_lines_243 C hr hlk ih _ _ _ _ _ _ _ hM (lv_sub hl [1, 2, 0] rfl) h
      · have h := br_F c_3 h
        refine lv_goto (tgt := 283) hx hb dX12_lines_232 (by decide) ?_
        exact gm_lines_283 C hr hlk ih _ _ _ _ _ hM (lv_sub hl [0, 1] rfl) h
def fm_lines_197 (σ : mS) : Option (mS) :=
  (fm_adds σ (58 : Int32)).bind fun r_1 =>
  fm_lines_205 3000 r_1 (0 : Int32)
set_option maxHeartbeats 4000000 in
set_option maxRecDepth 100000 in
theorem gm_lines_197 {p : Program} {l : Launch} {e : Env} {s : State} {m : MethodId} {args : Array Value} {below : List Frame} {meth : Method} {c : Code} {D : va_G} {ca : Nat → ClassId} {α : Nat → Nat} {A : Nat → Prop} {o : mS} (C : mC p s m args c cX12_lines 4 D ca) (hr : meth.sig.returnType = none) (hlk : meth.locks = false) : ∀ (σ : mS) (H : Heap) (locs : List Loc) (ls : Array Slot), mM D ca α A s.heap σ H locs → lv_has ls 4 [(0, .ref (α 0))] → fm_lines_197 σ = some o → mGV p l e rmX12_lines s m args below meth c D ca α A o H locs 197 ls [] := by
  have hx := C.1
  have hb := C.2.1
  intro σ H locs ls hM hl h
  unfold fm_lines_197 at h
  refine lv_aload_n hx hb dX12_lines_197 rfl (lv_at hl 0 rfl) ?_
  refine lv_bipush (v := (58 : Int32)) hx hb dX12_lines_198 (by decide) ?_
  obtain ⟨r_1, hr_1, h⟩ := bd_of h
  refine m_cVv (As := [.int (58 : Int32)]) (rest := []) C hM (cm_adds l D ca α A σ (58 : Int32) r_1 hr_1) mwy_adds ⟨rfl, rfl⟩ ⟨Nat.le_of_ble_eq_true rfl, Nat.le_of_ble_eq_true rfl⟩ rfl rfl (Nat.le_of_ble_eq_true rfl) hl.1 dX12_lines_200 ⟨rfl, rfl⟩ (fun H locs hM => ?_)
  refine lv_iconst (v := (0 : Int32)) hx hb dX12_lines_203 (by decide) ?_
  refine lv_istore_n (lv' := [(2, .int (0 : Int32)), (0, .ref (α 0))]) hx hb dX12_lines_204 rfl hl (by decide) rfl (fun ls hl => ?_)
  exact gm_lines_205 C hr hlk  _ _ _ _ _ _ hM (lv_sub hl [1, 0] rfl) h
def fm_lines_45 : Nat → mS → Int32 → Option (mS)
  | 0, _, _ => none
  | n + 1, σ, x2 =>
    if (σ.1 34) < 0 ∨ 80 ≤ (σ.1 34).toNatClampNeg then none else
    if (σ.2.2.1 27 (σ.1 34).toNatClampNeg) ≤ x2 then
      fm_lines_197 σ
    else
      if (((30 : Int32) * (σ.1 34)) + x2) < 0 ∨ 2400 ≤ (((30 : Int32) * (σ.1 34)) + x2).toNatClampNeg then none else
      (fm_adds σ (σ.2.2.1 26 (((30 : Int32) * (σ.1 34)) + x2).toNatClampNeg)).bind fun r_1 =>
      (fm_lines_45 n) r_1 (x2 + (1 : Int32))
set_option maxHeartbeats 4000000 in
set_option maxRecDepth 100000 in
theorem gm_lines_45 {p : Program} {l : Launch} {e : Env} {s : State} {m : MethodId} {args : Array Value} {below : List Frame} {meth : Method} {c : Code} {D : va_G} {ca : Nat → ClassId} {α : Nat → Nat} {A : Nat → Prop} {o : mS} (C : mC p s m args c cX12_lines 4 D ca) (hr : meth.sig.returnType = none) (hlk : meth.locks = false) : ∀ (n : Nat) (σ : mS) (x2 : Int32) (H : Heap) (locs : List Loc) (ls : Array Slot), mM D ca α A s.heap σ H locs → lv_has ls 4 [(0, .ref (α 0)), (2, .int x2)] → fm_lines_45 n σ x2 = some o → mGV p l e rmX12_lines s m args below meth c D ca α A o H locs 45 ls [] := by
  have hx := C.1
  have hb := C.2.1
  intro n
  induction n with
  | zero =>
    intro σ x2 H locs ls hM hl h
    cases h
  | succ n ih =>
    intro σ x2 H locs ls hM hl h
    rw [fm_lines_45] at h
    refine lv_iload_n hx hb dX12_lines_45 rfl (lv_at hl 1 rfl) ?_
    refine lv_aload_n hx hb dX12_lines_46 rfl (lv_at hl 0 rfl) ?_
    refine m_geta C hM (k := 27) (by decide) rfl dX12_lines_47 ?_
    refine lv_aload_n hx hb dX12_lines_50 rfl (lv_at hl 0 rfl) ?_
    refine m_geti C hM (k := 34) (Or.inl rfl) rfl dX12_lines_51 ?_
    obtain ⟨c_1, h⟩ := ko_of h
    refine m_iald C hM (k := 27) rfl c_1 dX12_lines_54 ?_
    refine lv_icmp_ge (tgt := 82) hx hb dX12_lines_55 (by decide) (fun c_2 => ?_) (fun c_2 => ?_)
    · have h := br_T c_2 h
      refine lv_goto (tgt := 197) hx hb dX12_lines_82 (by decide) ?_
      exact gm_lines_197 C hr hlk  _ _ _ _ hM (lv_sub hl [0] rfl) h
    · have h := br_F c_2 h
      refine lv_aload_n hx hb dX12_lines_58 rfl (lv_at hl 0 rfl) ?_
      refine lv_aload_n hx hb dX12_lines_59 rfl (lv_at hl 0 rfl) ?_
      refine m_geta C hM (k := 26) (by decide) rfl dX12_lines_60 ?_
      refine lv_bipush (v := (30 : Int32)) hx hb dX12_lines_63 (by decide) ?_
      refine lv_aload_n hx hb dX12_lines_65 rfl (lv_at hl 0 rfl) ?_
      refine m_geti C hM (k := 34) (Or.inl rfl) rfl dX12_lines_66 ?_
      refine lv_imul hx hb dX12_lines_69 ?_
      refine lv_iload_n hx hb dX12_lines_70 rfl (lv_at hl 1 rfl) ?_
      refine lv_iadd hx hb dX12_lines_71 ?_
      obtain ⟨c_3, h⟩ := ko_of h
      refine m_iald C hM (k := 26) rfl c_3 dX12_lines_72 ?_
      obtain ⟨r_1, hr_1, h⟩ := bd_of h
      refine m_cVv (As := [.int (σ.2.2.1 26 (((30 : Int32) * (σ.1 34)) + x2).toNatClampNeg)]) (rest := []) C hM (cm_adds l D ca α A σ (σ.2.2.1 26 (((30 : Int32) * (σ.1 34)) + x2).toNatClampNeg) r_1 hr_1) mwy_adds ⟨rfl, rfl⟩ ⟨Nat.le_of_ble_eq_true rfl, Nat.le_of_ble_eq_true rfl⟩ rfl rfl (Nat.le_of_ble_eq_true rfl) hl.1 dX12_lines_73 ⟨rfl, rfl⟩ (fun H locs hM => ?_)
      refine lv_iinc (v := (x2 + (1 : Int32))) (lv' := [(2, .int (x2 + (1 : Int32))), (0, .ref (α 0))]) hx hb dX12_lines_76 hl (k := 1) rfl rfl (by decide) rfl (fun ls hl => ?_)
      refine lv_goto (tgt := 45) hx hb dX12_lines_79 (by decide) ?_
      exact ih _ _ _ _ _ hM (lv_sub hl [1, 0] rfl) h
def fm_lines_178 (σ : mS) : Option (mS) :=
  if (σ.1 34) < 0 ∨ 80 ≤ (σ.1 34).toNatClampNeg then none else
  if (10 : Int32) = 0 then none else
  (fm_adds σ ((48 : Int32) + ((σ.2.2.1 29 (σ.1 34).toNatClampNeg) - (σ.2.2.1 29 (σ.1 34).toNatClampNeg) / (10 : Int32) * (10 : Int32)))).bind fun r_1 =>
  fm_lines_197 r_1
set_option maxHeartbeats 4000000 in
set_option maxRecDepth 100000 in
theorem gm_lines_178 {p : Program} {l : Launch} {e : Env} {s : State} {m : MethodId} {args : Array Value} {below : List Frame} {meth : Method} {c : Code} {D : va_G} {ca : Nat → ClassId} {α : Nat → Nat} {A : Nat → Prop} {o : mS} (C : mC p s m args c cX12_lines 4 D ca) (hr : meth.sig.returnType = none) (hlk : meth.locks = false) : ∀ (σ : mS) (H : Heap) (locs : List Loc) (ls : Array Slot), mM D ca α A s.heap σ H locs → lv_has ls 4 [(0, .ref (α 0))] → fm_lines_178 σ = some o → mGV p l e rmX12_lines s m args below meth c D ca α A o H locs 178 ls [] := by
  have hx := C.1
  have hb := C.2.1
  intro σ H locs ls hM hl h
  unfold fm_lines_178 at h
  refine lv_aload_n hx hb dX12_lines_178 rfl (lv_at hl 0 rfl) ?_
  refine lv_bipush (v := (48 : Int32)) hx hb dX12_lines_179 (by decide) ?_
  refine lv_aload_n hx hb dX12_lines_181 rfl (lv_at hl 0 rfl) ?_
  refine m_geta C hM (k := 29) (by decide) rfl dX12_lines_182 ?_
  refine lv_aload_n hx hb dX12_lines_185 rfl (lv_at hl 0 rfl) ?_
  refine m_geti C hM (k := 34) (Or.inl rfl) rfl dX12_lines_186 ?_
  obtain ⟨c_1, h⟩ := ko_of h
  refine m_iald C hM (k := 29) rfl c_1 dX12_lines_189 ?_
  refine lv_bipush (v := (10 : Int32)) hx hb dX12_lines_190 (by decide) ?_
  obtain ⟨c_2, h⟩ := ko_of h
  refine lv_irem hx hb dX12_lines_192 c_2 ?_
  refine lv_iadd hx hb dX12_lines_193 ?_
  obtain ⟨r_1, hr_1, h⟩ := bd_of h
  refine m_cVv (As := [.int ((48 : Int32) + ((σ.2.2.1 29 (σ.1 34).toNatClampNeg) - (σ.2.2.1 29 (σ.1 34).toNatClampNeg) / (10 : Int32) * (10 : Int32)))]) (rest := []) C hM (cm_adds l D ca α A σ ((48 : Int32) + ((σ.2.2.1 29 (σ.1 34).toNatClampNeg) - (σ.2.2.1 29 (σ.1 34).toNatClampNeg) / (10 : Int32) * (10 : Int32))) r_1 hr_1) mwy_adds ⟨rfl, rfl⟩ ⟨Nat.le_of_ble_eq_true rfl, Nat.le_of_ble_eq_true rfl⟩ rfl rfl (Nat.le_of_ble_eq_true rfl) hl.1 dX12_lines_194 ⟨rfl, rfl⟩ (fun H locs hM => ?_)
  exact gm_lines_197 C hr hlk  _ _ _ _ hM (lv_sub hl [0] rfl) h
def fm_lines_139 (σ : mS) : Option (mS) :=
  (fm_adds σ (32 : Int32)).bind fun r_1 =>
  if (r_1.1 34) < 0 ∨ 80 ≤ (r_1.1 34).toNatClampNeg then none else
  if (r_1.2.2.1 29 (r_1.1 34).toNatClampNeg) ≤ (9 : Int32) then
    fm_lines_178 r_1
  else
    if (r_1.1 34) < 0 ∨ 80 ≤ (r_1.1 34).toNatClampNeg then none else
    if (10 : Int32) = 0 then none else
    (fm_adds r_1 ((48 : Int32) + ((r_1.2.2.1 29 (r_1.1 34).toNatClampNeg) / (10 : Int32)))).bind fun r_2 =>
    fm_lines_178 r_2
set_option maxHeartbeats 4000000 in
set_option maxRecDepth 100000 in
theorem gm_lines_139 {p : Program} {l : Launch} {e : Env} {s : State} {m : MethodId} {args : Array Value} {below : List Frame} {meth : Method} {c : Code} {D : va_G} {ca : Nat → ClassId} {α : Nat → Nat} {A : Nat → Prop} {o : mS} (C : mC p s m args c cX12_lines 4 D ca) (hr : meth.sig.returnType = none) (hlk : meth.locks = false) : ∀ (σ : mS) (H : Heap) (locs : List Loc) (ls : Array Slot), mM D ca α A s.heap σ H locs → lv_has ls 4 [(0, .ref (α 0))] → fm_lines_139 σ = some o → mGV p l e rmX12_lines s m args below meth c D ca α A o H locs 139 ls [] := by
  have hx := C.1
  have hb := C.2.1
  intro σ H locs ls hM hl h
  unfold fm_lines_139 at h
  refine lv_aload_n hx hb dX12_lines_139 rfl (lv_at hl 0 rfl) ?_
  refine lv_bipush (v := (32 : Int32)) hx hb dX12_lines_140 (by decide) ?_
  obtain ⟨r_1, hr_1, h⟩ := bd_of h
  refine m_cVv (As := [.int (32 : Int32)]) (rest := []) C hM (cm_adds l D ca α A σ (32 : Int32) r_1 hr_1) mwy_adds ⟨rfl, rfl⟩ ⟨Nat.le_of_ble_eq_true rfl, Nat.le_of_ble_eq_true rfl⟩ rfl rfl (Nat.le_of_ble_eq_true rfl) hl.1 dX12_lines_142 ⟨rfl, rfl⟩ (fun H locs hM => ?_)
  refine lv_aload_n hx hb dX12_lines_145 rfl (lv_at hl 0 rfl) ?_
  refine m_geta C hM (k := 29) (by decide) rfl dX12_lines_146 ?_
  refine lv_aload_n hx hb dX12_lines_149 rfl (lv_at hl 0 rfl) ?_
  refine m_geti C hM (k := 34) (Or.inl rfl) rfl dX12_lines_150 ?_
  obtain ⟨c_1, h⟩ := ko_of h
  refine m_iald C hM (k := 29) rfl c_1 dX12_lines_153 ?_
  refine lv_bipush (v := (9 : Int32)) hx hb dX12_lines_154 (by decide) ?_
  refine lv_icmp_le (tgt := 178) hx hb dX12_lines_156 (by decide) (fun c_2 => ?_) (fun c_2 => ?_)
  · have h := br_T c_2 h
    exact gm_lines_178 C hr hlk  _ _ _ _ hM (lv_sub hl [0] rfl) h
  · have h := br_F c_2 h
    refine lv_aload_n hx hb dX12_lines_159 rfl (lv_at hl 0 rfl) ?_
    refine lv_bipush (v := (48 : Int32)) hx hb dX12_lines_160 (by decide) ?_
    refine lv_aload_n hx hb dX12_lines_162 rfl (lv_at hl 0 rfl) ?_
    refine m_geta C hM (k := 29) (by decide) rfl dX12_lines_163 ?_
    refine lv_aload_n hx hb dX12_lines_166 rfl (lv_at hl 0 rfl) ?_
    refine m_geti C hM (k := 34) (Or.inl rfl) rfl dX12_lines_167 ?_
    obtain ⟨c_3, h⟩ := ko_of h
    refine m_iald C hM (k := 29) rfl c_3 dX12_lines_170 ?_
    refine lv_bipush (v := (10 : Int32)) hx hb dX12_lines_171 (by decide) ?_
    obtain ⟨c_4, h⟩ := ko_of h
    refine lv_idiv hx hb dX12_lines_173 c_4 ?_
    refine lv_iadd hx hb dX12_lines_174 ?_
    obtain ⟨r_2, hr_2, h⟩ := bd_of h
    refine m_cVv (As := [.int ((48 : Int32) + ((r_1.2.2.1 29 (r_1.1 34).toNatClampNeg) / (10 : Int32)))]) (rest := []) C hM (cm_adds l D ca α A r_1 ((48 : Int32) + ((r_1.2.2.1 29 (r_1.1 34).toNatClampNeg) / (10 : Int32))) r_2 hr_2) mwy_adds ⟨rfl, rfl⟩ ⟨Nat.le_of_ble_eq_true rfl, Nat.le_of_ble_eq_true rfl⟩ rfl rfl (Nat.le_of_ble_eq_true rfl) hl.1 dX12_lines_175 ⟨rfl, rfl⟩ (fun H locs hM => ?_)
    exact gm_lines_178 C hr hlk  _ _ _ _ hM (lv_sub hl [0] rfl) h
def fm_lines_120 (σ : mS) (x1 : Int32) : Option (mS) :=
  if x1 = (3 : Int32) then
    (fm_addsAll σ (109 : Int32) (101 : Int32) (114 : Int32) (103 : Int32) (101 : Int32)).bind fun r_1 =>
    fm_lines_139 r_1
  else
    fm_lines_139 σ
set_option maxHeartbeats 4000000 in
set_option maxRecDepth 100000 in
theorem gm_lines_120 {p : Program} {l : Launch} {e : Env} {s : State} {m : MethodId} {args : Array Value} {below : List Frame} {meth : Method} {c : Code} {D : va_G} {ca : Nat → ClassId} {α : Nat → Nat} {A : Nat → Prop} {o : mS} (C : mC p s m args c cX12_lines 4 D ca) (hr : meth.sig.returnType = none) (hlk : meth.locks = false) : ∀ (σ : mS) (x1 : Int32) (H : Heap) (locs : List Loc) (ls : Array Slot), mM D ca α A s.heap σ H locs → lv_has ls 4 [(0, .ref (α 0)), (1, .int x1)] → fm_lines_120 σ x1 = some o → mGV p l e rmX12_lines s m args below meth c D ca α A o H locs 120 ls [] := by
  have hx := C.1
  have hb := C.2.1
  intro σ x1 H locs ls hM hl h
  unfold fm_lines_120 at h
  refine lv_iload_n hx hb dX12_lines_120 rfl (lv_at hl 1 rfl) ?_
  refine lv_iconst (v := (3 : Int32)) hx hb dX12_lines_121 (by decide) ?_
  refine lv_icmp_ne (tgt := 139) hx hb dX12_lines_122 (by decide) (fun c_1 => ?_) (fun c_1 => ?_)
  · have h := br_F c_1 h
    exact gm_lines_139 C hr hlk  _ _ _ _ hM (lv_sub hl [0] rfl) h
  · have h := br_T c_1 h
    refine lv_aload_n hx hb dX12_lines_125 rfl (lv_at hl 0 rfl) ?_
    refine lv_bipush (v := (109 : Int32)) hx hb dX12_lines_126 (by decide) ?_
    refine lv_bipush (v := (101 : Int32)) hx hb dX12_lines_128 (by decide) ?_
    refine lv_bipush (v := (114 : Int32)) hx hb dX12_lines_130 (by decide) ?_
    refine lv_bipush (v := (103 : Int32)) hx hb dX12_lines_132 (by decide) ?_
    refine lv_bipush (v := (101 : Int32)) hx hb dX12_lines_134 (by decide) ?_
    obtain ⟨r_1, hr_1, h⟩ := bd_of h
    refine m_cVv (As := [.int (109 : Int32), .int (101 : Int32), .int (114 : Int32), .int (103 : Int32), .int (101 : Int32)]) (rest := []) C hM (cm_addsAll l D ca α A σ (109 : Int32) (101 : Int32) (114 : Int32) (103 : Int32) (101 : Int32) r_1 hr_1) mwy_addsAll ⟨rfl, rfl⟩ ⟨Nat.le_of_ble_eq_true rfl, Nat.le_of_ble_eq_true rfl⟩ rfl rfl (Nat.le_of_ble_eq_true rfl) hl.1 dX12_lines_136 ⟨rfl, rfl⟩ (fun H locs hM => ?_)
    exact gm_lines_139 C hr hlk  _ _ _ _ hM (lv_sub hl [0] rfl) h
def fm_lines_102 (σ : mS) (x1 : Int32) : Option (mS) :=
  if x1 = (2 : Int32) then
    (fm_addsAll σ (114 : Int32) (101 : Int32) (97 : Int32) (100 : Int32) (0 : Int32)).bind fun r_1 =>
    fm_lines_120 r_1 x1
  else
    fm_lines_120 σ x1
set_option maxHeartbeats 4000000 in
set_option maxRecDepth 100000 in
theorem gm_lines_102 {p : Program} {l : Launch} {e : Env} {s : State} {m : MethodId} {args : Array Value} {below : List Frame} {meth : Method} {c : Code} {D : va_G} {ca : Nat → ClassId} {α : Nat → Nat} {A : Nat → Prop} {o : mS} (C : mC p s m args c cX12_lines 4 D ca) (hr : meth.sig.returnType = none) (hlk : meth.locks = false) : ∀ (σ : mS) (x1 : Int32) (H : Heap) (locs : List Loc) (ls : Array Slot), mM D ca α A s.heap σ H locs → lv_has ls 4 [(0, .ref (α 0)), (1, .int x1)] → fm_lines_102 σ x1 = some o → mGV p l e rmX12_lines s m args below meth c D ca α A o H locs 102 ls [] := by
  have hx := C.1
  have hb := C.2.1
  intro σ x1 H locs ls hM hl h
  unfold fm_lines_102 at h
  refine lv_iload_n hx hb dX12_lines_102 rfl (lv_at hl 1 rfl) ?_
  refine lv_iconst (v := (2 : Int32)) hx hb dX12_lines_103 (by decide) ?_
  refine lv_icmp_ne (tgt := 120) hx hb dX12_lines_104 (by decide) (fun c_1 => ?_) (fun c_1 => ?_)
  · have h := br_F c_1 h
    exact gm_lines_120 C hr hlk  _ _ _ _ _ hM (lv_sub hl [0, 1] rfl) h
  · have h := br_T c_1 h
    refine lv_aload_n hx hb dX12_lines_107 rfl (lv_at hl 0 rfl) ?_
    refine lv_bipush (v := (114 : Int32)) hx hb dX12_lines_108 (by decide) ?_
    refine lv_bipush (v := (101 : Int32)) hx hb dX12_lines_110 (by decide) ?_
    refine lv_bipush (v := (97 : Int32)) hx hb dX12_lines_112 (by decide) ?_
    refine lv_bipush (v := (100 : Int32)) hx hb dX12_lines_114 (by decide) ?_
    refine lv_iconst (v := (0 : Int32)) hx hb dX12_lines_116 (by decide) ?_
    obtain ⟨r_1, hr_1, h⟩ := bd_of h
    refine m_cVv (As := [.int (114 : Int32), .int (101 : Int32), .int (97 : Int32), .int (100 : Int32), .int (0 : Int32)]) (rest := []) C hM (cm_addsAll l D ca α A σ (114 : Int32) (101 : Int32) (97 : Int32) (100 : Int32) (0 : Int32) r_1 hr_1) mwy_addsAll ⟨rfl, rfl⟩ ⟨Nat.le_of_ble_eq_true rfl, Nat.le_of_ble_eq_true rfl⟩ rfl rfl (Nat.le_of_ble_eq_true rfl) hl.1 dX12_lines_117 ⟨rfl, rfl⟩ (fun H locs hM => ?_)
    exact gm_lines_120 C hr hlk  _ _ _ _ _ hM (lv_sub hl [0, 1] rfl) h
def fm_lines (σ : mS) : Option (mS) :=
  if ((mI σ 52 (0 : Int32)).1 34) < 0 ∨ 80 ≤ ((mI σ 52 (0 : Int32)).1 34).toNatClampNeg then none else
  if ((mI σ 52 (0 : Int32)).1 34) = 0 then
    (fm_addsAll (mI σ 52 (0 : Int32)) (115 : Int32) (116 : Int32) (97 : Int32) (114 : Int32) (116 : Int32)).bind fun r_2 =>
    fm_lines_197 r_2
  else
    if ((mI σ 52 (0 : Int32)).2.2.1 28 ((mI σ 52 (0 : Int32)).1 34).toNatClampNeg) = 0 then
      fm_lines_45 3000 (mI σ 52 (0 : Int32)) (0 : Int32)
    else
      if ((mI σ 52 (0 : Int32)).2.2.1 28 ((mI σ 52 (0 : Int32)).1 34).toNatClampNeg) = (1 : Int32) then
        (fm_addsAll (mI σ 52 (0 : Int32)) (98 : Int32) (117 : Int32) (121 : Int32) (0 : Int32) (0 : Int32)).bind fun r_1 =>
        fm_lines_102 r_1 ((mI σ 52 (0 : Int32)).2.2.1 28 ((mI σ 52 (0 : Int32)).1 34).toNatClampNeg)
      else
        fm_lines_102 (mI σ 52 (0 : Int32)) ((mI σ 52 (0 : Int32)).2.2.1 28 ((mI σ 52 (0 : Int32)).1 34).toNatClampNeg)
set_option maxHeartbeats 4000000 in
set_option maxRecDepth 100000 in
theorem cm_lines (l : Launch) (D : va_G) (ca : Nat → ClassId) (α : Nat → Nat) (A : Nat → Prop) (σ : mS) (o : mS) (h : fm_lines σ  = some o) : mMetV l yX12_lines cX12_lines 4 (none) rmX12_lines D ca α A σ [] o := by
  refine Met.ofW (cc := cX12_lines) (maxL := 4) (ret := none) (by decide) rfl ?_
  intro p e s m args below meth c s₁ B hml hv
  obtain ⟨rfl, hP, hK, hD0⟩ := hv
  have C : mC p s m _ c cX12_lines 4 D ca := ⟨B.exec, B.bytes, hml, findClass_of_methodNamed B.named, fun w hw => atoms_spec (ws := mWs yX12_lines cX12_lines 4 (none)) B.pre w (List.mem_cons_of_mem _ hw), hK⟩
  have hM : mM D ca α A s.heap σ s.heap [] := ⟨hP, hD0, va_S.rf⟩
  have hr := B.returns
  have hlk := B.notSynchronized
  have hx := C.1
  have hb := C.2.1
  have hl := lv_entry ([.ref (α 0)]) (n := 4) (Nat.le_of_ble_eq_true rfl)
  rw [lg_entry_eq]
  generalize (lg_sl ([.ref (α 0)]) ++ List.replicate (4 - (lg_sl ([.ref (α 0)])).length) Slot.unset).toArray = ls at hl ⊢
  have hl : lv_has ls 4 [(0, .ref (α 0))] := hl
  unfold fm_lines at h
  refine lv_aload_n hx hb dX12_lines_0 rfl (lv_at hl 0 rfl) ?_
  refine lv_iconst (v := (0 : Int32)) hx hb dX12_lines_1 (by decide) ?_
  refine m_puti C hM (k := 52) rfl rfl dX12_lines_2 (fun H locs hM => ?_)
  refine lv_aload_n hx hb dX12_lines_5 rfl (lv_at hl 0 rfl) ?_
  refine m_geta C hM (k := 28) (by decide) rfl dX12_lines_6 ?_
  refine lv_aload_n hx hb dX12_lines_9 rfl (lv_at hl 0 rfl) ?_
  refine m_geti C hM (k := 34) (Or.inl rfl) rfl dX12_lines_10 ?_
  obtain ⟨c_1, h⟩ := ko_of h
  refine m_iald C hM (k := 28) rfl c_1 dX12_lines_13 ?_
  refine lv_istore_n (lv' := [(1, .int ((mI σ 52 (0 : Int32)).2.2.1 28 ((mI σ 52 (0 : Int32)).1 34).toNatClampNeg)), (0, .ref (α 0))]) hx hb dX12_lines_14 rfl hl (by decide) rfl (fun ls hl => ?_)
  refine lv_aload_n hx hb dX12_lines_15 rfl (lv_at hl 1 rfl) ?_
  refine m_geti C hM (k := 34) (Or.inl rfl) rfl dX12_lines_16 ?_
  refine lv_if_ne (tgt := 39) hx hb dX12_lines_19 (by decide) (fun c_2 => ?_) (fun c_2 => ?_)
  · have h := br_F c_2 h
    refine lv_iload_n hx hb dX12_lines_39 rfl (lv_at hl 0 rfl) ?_
    refine lv_if_ne (tgt := 85) hx hb dX12_lines_40 (by decide) (fun c_3 => ?_) (fun c_3 => ?_)
    · have h := br_F c_3 h
      refine lv_iload_n hx hb dX12_lines_85 rfl (lv_at hl 0 rfl) ?_
      refine lv_iconst (v := (1 : Int32)) hx hb dX12_lines_86 (by decide) ?_
      refine lv_icmp_ne (tgt := 102) hx hb dX12_lines_87 (by decide) (fun c_4 => ?_) (fun c_4 => ?_)
      · have h := br_F c_4 h
        exact gm_lines_102 C hr hlk  _ _ _ _ _ hM (lv_sub hl [1, 0] rfl) h
      · have h := br_T c_4 h
        refine lv_aload_n hx hb dX12_lines_90 rfl (lv_at hl 1 rfl) ?_
        refine lv_bipush (v := (98 : Int32)) hx hb dX12_lines_91 (by decide) ?_
        refine lv_bipush (v := (117 : Int32)) hx hb dX12_lines_93 (by decide) ?_
        refine lv_bipush (v := (121 : Int32)) hx hb dX12_lines_95 (by decide) ?_
        refine lv_iconst (v := (0 : Int32)) hx hb dX12_lines_97 (by decide) ?_
        refine lv_iconst (v := (0 : Int32)) hx hb dX12_lines_98 (by decide) ?_
        obtain ⟨r_1, hr_1, h⟩ := bd_of h
        refine m_cVv (As := [.int (98 : Int32), .int (117 : Int32), .int (121 : Int32), .int (0 : Int32), .int (0 : Int32)]) (rest := []) C hM (cm_addsAll l D ca α A (mI σ 52 (0 : Int32)) (98 : Int32) (117 : Int32) (121 : Int32) (0 : Int32) (0 : Int32) r_1 hr_1) mwy_addsAll ⟨rfl, rfl⟩ ⟨Nat.le_of_ble_eq_true rfl, Nat.le_of_ble_eq_true rfl⟩ rfl rfl (Nat.le_of_ble_eq_true rfl) hl.1 dX12_lines_99 ⟨rfl, rfl⟩ (fun H locs hM => ?_)
        exact gm_lines_102 C hr hlk  _ _ _ _ _ hM (lv_sub hl [1, 0] rfl) h
    · have h := br_T c_3 h
      refine lv_iconst (v := (0 : Int32)) hx hb dX12_lines_43 (by decide) ?_
      refine lv_istore_n (lv' := [(2, .int (0 : Int32)), (1, .int ((mI σ 52 (0 : Int32)).2.2.1 28 ((mI σ 52 (0 : Int32)).1 34).toNatClampNeg)), (0, .ref (α 0))]) hx hb dX12_lines_44 rfl hl (by decide) rfl (fun ls hl => ?_)
      exact gm_lines_45 C hr hlk  _ _ _ _ _ _ hM (lv_sub hl [2, 0] rfl) h
  · have h := br_T c_2 h
    refine lv_aload_n hx hb dX12_lines_22 rfl (lv_at hl 1 rfl) ?_
    refine lv_bipush (v := (115 : Int32)) hx hb dX12_lines_23 (by decide) ?_
    refine lv_bipush (v := (116 : Int32)) hx hb dX12_lines_25 (by decide) ?_
    refine lv_bipush (v := (97 : Int32)) hx hb dX12_lines_27 (by decide) ?_
    refine lv_bipush (v := (114 : Int32)) hx hb dX12_lines_29 (by decide) ?_
    refine lv_bipush (v := (116 : Int32)) hx hb dX12_lines_31 (by decide) ?_
    obtain ⟨r_2, hr_2, h⟩ := bd_of h
    refine m_cVv (As := [.int (115 : Int32), .int (116 : Int32), .int (97 : Int32), .int (114 : Int32), .int (116 : Int32)]) (rest := []) C hM (cm_addsAll l D ca α A (mI σ 52 (0 : Int32)) (115 : Int32) (116 : Int32) (97 : Int32) (114 : Int32) (116 : Int32) r_2 hr_2) mwy_addsAll ⟨rfl, rfl⟩ ⟨Nat.le_of_ble_eq_true rfl, Nat.le_of_ble_eq_true rfl⟩ rfl rfl (Nat.le_of_ble_eq_true rfl) hl.1 dX12_lines_33 ⟨rfl, rfl⟩ (fun H locs hM => ?_)
    refine lv_goto (tgt := 197) hx hb dX12_lines_36 (by decide) ?_
    exact gm_lines_197 C hr hlk  _ _ _ _ hM (lv_sub hl [1] rfl) h
theorem mwy_lines : mCallV RX12 343 yX12_lines cX12_lines 4 (none) 0 := ⟨⟨wl_in (i := 2385) (by decide +kernel), wl_in (i := 2387) (by decide +kernel), wl_inp (i := 67) (by decide +kernel), wl_in (i := 16) (by decide +kernel), wl_in (i := 2388) (by decide +kernel)⟩, rfl, by decide, by decide, by decide +kernel⟩
/-! line()I -/
abbrev rmX12_line : Room := { frames := 3, cells := 0, slots := 0, locals := 69 }
def fm_line (σ : mS) : Option (Int32 × mS) :=
  (fm_isNotBegun σ).bind fun r_1 =>
  if r_1.1 = 0 then
    (fm_lines r_1.2).bind fun r_2 =>
    some ((r_2.1 52), r_2)
  else
    some ((0 : Int32), r_1.2)
set_option maxHeartbeats 4000000 in
set_option maxRecDepth 100000 in
theorem cm_line (l : Launch) (D : va_G) (ca : Nat → ClassId) (α : Nat → Nat) (A : Nat → Prop) (σ : mS) (o : Int32 × mS) (h : fm_line σ  = some o) : mMetI l yX12_line cX12_line 1 (some .int) rmX12_line D ca α A σ [] o := by
  refine Met.ofW (cc := cX12_line) (maxL := 1) (ret := some .int) (by decide) rfl ?_
  intro p e s m args below meth c s₁ B hml hv
  obtain ⟨rfl, hP, hK, hD0⟩ := hv
  have C : mC p s m _ c cX12_line 1 D ca := ⟨B.exec, B.bytes, hml, findClass_of_methodNamed B.named, fun w hw => atoms_spec (ws := mWs yX12_line cX12_line 1 (some .int)) B.pre w (List.mem_cons_of_mem _ hw), hK⟩
  have hM : mM D ca α A s.heap σ s.heap [] := ⟨hP, hD0, va_S.rf⟩
  have hr := B.returns
  have hlk := B.notSynchronized
  have hx := C.1
  have hb := C.2.1
  have hl := lv_entry ([.ref (α 0)]) (n := 1) (Nat.le_of_ble_eq_true rfl)
  rw [lg_entry_eq]
  generalize (lg_sl ([.ref (α 0)]) ++ List.replicate (1 - (lg_sl ([.ref (α 0)])).length) Slot.unset).toArray = ls at hl ⊢
  have hl : lv_has ls 1 [(0, .ref (α 0))] := hl
  unfold fm_line at h
  refine lv_aload_n hx hb dX12_line_0 rfl (lv_at hl 0 rfl) ?_
  obtain ⟨r_1, hr_1, h⟩ := bd_of h
  refine m_cVi (As := []) (rest := []) C hM (cm_isNotBegun l D ca α A σ  r_1 hr_1) mwy_isNotBegun ⟨rfl, rfl⟩ ⟨Nat.le_of_ble_eq_true rfl, Nat.le_of_ble_eq_true rfl⟩ rfl rfl (Nat.le_of_ble_eq_true rfl) hl.1 dX12_line_1 ⟨rfl, rfl⟩ (fun H locs hM => ?_)
  refine lv_if_eq (tgt := 9) hx hb dX12_line_4 (by decide) (fun c_1 => ?_) (fun c_1 => ?_)
  · have h := br_T c_1 h
    refine lv_aload_n hx hb dX12_line_9 rfl (lv_at hl 0 rfl) ?_
    obtain ⟨r_2, hr_2, h⟩ := bd_of h
    refine m_cVv (As := []) (rest := []) C hM (cm_lines l D ca α A r_1.2  r_2 hr_2) mwy_lines ⟨rfl, rfl⟩ ⟨Nat.le_of_ble_eq_true rfl, Nat.le_of_ble_eq_true rfl⟩ rfl rfl (Nat.le_of_ble_eq_true rfl) hl.1 dX12_line_10 ⟨rfl, rfl⟩ (fun H locs hM => ?_)
    refine lv_aload_n hx hb dX12_line_13 rfl (lv_at hl 0 rfl) ?_
    refine m_geti C hM (k := 52) (Or.inl rfl) rfl dX12_line_14 ?_
    exact m_ri C hM hr hlk dX12_line_17 h
  · have h := br_F c_1 h
    refine lv_iconst (v := (0 : Int32)) hx hb dX12_line_7 (by decide) ?_
    exact m_ri C hM hr hlk dX12_line_8 h
/-! signOf(I)C -/
abbrev rmX12_signOf : Room := { frames := 3, cells := 0, slots := 0, locals := 69 }
def fm_signOf_50 (σ : mS) (s0 : Int32) : Option (Int32 × mS) :=
  if s0.toUInt32.toUInt16.toUInt32.toInt32 = s0 then some (s0, σ) else none
set_option maxHeartbeats 4000000 in
set_option maxRecDepth 100000 in
theorem gm_signOf_50 {p : Program} {l : Launch} {e : Env} {s : State} {m : MethodId} {args : Array Value} {below : List Frame} {meth : Method} {c : Code} {D : va_G} {ca : Nat → ClassId} {α : Nat → Nat} {A : Nat → Prop} {o : Int32 × mS} (C : mC p s m args c cX12_signOf 2 D ca) (hr : meth.sig.returnType = some .char) (hlk : meth.locks = false) : ∀ (σ : mS) (s0 : Int32) (H : Heap) (locs : List Loc) (ls : Array Slot), mM D ca α A s.heap σ H locs → lv_has ls 2 [(0, .ref (α 0))] → fm_signOf_50 σ s0 = some o → mGI p l e rmX12_signOf s m args below meth c D ca α A o H locs 50 ls [.int s0] := by
  have hx := C.1
  have hb := C.2.1
  intro σ s0 H locs ls hM hl h
  unfold fm_signOf_50 at h
  exact m_rc C hM hr hlk dX12_signOf_50 h
def fm_signOf_33 (σ : mS) (x1 : Int32) (s0 : Int32) : Option (Int32 × mS) :=
  (fm_isWrong σ s0).bind fun r_1 =>
  if r_1.1 = 0 then
    if x1 < 0 ∨ 200 ≤ x1.toNatClampNeg then none else
    fm_signOf_50 r_1.2 (((r_1.2.2.2.1 51 x1.toNatClampNeg).toUInt32 % 65536).toInt32)
  else
    fm_signOf_50 r_1.2 (0 : Int32)
set_option maxHeartbeats 4000000 in
set_option maxRecDepth 100000 in
theorem gm_signOf_33 {p : Program} {l : Launch} {e : Env} {s : State} {m : MethodId} {args : Array Value} {below : List Frame} {meth : Method} {c : Code} {D : va_G} {ca : Nat → ClassId} {α : Nat → Nat} {A : Nat → Prop} {o : Int32 × mS} (C : mC p s m args c cX12_signOf 2 D ca) (hr : meth.sig.returnType = some .char) (hlk : meth.locks = false) : ∀ (σ : mS) (x1 : Int32) (s0 : Int32) (H : Heap) (locs : List Loc) (ls : Array Slot), mM D ca α A s.heap σ H locs → lv_has ls 2 [(0, .ref (α 0)), (1, .int x1)] → fm_signOf_33 σ x1 s0 = some o → mGI p l e rmX12_signOf s m args below meth c D ca α A o H locs 33 ls [.int s0, .ref (α 0)] := by
  have hx := C.1
  have hb := C.2.1
  intro σ x1 s0 H locs ls hM hl h
  unfold fm_signOf_33 at h
  obtain ⟨r_1, hr_1, h⟩ := bd_of h
  refine m_cVi (As := [.int s0]) (rest := []) C hM (cm_isWrong l D ca α A σ s0 r_1 hr_1) mwy_isWrong ⟨rfl, rfl⟩ ⟨Nat.le_of_ble_eq_true rfl, Nat.le_of_ble_eq_true rfl⟩ rfl rfl (Nat.le_of_ble_eq_true rfl) hl.1 dX12_signOf_33 ⟨rfl, rfl⟩ (fun H locs hM => ?_)
  refine lv_if_eq (tgt := 43) hx hb dX12_signOf_36 (by decide) (fun c_1 => ?_) (fun c_1 => ?_)
  · have h := br_T c_1 h
    refine lv_aload_n hx hb dX12_signOf_43 rfl (lv_at hl 0 rfl) ?_
    refine m_geta C hM (k := 51) (by decide) rfl dX12_signOf_44 ?_
    refine lv_iload_n hx hb dX12_signOf_47 rfl (lv_at hl 1 rfl) ?_
    obtain ⟨c_2, h⟩ := ko_of h
    refine m_iald C hM (k := 51) rfl c_2 dX12_signOf_48 ?_
    refine lv_i2c (v := ((r_1.2.2.2.1 51 x1.toNatClampNeg).toUInt32 % 65536).toInt32) hx hb dX12_signOf_49 rfl ?_
    exact gm_signOf_50 C hr hlk  _ _ _ _ _ hM (lv_sub hl [0] rfl) h
  · have h := br_F c_1 h
    refine lv_iconst (v := (0 : Int32)) hx hb dX12_signOf_39 (by decide) ?_
    refine lv_goto (tgt := 50) hx hb dX12_signOf_40 (by decide) ?_
    exact gm_signOf_50 C hr hlk  _ _ _ _ _ hM (lv_sub hl [0] rfl) h
def fm_signOf (σ : mS) (x1 : Int32) : Option (Int32 × mS) :=
  (fm_isNotBegun σ).bind fun r_1 =>
  if r_1.1 = 0 then
    (fm_lines r_1.2).bind fun r_2 =>
    (fm_isBetween x1 (0 : Int32) ((r_2.1 52) - (1 : Int32))).bind fun r_3 =>
    if r_3 = 0 then
      fm_signOf_33 r_2 x1 (2 : Int32)
    else
      fm_signOf_33 r_2 x1 (0 : Int32)
  else
    if (0 : Int32).toUInt32.toUInt16.toUInt32.toInt32 = (0 : Int32) then some ((0 : Int32), r_1.2) else none
set_option maxHeartbeats 4000000 in
set_option maxRecDepth 100000 in
theorem cm_signOf (l : Launch) (D : va_G) (ca : Nat → ClassId) (α : Nat → Nat) (A : Nat → Prop) (σ : mS) (x1 : Int32) (o : Int32 × mS) (h : fm_signOf σ x1 = some o) : mMetI l yX12_signOf cX12_signOf 2 (some .char) rmX12_signOf D ca α A σ [.int x1] o := by
  refine Met.ofW (cc := cX12_signOf) (maxL := 2) (ret := some .char) (by decide) rfl ?_
  intro p e s m args below meth c s₁ B hml hv
  obtain ⟨rfl, hP, hK, hD0⟩ := hv
  have C : mC p s m _ c cX12_signOf 2 D ca := ⟨B.exec, B.bytes, hml, findClass_of_methodNamed B.named, fun w hw => atoms_spec (ws := mWs yX12_signOf cX12_signOf 2 (some .char)) B.pre w (List.mem_cons_of_mem _ hw), hK⟩
  have hM : mM D ca α A s.heap σ s.heap [] := ⟨hP, hD0, va_S.rf⟩
  have hr := B.returns
  have hlk := B.notSynchronized
  have hx := C.1
  have hb := C.2.1
  have hl := lv_entry ([.ref (α 0), .int x1]) (n := 2) (Nat.le_of_ble_eq_true rfl)
  rw [lg_entry_eq]
  generalize (lg_sl ([.ref (α 0), .int x1]) ++ List.replicate (2 - (lg_sl ([.ref (α 0), .int x1])).length) Slot.unset).toArray = ls at hl ⊢
  have hl : lv_has ls 2 [(0, .ref (α 0)), (1, .int x1)] := hl
  unfold fm_signOf at h
  refine lv_aload_n hx hb dX12_signOf_0 rfl (lv_at hl 0 rfl) ?_
  obtain ⟨r_1, hr_1, h⟩ := bd_of h
  refine m_cVi (As := []) (rest := []) C hM (cm_isNotBegun l D ca α A σ  r_1 hr_1) mwy_isNotBegun ⟨rfl, rfl⟩ ⟨Nat.le_of_ble_eq_true rfl, Nat.le_of_ble_eq_true rfl⟩ rfl rfl (Nat.le_of_ble_eq_true rfl) hl.1 dX12_signOf_1 ⟨rfl, rfl⟩ (fun H locs hM => ?_)
  refine lv_if_eq (tgt := 9) hx hb dX12_signOf_4 (by decide) (fun c_1 => ?_) (fun c_1 => ?_)
  · have h := br_T c_1 h
    refine lv_aload_n hx hb dX12_signOf_9 rfl (lv_at hl 0 rfl) ?_
    obtain ⟨r_2, hr_2, h⟩ := bd_of h
    refine m_cVv (As := []) (rest := []) C hM (cm_lines l D ca α A r_1.2  r_2 hr_2) mwy_lines ⟨rfl, rfl⟩ ⟨Nat.le_of_ble_eq_true rfl, Nat.le_of_ble_eq_true rfl⟩ rfl rfl (Nat.le_of_ble_eq_true rfl) hl.1 dX12_signOf_10 ⟨rfl, rfl⟩ (fun H locs hM => ?_)
    refine lv_aload_n hx hb dX12_signOf_13 rfl (lv_at hl 0 rfl) ?_
    refine lv_iload_n hx hb dX12_signOf_14 rfl (lv_at hl 1 rfl) ?_
    refine lv_iconst (v := (0 : Int32)) hx hb dX12_signOf_15 (by decide) ?_
    refine lv_aload_n hx hb dX12_signOf_16 rfl (lv_at hl 0 rfl) ?_
    refine m_geti C hM (k := 52) (Or.inl rfl) rfl dX12_signOf_17 ?_
    refine lv_iconst (v := (1 : Int32)) hx hb dX12_signOf_20 (by decide) ?_
    refine lv_isub hx hb dX12_signOf_21 ?_
    obtain ⟨r_3, hr_3, h⟩ := bd_of h
    refine m_cSi (As := [.int x1, .int (0 : Int32), .int ((r_2.1 52) - (1 : Int32))]) (rest := [.ref (α 0)]) C hM (cm_isBetween l D ca α A r_2 x1 (0 : Int32) ((r_2.1 52) - (1 : Int32)) r_3 hr_3) mwy_isBetween ⟨rfl, rfl⟩ ⟨Nat.le_of_ble_eq_true rfl, Nat.le_of_ble_eq_true rfl⟩ rfl rfl (Nat.le_of_ble_eq_true rfl) hl.1 dX12_signOf_22 ⟨rfl, rfl⟩ (fun H locs hM => ?_)
    refine lv_if_eq (tgt := 32) hx hb dX12_signOf_25 (by decide) (fun c_2 => ?_) (fun c_2 => ?_)
    · have h := br_T c_2 h
      refine lv_iconst (v := (2 : Int32)) hx hb dX12_signOf_32 (by decide) ?_
      exact gm_signOf_33 C hr hlk  _ _ _ _ _ _ hM (lv_sub hl [0, 1] rfl) h
    · have h := br_F c_2 h
      refine lv_iconst (v := (0 : Int32)) hx hb dX12_signOf_28 (by decide) ?_
      refine lv_goto (tgt := 33) hx hb dX12_signOf_29 (by decide) ?_
      exact gm_signOf_33 C hr hlk  _ _ _ _ _ _ hM (lv_sub hl [0, 1] rfl) h
  · have h := br_F c_1 h
    refine lv_iconst (v := (0 : Int32)) hx hb dX12_signOf_7 (by decide) ?_
    exact m_rc C hM hr hlk dX12_signOf_8 h
/-! checksum()J -/
abbrev rmX12_checksum : Room := { frames := 2, cells := 0, slots := 0, locals := 41 }
def fm_checksum_105 (k_26 : mS → Int64 → Int32 → Option (Int64 × mS)) (σ : mS) (x3 : Int32) (s0 : Int64) (s1 : Int64) : Option (Int64 × mS) :=
  k_26 σ (s1 + s0) (x3 + (1 : Int32))
set_option maxHeartbeats 4000000 in
set_option maxRecDepth 100000 in
theorem gm_checksum_105 {p : Program} {l : Launch} {e : Env} {s : State} {m : MethodId} {args : Array Value} {below : List Frame} {meth : Method} {c : Code} {D : va_G} {ca : Nat → ClassId} {α : Nat → Nat} {A : Nat → Prop} {o : Int64 × mS} {k_26 : mS → Int64 → Int32 → Option (Int64 × mS)} (C : mC p s m args c cX12_checksum 5 D ca) (hr : meth.sig.returnType = some .long) (hlk : meth.locks = false) (hk_26 : ∀ (σ : mS) (x1 : Int64) (x3 : Int32) (H : Heap) (locs : List Loc) (ls : Array Slot), mM D ca α A s.heap σ H locs → lv_has ls 5 [(0, .ref (α 0)), (1, .long x1), (3, .int x3)] → k_26 σ x1 x3 = some o → mGL p l e rmX12_checksum s m args below meth c D ca α A o H locs 26 ls []) : ∀ (σ : mS) (x3 : Int32) (s0 : Int64) (s1 : Int64) (H : Heap) (locs : List Loc) (ls : Array Slot), mM D ca α A s.heap σ H locs → lv_has ls 5 [(0, .ref (α 0)), (3, .int x3)] → fm_checksum_105 k_26 σ x3 s0 s1 = some o → mGL p l e rmX12_checksum s m args below meth c D ca α A o H locs 105 ls [.long s0, .long s1] := by
  have hx := C.1
  have hb := C.2.1
  intro σ x3 s0 s1 H locs ls hM hl h
  unfold fm_checksum_105 at h
  refine lv_ladd hx hb dX12_checksum_105 ?_
  refine lv_lstore_n (lv' := [(1, .long (s1 + s0)), (0, .ref (α 0)), (3, .int x3)]) hx hb dX12_checksum_106 rfl hl (by decide) rfl (fun ls hl => ?_)
  refine lv_iinc (v := (x3 + (1 : Int32))) (lv' := [(3, .int (x3 + (1 : Int32))), (1, .long (s1 + s0)), (0, .ref (α 0))]) hx hb dX12_checksum_107 hl (k := 2) rfl rfl (by decide) rfl (fun ls hl => ?_)
  refine lv_goto (tgt := 26) hx hb dX12_checksum_110 (by decide) ?_
  exact hk_26 _ _ _ _ _ _ hM (lv_sub hl [2, 1, 0] rfl) h
def fm_checksum_76 (k_26 : mS → Int64 → Int32 → Option (Int64 × mS)) (σ : mS) (x3 : Int32) (x4 : Int32) (s0 : Int32) (s1 : Int64) : Option (Int64 × mS) :=
  if x3 < 0 ∨ 12 ≤ x3.toNatClampNeg then none else
  if (σ.2.2.1 13 x3.toNatClampNeg) = (108 : Int32) then
    if x4 < 0 ∨ 960 ≤ x4.toNatClampNeg then none else
    fm_checksum_105 k_26 σ x3 ((10000 : Int64) * ((σ.2.2.1 24 x4.toNatClampNeg).toInt64)) (s1 + (s0.toInt64))
  else
    fm_checksum_105 k_26 σ x3 (0 : Int64) (s1 + (s0.toInt64))
set_option maxHeartbeats 4000000 in
set_option maxRecDepth 100000 in
theorem gm_checksum_76 {p : Program} {l : Launch} {e : Env} {s : State} {m : MethodId} {args : Array Value} {below : List Frame} {meth : Method} {c : Code} {D : va_G} {ca : Nat → ClassId} {α : Nat → Nat} {A : Nat → Prop} {o : Int64 × mS} {k_26 : mS → Int64 → Int32 → Option (Int64 × mS)} (C : mC p s m args c cX12_checksum 5 D ca) (hr : meth.sig.returnType = some .long) (hlk : meth.locks = false) (hk_26 : ∀ (σ : mS) (x1 : Int64) (x3 : Int32) (H : Heap) (locs : List Loc) (ls : Array Slot), mM D ca α A s.heap σ H locs → lv_has ls 5 [(0, .ref (α 0)), (1, .long x1), (3, .int x3)] → k_26 σ x1 x3 = some o → mGL p l e rmX12_checksum s m args below meth c D ca α A o H locs 26 ls []) : ∀ (σ : mS) (x3 : Int32) (x4 : Int32) (s0 : Int32) (s1 : Int64) (H : Heap) (locs : List Loc) (ls : Array Slot), mM D ca α A s.heap σ H locs → lv_has ls 5 [(0, .ref (α 0)), (3, .int x3), (4, .int x4)] → fm_checksum_76 k_26 σ x3 x4 s0 s1 = some o → mGL p l e rmX12_checksum s m args below meth c D ca α A o H locs 76 ls [.int s0, .long s1] := by
  have hx := C.1
  have hb := C.2.1
  intro σ x3 x4 s0 s1 H locs ls hM hl h
  unfold fm_checksum_76 at h
  refine lv_i2l (v := s0.toInt64) hx hb dX12_checksum_76 rfl ?_
  refine lv_ladd hx hb dX12_checksum_77 ?_
  refine lv_aload_n hx hb dX12_checksum_78 rfl (lv_at hl 0 rfl) ?_
  refine m_geta C hM (k := 13) (by decide) rfl dX12_checksum_79 ?_
  refine lv_iload_n hx hb dX12_checksum_82 rfl (lv_at hl 1 rfl) ?_
  obtain ⟨c_1, h⟩ := ko_of h
  refine m_cald C hM (k := 13) rfl c_1 dX12_checksum_83 ?_
  refine lv_bipush (v := (108 : Int32)) hx hb dX12_checksum_84 (by decide) ?_
  refine lv_icmp_ne (tgt := 104) hx hb dX12_checksum_86 (by decide) (fun c_2 => ?_) (fun c_2 => ?_)
  · have h := br_F c_2 h
    refine lv_lconst (v := (0 : Int64)) hx hb dX12_checksum_104 (by decide) ?_
    exact gm_checksum_105 C hr hlk hk_26 _ _ _ _ _ _ _ hM (lv_sub hl [0, 1] rfl) h
  · have h := br_T c_2 h
    refine lv_ldc2 (own := RX12) (v := (10000 : Int64)) hx hb C.2.2.2.1 (C.2.2.2.2.1 _ (wl_in (i := 2411) (by decide +kernel))) dX12_checksum_89 ?_
    refine lv_aload_n hx hb dX12_checksum_92 rfl (lv_at hl 0 rfl) ?_
    refine m_geta C hM (k := 24) (by decide) rfl dX12_checksum_93 ?_
    refine lv_iload hx hb dX12_checksum_96 (lv_at hl 2 rfl) ?_
    obtain ⟨c_3, h⟩ := ko_of h
    refine m_iald C hM (k := 24) rfl c_3 dX12_checksum_98 ?_
    refine lv_i2l (v := (σ.2.2.1 24 x4.toNatClampNeg).toInt64) hx hb dX12_checksum_99 rfl ?_
    refine lv_lmul hx hb dX12_checksum_100 ?_
    refine lv_goto (tgt := 105) hx hb dX12_checksum_101 (by decide) ?_
    exact gm_checksum_105 C hr hlk hk_26 _ _ _ _ _ _ _ hM (lv_sub hl [0, 1] rfl) h
def fm_checksum_26 : Nat → mS → Int64 → Int32 → Option (Int64 × mS)
  | 0, _, _, _ => none
  | n + 1, σ, x1, x3 =>
    if (σ.1 16) ≤ x3 then
      some (x1, σ)
    else
      if (((12 : Int32) * (σ.1 34)) + x3) < 0 ∨ 960 ≤ (((12 : Int32) * (σ.1 34)) + x3).toNatClampNeg then none else
      if (((12 : Int32) * (σ.1 34)) + x3) < 0 ∨ 960 ≤ (((12 : Int32) * (σ.1 34)) + x3).toNatClampNeg then none else
      if (σ.2.2.1 23 (((12 : Int32) * (σ.1 34)) + x3).toNatClampNeg) = 0 then
        fm_checksum_76 (fm_checksum_26 n) σ x3 (((12 : Int32) * (σ.1 34)) + x3) (0 : Int32) (((31 : Int64) * x1) + ((σ.2.2.1 22 (((12 : Int32) * (σ.1 34)) + x3).toNatClampNeg).toInt64))
      else
        fm_checksum_76 (fm_checksum_26 n) σ x3 (((12 : Int32) * (σ.1 34)) + x3) (1000 : Int32) (((31 : Int64) * x1) + ((σ.2.2.1 22 (((12 : Int32) * (σ.1 34)) + x3).toNatClampNeg).toInt64))
set_option maxHeartbeats 4000000 in
set_option maxRecDepth 100000 in
theorem gm_checksum_26 {p : Program} {l : Launch} {e : Env} {s : State} {m : MethodId} {args : Array Value} {below : List Frame} {meth : Method} {c : Code} {D : va_G} {ca : Nat → ClassId} {α : Nat → Nat} {A : Nat → Prop} {o : Int64 × mS} (C : mC p s m args c cX12_checksum 5 D ca) (hr : meth.sig.returnType = some .long) (hlk : meth.locks = false) : ∀ (n : Nat) (σ : mS) (x1 : Int64) (x3 : Int32) (H : Heap) (locs : List Loc) (ls : Array Slot), mM D ca α A s.heap σ H locs → lv_has ls 5 [(0, .ref (α 0)), (1, .long x1), (3, .int x3)] → fm_checksum_26 n σ x1 x3 = some o → mGL p l e rmX12_checksum s m args below meth c D ca α A o H locs 26 ls [] := by
  have hx := C.1
  have hb := C.2.1
  intro n
  induction n with
  | zero =>
    intro σ x1 x3 H locs ls hM hl h
    cases h
  | succ n ih =>
    intro σ x1 x3 H locs ls hM hl h
    rw [fm_checksum_26] at h
    refine lv_iload_n hx hb dX12_checksum_26 rfl (lv_at hl 2 rfl) ?_
    refine lv_aload_n hx hb dX12_checksum_27 rfl (lv_at hl 0 rfl) ?_
    refine m_geti C hM (k := 16) (Or.inl rfl) rfl dX12_checksum_28 ?_
    refine lv_icmp_ge (tgt := 113) hx hb dX12_checksum_31 (by decide) (fun c_1 => ?_) (fun c_1 => ?_)
    · have h := br_T c_1 h
      refine lv_lload_n hx hb dX12_checksum_113 rfl (lv_at hl 1 rfl) ?_
      exact m_rl C hM hr hlk dX12_checksum_114 h
    · have h := br_F c_1 h
      refine lv_bipush (v := (12 : Int32)) hx hb dX12_checksum_34 (by decide) ?_
      refine lv_aload_n hx hb dX12_checksum_36 rfl (lv_at hl 0 rfl) ?_
      refine m_geti C hM (k := 34) (Or.inl rfl) rfl dX12_checksum_37 ?_
      refine lv_imul hx hb dX12_checksum_40 ?_
      refine lv_iload_n hx hb dX12_checksum_41 rfl (lv_at hl 2 rfl) ?_
      refine lv_iadd hx hb dX12_checksum_42 ?_
      refine lv_istore (lv' := [(4, .int (((12 : Int32) * (σ.1 34)) + x3)), (0, .ref (α 0)), (1, .long x1), (3, .int x3)]) hx hb dX12_checksum_43 hl (by decide) rfl (fun ls hl => ?_)
      refine lv_ldc2 (own := RX12) (v := (31 : Int64)) hx hb C.2.2.2.1 (C.2.2.2.2.1 _ (wl_in (i := 2410) (by decide +kernel))) dX12_checksum_45 ?_
      refine lv_lload_n hx hb dX12_checksum_48 rfl (lv_at hl 2 rfl) ?_
      refine lv_lmul hx hb dX12_checksum_49 ?_
      refine lv_aload_n hx hb dX12_checksum_50 rfl (lv_at hl 1 rfl) ?_
      refine m_geta C hM (k := 22) (by decide) rfl dX12_checksum_51 ?_
      refine lv_iload hx hb dX12_checksum_54 (lv_at hl 0 rfl) ?_
      obtain ⟨c_2, h⟩ := ko_of h
      refine m_iald C hM (k := 22) rfl c_2 dX12_checksum_56 ?_
      refine lv_i2l (v := (σ.2.2.1 22 (((12 : Int32) * (σ.1 34)) + x3).toNatClampNeg).toInt64) hx hb dX12_checksum_57 rfl ?_
      refine lv_ladd hx hb dX12_checksum_58 ?_
      refine lv_aload_n hx hb dX12_checksum_59 rfl (lv_at hl 1 rfl) ?_
      refine m_geta C hM (k := 23) (by decide) rfl dX12_checksum_60 ?_
      refine lv_iload hx hb dX12_checksum_63 (lv_at hl 0 rfl) ?_
      obtain ⟨c_3, h⟩ := ko_of h
      refine m_zald C hM (k := 23) rfl c_3 dX12_checksum_65 ?_
      refine lv_if_eq (tgt := 75) hx hb dX12_checksum_66 (by decide) (fun c_4 => ?_) (fun c_4 => ?_)
      · have h := br_T c_4 h
        refine lv_iconst (v := (0 : Int32)) hx hb dX12_checksum_75 (by decide) ?_
        exact gm_checksum_76 C hr hlk ih _ _ _ _ _ _ _ _ hM (lv_sub hl [1, 3, 0] rfl) h
      · have h := br_F c_4 h
        refine lv_sipush (v := (1000 : Int32)) hx hb dX12_checksum_69 (by decide) ?_
        refine lv_goto (tgt := 76) hx hb dX12_checksum_72 (by decide) ?_
        exact gm_checksum_76 C hr hlk ih _ _ _ _ _ _ _ _ hM (lv_sub hl [1, 3, 0] rfl) h
def fm_checksum (σ : mS) : Option (Int64 × mS) :=
  (fm_isNotBegun σ).bind fun r_1 =>
  if r_1.1 = 0 then
    if (r_1.2.1 34) < 0 ∨ 80 ≤ (r_1.2.1 34).toNatClampNeg then none else
    fm_checksum_26 3000 r_1.2 ((217 : Int64) + ((r_1.2.2.2.1 21 (r_1.2.1 34).toNatClampNeg).toInt64)) (0 : Int32)
  else
    some ((0 : Int64), r_1.2)
set_option maxHeartbeats 4000000 in
set_option maxRecDepth 100000 in
theorem cm_checksum (l : Launch) (D : va_G) (ca : Nat → ClassId) (α : Nat → Nat) (A : Nat → Prop) (σ : mS) (o : Int64 × mS) (h : fm_checksum σ  = some o) : mMetL l yX12_checksum cX12_checksum 5 (some .long) rmX12_checksum D ca α A σ [] o := by
  refine Met.ofW (cc := cX12_checksum) (maxL := 5) (ret := some .long) (by decide) rfl ?_
  intro p e s m args below meth c s₁ B hml hv
  obtain ⟨rfl, hP, hK, hD0⟩ := hv
  have C : mC p s m _ c cX12_checksum 5 D ca := ⟨B.exec, B.bytes, hml, findClass_of_methodNamed B.named, fun w hw => atoms_spec (ws := mWs yX12_checksum cX12_checksum 5 (some .long)) B.pre w (List.mem_cons_of_mem _ hw), hK⟩
  have hM : mM D ca α A s.heap σ s.heap [] := ⟨hP, hD0, va_S.rf⟩
  have hr := B.returns
  have hlk := B.notSynchronized
  have hx := C.1
  have hb := C.2.1
  have hl := lv_entry ([.ref (α 0)]) (n := 5) (Nat.le_of_ble_eq_true rfl)
  rw [lg_entry_eq]
  generalize (lg_sl ([.ref (α 0)]) ++ List.replicate (5 - (lg_sl ([.ref (α 0)])).length) Slot.unset).toArray = ls at hl ⊢
  have hl : lv_has ls 5 [(0, .ref (α 0))] := hl
  unfold fm_checksum at h
  refine lv_aload_n hx hb dX12_checksum_0 rfl (lv_at hl 0 rfl) ?_
  obtain ⟨r_1, hr_1, h⟩ := bd_of h
  refine m_cVi (As := []) (rest := []) C hM (cm_isNotBegun l D ca α A σ  r_1 hr_1) mwy_isNotBegun ⟨rfl, rfl⟩ ⟨Nat.le_of_ble_eq_true rfl, Nat.le_of_ble_eq_true rfl⟩ rfl rfl (Nat.le_of_ble_eq_true rfl) hl.1 dX12_checksum_1 ⟨rfl, rfl⟩ (fun H locs hM => ?_)
  refine lv_if_eq (tgt := 9) hx hb dX12_checksum_4 (by decide) (fun c_1 => ?_) (fun c_1 => ?_)
  · have h := br_T c_1 h
    refine lv_ldc2 (own := RX12) (v := (217 : Int64)) hx hb C.2.2.2.1 (C.2.2.2.2.1 _ (wl_in (i := 2409) (by decide +kernel))) dX12_checksum_9 ?_
    refine lv_aload_n hx hb dX12_checksum_12 rfl (lv_at hl 0 rfl) ?_
    refine m_geta C hM (k := 21) (by decide) rfl dX12_checksum_13 ?_
    refine lv_aload_n hx hb dX12_checksum_16 rfl (lv_at hl 0 rfl) ?_
    refine m_geti C hM (k := 34) (Or.inl rfl) rfl dX12_checksum_17 ?_
    obtain ⟨c_2, h⟩ := ko_of h
    refine m_iald C hM (k := 21) rfl c_2 dX12_checksum_20 ?_
    refine lv_i2l (v := (r_1.2.2.2.1 21 (r_1.2.1 34).toNatClampNeg).toInt64) hx hb dX12_checksum_21 rfl ?_
    refine lv_ladd hx hb dX12_checksum_22 ?_
    refine lv_lstore_n (lv' := [(1, .long ((217 : Int64) + ((r_1.2.2.2.1 21 (r_1.2.1 34).toNatClampNeg).toInt64))), (0, .ref (α 0))]) hx hb dX12_checksum_23 rfl hl (by decide) rfl (fun ls hl => ?_)
    refine lv_iconst (v := (0 : Int32)) hx hb dX12_checksum_24 (by decide) ?_
    refine lv_istore_n (lv' := [(3, .int (0 : Int32)), (1, .long ((217 : Int64) + ((r_1.2.2.2.1 21 (r_1.2.1 34).toNatClampNeg).toInt64))), (0, .ref (α 0))]) hx hb dX12_checksum_25 rfl hl (by decide) rfl (fun ls hl => ?_)
    exact gm_checksum_26 C hr hlk  _ _ _ _ _ _ _ hM (lv_sub hl [2, 1, 0] rfl) h
  · have h := br_F c_1 h
    refine lv_lconst (v := (0 : Int64)) hx hb dX12_checksum_7 (by decide) ?_
    exact m_rl C hM hr hlk dX12_checksum_8 h
/-! knownShare()F -/
abbrev rmX12_knownShare : Room := { frames := 3, cells := 0, slots := 0, locals := 65 }
def fm_knownShare_45 (σ : mS) (s0 : UInt32) : Option (UInt32 × mS) :=
  some (s0, σ)
set_option maxHeartbeats 4000000 in
set_option maxRecDepth 100000 in
theorem gm_knownShare_45 {p : Program} {l : Launch} {e : Env} {s : State} {m : MethodId} {args : Array Value} {below : List Frame} {meth : Method} {c : Code} {D : va_G} {ca : Nat → ClassId} {α : Nat → Nat} {A : Nat → Prop} {o : UInt32 × mS} (C : mC p s m args c cX12_knownShare 1 D ca) (hr : meth.sig.returnType = some .float) (hlk : meth.locks = false) : ∀ (σ : mS) (s0 : UInt32) (H : Heap) (locs : List Loc) (ls : Array Slot), mM D ca α A s.heap σ H locs → lv_has ls 1 [(0, .ref (α 0))] → fm_knownShare_45 σ s0 = some o → mGF p l e rmX12_knownShare s m args below meth c D ca α A o H locs 45 ls [.float s0] := by
  have hx := C.1
  have hb := C.2.1
  intro σ s0 H locs ls hM hl h
  unfold fm_knownShare_45 at h
  exact m_rf C hM hr hlk dX12_knownShare_45 h
def fm_knownShare_24 (σ : mS) (s0 : Int32) : Option (UInt32 × mS) :=
  (fm_isWrong σ s0).bind fun r_1 =>
  if r_1.1 = 0 then
    (fm_knownMany r_1.2).bind fun r_2 =>
    if ¬ ((FP.fdiv (FP.i2f r_2.1) (FP.i2f (r_2.2.1 4))) &&& 0x7fffffff ≤ 0x7f800000) then none else
    fm_knownShare_45 r_2.2 (FP.fdiv (FP.i2f r_2.1) (FP.i2f (r_2.2.1 4)))
  else
    fm_knownShare_45 r_1.2 FP.fconst0
set_option maxHeartbeats 4000000 in
set_option maxRecDepth 100000 in
theorem gm_knownShare_24 {p : Program} {l : Launch} {e : Env} {s : State} {m : MethodId} {args : Array Value} {below : List Frame} {meth : Method} {c : Code} {D : va_G} {ca : Nat → ClassId} {α : Nat → Nat} {A : Nat → Prop} {o : UInt32 × mS} (C : mC p s m args c cX12_knownShare 1 D ca) (hr : meth.sig.returnType = some .float) (hlk : meth.locks = false) : ∀ (σ : mS) (s0 : Int32) (H : Heap) (locs : List Loc) (ls : Array Slot), mM D ca α A s.heap σ H locs → lv_has ls 1 [(0, .ref (α 0))] → fm_knownShare_24 σ s0 = some o → mGF p l e rmX12_knownShare s m args below meth c D ca α A o H locs 24 ls [.int s0, .ref (α 0)] := by
  have hx := C.1
  have hb := C.2.1
  intro σ s0 H locs ls hM hl h
  unfold fm_knownShare_24 at h
  obtain ⟨r_1, hr_1, h⟩ := bd_of h
  refine m_cVi (As := [.int s0]) (rest := []) C hM (cm_isWrong l D ca α A σ s0 r_1 hr_1) mwy_isWrong ⟨rfl, rfl⟩ ⟨Nat.le_of_ble_eq_true rfl, Nat.le_of_ble_eq_true rfl⟩ rfl rfl (Nat.le_of_ble_eq_true rfl) hl.1 dX12_knownShare_24 ⟨rfl, rfl⟩ (fun H locs hM => ?_)
  refine lv_if_eq (tgt := 34) hx hb dX12_knownShare_27 (by decide) (fun c_1 => ?_) (fun c_1 => ?_)
  · have h := br_T c_1 h
    refine lv_aload_n hx hb dX12_knownShare_34 rfl (lv_at hl 0 rfl) ?_
    obtain ⟨r_2, hr_2, h⟩ := bd_of h
    refine m_cVi (As := []) (rest := []) C hM (cm_knownMany l D ca α A r_1.2  r_2 hr_2) mwy_knownMany ⟨rfl, rfl⟩ ⟨Nat.le_of_ble_eq_true rfl, Nat.le_of_ble_eq_true rfl⟩ rfl rfl (Nat.le_of_ble_eq_true rfl) hl.1 dX12_knownShare_35 ⟨rfl, rfl⟩ (fun H locs hM => ?_)
    refine lv_i2f hx hb dX12_knownShare_38 ?_
    refine lv_aload_n hx hb dX12_knownShare_39 rfl (lv_at hl 0 rfl) ?_
    refine m_geti C hM (k := 4) (Or.inl rfl) rfl dX12_knownShare_40 ?_
    refine lv_i2f hx hb dX12_knownShare_43 ?_
    obtain ⟨c_2, h⟩ := ko_of h
    refine lv_fdiv hx hb dX12_knownShare_44 (Classical.not_not.mp c_2) ?_
    exact gm_knownShare_45 C hr hlk  _ _ _ _ _ hM (lv_sub hl [0] rfl) h
  · have h := br_F c_1 h
    refine lv_fconst0 hx hb dX12_knownShare_30 ?_
    refine lv_goto (tgt := 45) hx hb dX12_knownShare_31 (by decide) ?_
    exact gm_knownShare_45 C hr hlk  _ _ _ _ _ hM (lv_sub hl [0] rfl) h
def fm_knownShare (σ : mS) : Option (UInt32 × mS) :=
  if (σ.1 20) = 0 then
    fm_knownShare_24 σ (1 : Int32)
  else
    if (σ.1 4) = 0 then
      fm_knownShare_24 σ (2 : Int32)
    else
      fm_knownShare_24 σ (0 : Int32)
set_option maxHeartbeats 4000000 in
set_option maxRecDepth 100000 in
theorem cm_knownShare (l : Launch) (D : va_G) (ca : Nat → ClassId) (α : Nat → Nat) (A : Nat → Prop) (σ : mS) (o : UInt32 × mS) (h : fm_knownShare σ  = some o) : mMetF l yX12_knownShare cX12_knownShare 1 (some .float) rmX12_knownShare D ca α A σ [] o := by
  refine Met.ofW (cc := cX12_knownShare) (maxL := 1) (ret := some .float) (by decide) rfl ?_
  intro p e s m args below meth c s₁ B hml hv
  obtain ⟨rfl, hP, hK, hD0⟩ := hv
  have C : mC p s m _ c cX12_knownShare 1 D ca := ⟨B.exec, B.bytes, hml, findClass_of_methodNamed B.named, fun w hw => atoms_spec (ws := mWs yX12_knownShare cX12_knownShare 1 (some .float)) B.pre w (List.mem_cons_of_mem _ hw), hK⟩
  have hM : mM D ca α A s.heap σ s.heap [] := ⟨hP, hD0, va_S.rf⟩
  have hr := B.returns
  have hlk := B.notSynchronized
  have hx := C.1
  have hb := C.2.1
  have hl := lv_entry ([.ref (α 0)]) (n := 1) (Nat.le_of_ble_eq_true rfl)
  rw [lg_entry_eq]
  generalize (lg_sl ([.ref (α 0)]) ++ List.replicate (1 - (lg_sl ([.ref (α 0)])).length) Slot.unset).toArray = ls at hl ⊢
  have hl : lv_has ls 1 [(0, .ref (α 0))] := hl
  unfold fm_knownShare at h
  refine lv_aload_n hx hb dX12_knownShare_0 rfl (lv_at hl 0 rfl) ?_
  refine lv_aload_n hx hb dX12_knownShare_1 rfl (lv_at hl 0 rfl) ?_
  refine m_geti C hM (k := 20) (Or.inr rfl) rfl dX12_knownShare_2 ?_
  refine lv_if_ne (tgt := 12) hx hb dX12_knownShare_5 (by decide) (fun c_1 => ?_) (fun c_1 => ?_)
  · have h := br_F c_1 h
    refine lv_aload_n hx hb dX12_knownShare_12 rfl (lv_at hl 0 rfl) ?_
    refine m_geti C hM (k := 4) (Or.inl rfl) rfl dX12_knownShare_13 ?_
    refine lv_if_ne (tgt := 23) hx hb dX12_knownShare_16 (by decide) (fun c_2 => ?_) (fun c_2 => ?_)
    · have h := br_F c_2 h
      refine lv_iconst (v := (0 : Int32)) hx hb dX12_knownShare_23 (by decide) ?_
      exact gm_knownShare_24 C hr hlk  _ _ _ _ _ hM (lv_sub hl [0] rfl) h
    · have h := br_T c_2 h
      refine lv_iconst (v := (2 : Int32)) hx hb dX12_knownShare_19 (by decide) ?_
      refine lv_goto (tgt := 24) hx hb dX12_knownShare_20 (by decide) ?_
      exact gm_knownShare_24 C hr hlk  _ _ _ _ _ hM (lv_sub hl [0] rfl) h
  · have h := br_T c_1 h
    refine lv_iconst (v := (1 : Int32)) hx hb dX12_knownShare_8 (by decide) ?_
    refine lv_goto (tgt := 24) hx hb dX12_knownShare_9 (by decide) ?_
    exact gm_knownShare_24 C hr hlk  _ _ _ _ _ hM (lv_sub hl [0] rfl) h
/-! meanPrice()D -/
abbrev rmX12_meanPrice : Room := { frames := 1, cells := 0, slots := 0, locals := 21 }
def fm_meanPrice_58 (σ : mS) (s0 : UInt64) : Option (UInt64 × mS) :=
  some (s0, σ)
set_option maxHeartbeats 4000000 in
set_option maxRecDepth 100000 in
theorem gm_meanPrice_58 {p : Program} {l : Launch} {e : Env} {s : State} {m : MethodId} {args : Array Value} {below : List Frame} {meth : Method} {c : Code} {D : va_G} {ca : Nat → ClassId} {α : Nat → Nat} {A : Nat → Prop} {o : UInt64 × mS} (C : mC p s m args c cX12_meanPrice 3 D ca) (hr : meth.sig.returnType = some .double) (hlk : meth.locks = false) : ∀ (σ : mS) (s0 : UInt64) (H : Heap) (locs : List Loc) (ls : Array Slot), mM D ca α A s.heap σ H locs → lv_has ls 3 [(0, .ref (α 0))] → fm_meanPrice_58 σ s0 = some o → mGD p l e rmX12_meanPrice s m args below meth c D ca α A o H locs 58 ls [.double s0] := by
  have hx := C.1
  have hb := C.2.1
  intro σ s0 H locs ls hM hl h
  unfold fm_meanPrice_58 at h
  exact m_rd C hM hr hlk dX12_meanPrice_58 h
def fm_meanPrice_40 (σ : mS) (x1 : Int32) (s0 : Int32) : Option (UInt64 × mS) :=
  (fm_isWrong σ s0).bind fun r_1 =>
  if r_1.1 = 0 then
    if ¬ ((FP.ddiv (FP.i2d x1) (FP.i2d (r_1.2.1 49))) &&& 0x7fffffffffffffff ≤ 0x7ff0000000000000) then none else
    fm_meanPrice_58 r_1.2 (FP.ddiv (FP.i2d x1) (FP.i2d (r_1.2.1 49)))
  else
    fm_meanPrice_58 r_1.2 FP.dconst0
set_option maxHeartbeats 4000000 in
set_option maxRecDepth 100000 in
theorem gm_meanPrice_40 {p : Program} {l : Launch} {e : Env} {s : State} {m : MethodId} {args : Array Value} {below : List Frame} {meth : Method} {c : Code} {D : va_G} {ca : Nat → ClassId} {α : Nat → Nat} {A : Nat → Prop} {o : UInt64 × mS} (C : mC p s m args c cX12_meanPrice 3 D ca) (hr : meth.sig.returnType = some .double) (hlk : meth.locks = false) : ∀ (σ : mS) (x1 : Int32) (s0 : Int32) (H : Heap) (locs : List Loc) (ls : Array Slot), mM D ca α A s.heap σ H locs → lv_has ls 3 [(0, .ref (α 0)), (1, .int x1)] → fm_meanPrice_40 σ x1 s0 = some o → mGD p l e rmX12_meanPrice s m args below meth c D ca α A o H locs 40 ls [.int s0, .ref (α 0)] := by
  have hx := C.1
  have hb := C.2.1
  intro σ x1 s0 H locs ls hM hl h
  unfold fm_meanPrice_40 at h
  obtain ⟨r_1, hr_1, h⟩ := bd_of h
  refine m_cVi (As := [.int s0]) (rest := []) C hM (cm_isWrong l D ca α A σ s0 r_1 hr_1) mwy_isWrong ⟨rfl, rfl⟩ ⟨Nat.le_of_ble_eq_true rfl, Nat.le_of_ble_eq_true rfl⟩ rfl rfl (Nat.le_of_ble_eq_true rfl) hl.1 dX12_meanPrice_40 ⟨rfl, rfl⟩ (fun H locs hM => ?_)
  refine lv_if_eq (tgt := 50) hx hb dX12_meanPrice_43 (by decide) (fun c_1 => ?_) (fun c_1 => ?_)
  · have h := br_T c_1 h
    refine lv_iload_n hx hb dX12_meanPrice_50 rfl (lv_at hl 1 rfl) ?_
    refine lv_i2d hx hb dX12_meanPrice_51 ?_
    refine lv_aload_n hx hb dX12_meanPrice_52 rfl (lv_at hl 0 rfl) ?_
    refine m_geti C hM (k := 49) (Or.inl rfl) rfl dX12_meanPrice_53 ?_
    refine lv_i2d hx hb dX12_meanPrice_56 ?_
    obtain ⟨c_2, h⟩ := ko_of h
    refine lv_ddiv hx hb dX12_meanPrice_57 (Classical.not_not.mp c_2) ?_
    exact gm_meanPrice_58 C hr hlk  _ _ _ _ _ hM (lv_sub hl [0] rfl) h
  · have h := br_F c_1 h
    refine lv_dconst0 hx hb dX12_meanPrice_46 ?_
    refine lv_goto (tgt := 58) hx hb dX12_meanPrice_47 (by decide) ?_
    exact gm_meanPrice_58 C hr hlk  _ _ _ _ _ hM (lv_sub hl [0] rfl) h
def fm_meanPrice_4 : Nat → mS → Int32 → Int32 → Option (UInt64 × mS)
  | 0, _, _, _ => none
  | n + 1, σ, x1, x2 =>
    if (σ.1 49) ≤ x2 then
      if (σ.1 49) = 0 then
        fm_meanPrice_40 σ x1 (1 : Int32)
      else
        fm_meanPrice_40 σ x1 (0 : Int32)
    else
      if x2 < 0 ∨ 80 ≤ x2.toNatClampNeg then none else
      (fm_meanPrice_4 n) σ (x1 + (σ.2.2.1 48 x2.toNatClampNeg)) (x2 + (1 : Int32))
set_option maxHeartbeats 4000000 in
set_option maxRecDepth 100000 in
theorem gm_meanPrice_4 {p : Program} {l : Launch} {e : Env} {s : State} {m : MethodId} {args : Array Value} {below : List Frame} {meth : Method} {c : Code} {D : va_G} {ca : Nat → ClassId} {α : Nat → Nat} {A : Nat → Prop} {o : UInt64 × mS} (C : mC p s m args c cX12_meanPrice 3 D ca) (hr : meth.sig.returnType = some .double) (hlk : meth.locks = false) : ∀ (n : Nat) (σ : mS) (x1 : Int32) (x2 : Int32) (H : Heap) (locs : List Loc) (ls : Array Slot), mM D ca α A s.heap σ H locs → lv_has ls 3 [(0, .ref (α 0)), (1, .int x1), (2, .int x2)] → fm_meanPrice_4 n σ x1 x2 = some o → mGD p l e rmX12_meanPrice s m args below meth c D ca α A o H locs 4 ls [] := by
  have hx := C.1
  have hb := C.2.1
  intro n
  induction n with
  | zero =>
    intro σ x1 x2 H locs ls hM hl h
    cases h
  | succ n ih =>
    intro σ x1 x2 H locs ls hM hl h
    rw [fm_meanPrice_4] at h
    refine lv_iload_n hx hb dX12_meanPrice_4 rfl (lv_at hl 2 rfl) ?_
    refine lv_aload_n hx hb dX12_meanPrice_5 rfl (lv_at hl 0 rfl) ?_
    refine m_geti C hM (k := 49) (Or.inl rfl) rfl dX12_meanPrice_6 ?_
    refine lv_icmp_ge (tgt := 27) hx hb dX12_meanPrice_9 (by decide) (fun c_1 => ?_) (fun c_1 => ?_)
    · have h := br_T c_1 h
      refine lv_aload_n hx hb dX12_meanPrice_27 rfl (lv_at hl 0 rfl) ?_
      refine lv_aload_n hx hb dX12_meanPrice_28 rfl (lv_at hl 0 rfl) ?_
      refine m_geti C hM (k := 49) (Or.inl rfl) rfl dX12_meanPrice_29 ?_
      refine lv_if_ne (tgt := 39) hx hb dX12_meanPrice_32 (by decide) (fun c_2 => ?_) (fun c_2 => ?_)
      · have h := br_F c_2 h
        refine lv_iconst (v := (0 : Int32)) hx hb dX12_meanPrice_39 (by decide) ?_
        exact gm_meanPrice_40 C hr hlk  _ _ _ _ _ _ hM (lv_sub hl [0, 1] rfl) h
      · have h := br_T c_2 h
        refine lv_iconst (v := (1 : Int32)) hx hb dX12_meanPrice_35 (by decide) ?_
        refine lv_goto (tgt := 40) hx hb dX12_meanPrice_36 (by decide) ?_
        exact gm_meanPrice_40 C hr hlk  _ _ _ _ _ _ hM (lv_sub hl [0, 1] rfl) h
    · have h := br_F c_1 h
      refine lv_iload_n hx hb dX12_meanPrice_12 rfl (lv_at hl 1 rfl) ?_
      refine lv_aload_n hx hb dX12_meanPrice_13 rfl (lv_at hl 0 rfl) ?_
      refine m_geta C hM (k := 48) (by decide) rfl dX12_meanPrice_14 ?_
      refine lv_iload_n hx hb dX12_meanPrice_17 rfl (lv_at hl 2 rfl) ?_
      obtain ⟨c_3, h⟩ := ko_of h
      refine m_iald C hM (k := 48) rfl c_3 dX12_meanPrice_18 ?_
      refine lv_iadd hx hb dX12_meanPrice_19 ?_
      refine lv_istore_n (lv' := [(1, .int (x1 + (σ.2.2.1 48 x2.toNatClampNeg))), (0, .ref (α 0)), (2, .int x2)]) hx hb dX12_meanPrice_20 rfl hl (by decide) rfl (fun ls hl => ?_)
      refine lv_iinc (v := (x2 + (1 : Int32))) (lv' := [(2, .int (x2 + (1 : Int32))), (1, .int (x1 + (σ.2.2.1 48 x2.toNatClampNeg))), (0, .ref (α 0))]) hx hb dX12_meanPrice_21 hl (k := 2) rfl rfl (by decide) rfl (fun ls hl => ?_)
      refine lv_goto (tgt := 4) hx hb dX12_meanPrice_24 (by decide) ?_
      exact ih _ _ _ _ _ _ hM (lv_sub hl [2, 1, 0] rfl) h
def fm_meanPrice (σ : mS) : Option (UInt64 × mS) :=
  fm_meanPrice_4 3000 σ (0 : Int32) (0 : Int32)
set_option maxHeartbeats 4000000 in
set_option maxRecDepth 100000 in
theorem cm_meanPrice (l : Launch) (D : va_G) (ca : Nat → ClassId) (α : Nat → Nat) (A : Nat → Prop) (σ : mS) (o : UInt64 × mS) (h : fm_meanPrice σ  = some o) : mMetD l yX12_meanPrice cX12_meanPrice 3 (some .double) rmX12_meanPrice D ca α A σ [] o := by
  refine Met.ofW (cc := cX12_meanPrice) (maxL := 3) (ret := some .double) (by decide) rfl ?_
  intro p e s m args below meth c s₁ B hml hv
  obtain ⟨rfl, hP, hK, hD0⟩ := hv
  have C : mC p s m _ c cX12_meanPrice 3 D ca := ⟨B.exec, B.bytes, hml, findClass_of_methodNamed B.named, fun w hw => atoms_spec (ws := mWs yX12_meanPrice cX12_meanPrice 3 (some .double)) B.pre w (List.mem_cons_of_mem _ hw), hK⟩
  have hM : mM D ca α A s.heap σ s.heap [] := ⟨hP, hD0, va_S.rf⟩
  have hr := B.returns
  have hlk := B.notSynchronized
  have hx := C.1
  have hb := C.2.1
  have hl := lv_entry ([.ref (α 0)]) (n := 3) (Nat.le_of_ble_eq_true rfl)
  rw [lg_entry_eq]
  generalize (lg_sl ([.ref (α 0)]) ++ List.replicate (3 - (lg_sl ([.ref (α 0)])).length) Slot.unset).toArray = ls at hl ⊢
  have hl : lv_has ls 3 [(0, .ref (α 0))] := hl
  unfold fm_meanPrice at h
  refine lv_iconst (v := (0 : Int32)) hx hb dX12_meanPrice_0 (by decide) ?_
  refine lv_istore_n (lv' := [(1, .int (0 : Int32)), (0, .ref (α 0))]) hx hb dX12_meanPrice_1 rfl hl (by decide) rfl (fun ls hl => ?_)
  refine lv_iconst (v := (0 : Int32)) hx hb dX12_meanPrice_2 (by decide) ?_
  refine lv_istore_n (lv' := [(2, .int (0 : Int32)), (1, .int (0 : Int32)), (0, .ref (α 0))]) hx hb dX12_meanPrice_3 rfl hl (by decide) rfl (fun ls hl => ?_)
  exact gm_meanPrice_4 C hr hlk  _ _ _ _ _ _ _ hM (lv_sub hl [2, 1, 0] rfl) h
/-! isSound()Z -/
abbrev rmX12_isSound : Room := { frames := 0, cells := 0, slots := 0, locals := 0 }
def fm_isSound (σ : mS) : Option (Int32 × mS) :=
  if (1 : Int32) &&& 1 = (1 : Int32) then some ((1 : Int32), (mI σ 0 (0 : Int32))) else none
set_option maxHeartbeats 4000000 in
set_option maxRecDepth 100000 in
theorem cm_isSound (l : Launch) (D : va_G) (ca : Nat → ClassId) (α : Nat → Nat) (A : Nat → Prop) (σ : mS) (o : Int32 × mS) (h : fm_isSound σ  = some o) : mMetI l yX12_isSound cX12_isSound 1 (some .boolean) rmX12_isSound D ca α A σ [] o := by
  refine Met.ofW (cc := cX12_isSound) (maxL := 1) (ret := some .boolean) (by decide) rfl ?_
  intro p e s m args below meth c s₁ B hml hv
  obtain ⟨rfl, hP, hK, hD0⟩ := hv
  have C : mC p s m _ c cX12_isSound 1 D ca := ⟨B.exec, B.bytes, hml, findClass_of_methodNamed B.named, fun w hw => atoms_spec (ws := mWs yX12_isSound cX12_isSound 1 (some .boolean)) B.pre w (List.mem_cons_of_mem _ hw), hK⟩
  have hM : mM D ca α A s.heap σ s.heap [] := ⟨hP, hD0, va_S.rf⟩
  have hr := B.returns
  have hlk := B.notSynchronized
  have hx := C.1
  have hb := C.2.1
  have hl := lv_entry ([.ref (α 0)]) (n := 1) (Nat.le_of_ble_eq_true rfl)
  rw [lg_entry_eq]
  generalize (lg_sl ([.ref (α 0)]) ++ List.replicate (1 - (lg_sl ([.ref (α 0)])).length) Slot.unset).toArray = ls at hl ⊢
  have hl : lv_has ls 1 [(0, .ref (α 0))] := hl
  unfold fm_isSound at h
  refine lv_aload_n hx hb dX12_isSound_0 rfl (lv_at hl 0 rfl) ?_
  refine lv_iconst (v := (0 : Int32)) hx hb dX12_isSound_1 (by decide) ?_
  refine m_puti C hM (k := 0) rfl rfl dX12_isSound_2 (fun H locs hM => ?_)
  refine lv_iconst (v := (1 : Int32)) hx hb dX12_isSound_5 (by decide) ?_
  exact m_rz C hM hr hlk dX12_isSound_6 h
