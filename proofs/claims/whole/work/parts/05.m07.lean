/-! The reference's methods: what each makes of the state (fm_..), as the bytecode has it; and that it does (cm_..). -/

/-! rare(I)I -/
abbrev rmX12_rare : Room := { frames := 2, cells := 0, slots := 0, locals := 45 }
def fm_rare_132 (k_21 : mS → Int32 → Int64 → Int32 → Option (Int32 × mS)) (σ : mS) (x1 : Int32) (x2 : Int64) (x4 : Int32) : Option (Int32 × mS) :=
  k_21 σ x1 x2 (x4 + (1 : Int32))
set_option maxHeartbeats 4000000 in
set_option maxRecDepth 100000 in
theorem gm_rare_132 {p : Program} {l : Launch} {e : Env} {s : State} {m : MethodId} {args : Array Value} {below : List Frame} {meth : Method} {c : Code} {D : va_G} {ca : Nat → ClassId} {α : Nat → Nat} {A : Nat → Prop} {o : Int32 × mS} {k_21 : mS → Int32 → Int64 → Int32 → Option (Int32 × mS)} (C : mC p s m args c cX12_rare 7 D ca) (hr : meth.sig.returnType = some .int) (hlk : meth.locks = false) (hk_21 : ∀ (σ : mS) (x1 : Int32) (x2 : Int64) (x4 : Int32) (H : Heap) (locs : List Loc) (ls : Array Slot), mM D ca α A s.heap σ H locs → lv_has ls 7 [(0, .ref (α 0)), (1, .int x1), (2, .long x2), (4, .int x4)] → k_21 σ x1 x2 x4 = some o → mGI p l e rmX12_rare s m args below meth c D ca α A o H locs 21 ls []) : ∀ (σ : mS) (x1 : Int32) (x2 : Int64) (x4 : Int32) (H : Heap) (locs : List Loc) (ls : Array Slot), mM D ca α A s.heap σ H locs → lv_has ls 7 [(0, .ref (α 0)), (1, .int x1), (2, .long x2), (4, .int x4)] → fm_rare_132 k_21 σ x1 x2 x4 = some o → mGI p l e rmX12_rare s m args below meth c D ca α A o H locs 132 ls [] := by
  have hx := C.1
  have hb := C.2.1
  intro σ x1 x2 x4 H locs ls hM hl h
  unfold fm_rare_132 at h
  refine lv_iinc (v := (x4 + (1 : Int32))) (lv' := [(4, .int (x4 + (1 : Int32))), (0, .ref (α 0)), (1, .int x1), (2, .long x2)]) hx hb dX12_rare_132 hl (k := 3) rfl rfl (by decide) rfl (fun ls hl => ?_)
  refine lv_goto (tgt := 21) hx hb dX12_rare_135 (by decide) ?_
  exact hk_21 _ _ _ _ _ _ _ hM (lv_sub hl [1, 2, 3, 0] rfl) h
def fm_rare_114 (k_21 : mS → Int32 → Int64 → Int32 → Option (Int32 × mS)) (k_52 : mS → Int32 → Int64 → Int32 → Int32 → Int32 → Option (Int32 × mS)) (σ : mS) (x1 : Int32) (x2 : Int64) (x4 : Int32) (x6 : Int32) (s0 : Int32) (s1 : Int32) : Option (Int32 × mS) :=
  k_52 σ x1 x2 x4 (s1 + s0) (x6 + (1 : Int32))
set_option maxHeartbeats 4000000 in
set_option maxRecDepth 100000 in
theorem gm_rare_114 {p : Program} {l : Launch} {e : Env} {s : State} {m : MethodId} {args : Array Value} {below : List Frame} {meth : Method} {c : Code} {D : va_G} {ca : Nat → ClassId} {α : Nat → Nat} {A : Nat → Prop} {o : Int32 × mS} {k_21 : mS → Int32 → Int64 → Int32 → Option (Int32 × mS)} {k_52 : mS → Int32 → Int64 → Int32 → Int32 → Int32 → Option (Int32 × mS)} (C : mC p s m args c cX12_rare 7 D ca) (hr : meth.sig.returnType = some .int) (hlk : meth.locks = false) (hk_21 : ∀ (σ : mS) (x1 : Int32) (x2 : Int64) (x4 : Int32) (H : Heap) (locs : List Loc) (ls : Array Slot), mM D ca α A s.heap σ H locs → lv_has ls 7 [(0, .ref (α 0)), (1, .int x1), (2, .long x2), (4, .int x4)] → k_21 σ x1 x2 x4 = some o → mGI p l e rmX12_rare s m args below meth c D ca α A o H locs 21 ls []) (hk_52 : ∀ (σ : mS) (x1 : Int32) (x2 : Int64) (x4 : Int32) (x5 : Int32) (x6 : Int32) (H : Heap) (locs : List Loc) (ls : Array Slot), mM D ca α A s.heap σ H locs → lv_has ls 7 [(0, .ref (α 0)), (1, .int x1), (2, .long x2), (4, .int x4), (5, .int x5), (6, .int x6)] → k_52 σ x1 x2 x4 x5 x6 = some o → mGI p l e rmX12_rare s m args below meth c D ca α A o H locs 52 ls []) : ∀ (σ : mS) (x1 : Int32) (x2 : Int64) (x4 : Int32) (x6 : Int32) (s0 : Int32) (s1 : Int32) (H : Heap) (locs : List Loc) (ls : Array Slot), mM D ca α A s.heap σ H locs → lv_has ls 7 [(0, .ref (α 0)), (1, .int x1), (2, .long x2), (4, .int x4), (6, .int x6)] → fm_rare_114 k_21 k_52 σ x1 x2 x4 x6 s0 s1 = some o → mGI p l e rmX12_rare s m args below meth c D ca α A o H locs 114 ls [.int s0, .int s1] := by
  have hx := C.1
  have hb := C.2.1
  intro σ x1 x2 x4 x6 s0 s1 H locs ls hM hl h
  unfold fm_rare_114 at h
  refine lv_iadd hx hb dX12_rare_114 ?_
  refine lv_istore (lv' := [(5, .int (s1 + s0)), (0, .ref (α 0)), (1, .int x1), (2, .long x2), (4, .int x4), (6, .int x6)]) hx hb dX12_rare_115 hl (by decide) rfl (fun ls hl => ?_)
  refine lv_iinc (v := (x6 + (1 : Int32))) (lv' := [(6, .int (x6 + (1 : Int32))), (5, .int (s1 + s0)), (0, .ref (α 0)), (1, .int x1), (2, .long x2), (4, .int x4)]) hx hb dX12_rare_117 hl (k := 5) rfl rfl (by decide) rfl (fun ls hl => ?_)
  refine lv_goto (tgt := 52) hx hb dX12_rare_120 (by decide) ?_
  exact hk_52 _ _ _ _ _ _ _ _ _ hM (lv_sub hl [2, 3, 4, 5, 1, 0] rfl) h
def fm_rare_109 (k_21 : mS → Int32 → Int64 → Int32 → Option (Int32 × mS)) (k_52 : mS → Int32 → Int64 → Int32 → Int32 → Int32 → Option (Int32 × mS)) (σ : mS) (x1 : Int32) (x2 : Int64) (x4 : Int32) (x6 : Int32) (s0 : Int32) : Option (Int32 × mS) :=
  fm_rare_114 k_21 k_52 σ x1 x2 x4 x6 (1 : Int32) s0
set_option maxHeartbeats 4000000 in
set_option maxRecDepth 100000 in
theorem gm_rare_109 {p : Program} {l : Launch} {e : Env} {s : State} {m : MethodId} {args : Array Value} {below : List Frame} {meth : Method} {c : Code} {D : va_G} {ca : Nat → ClassId} {α : Nat → Nat} {A : Nat → Prop} {o : Int32 × mS} {k_21 : mS → Int32 → Int64 → Int32 → Option (Int32 × mS)} {k_52 : mS → Int32 → Int64 → Int32 → Int32 → Int32 → Option (Int32 × mS)} (C : mC p s m args c cX12_rare 7 D ca) (hr : meth.sig.returnType = some .int) (hlk : meth.locks = false) (hk_21 : ∀ (σ : mS) (x1 : Int32) (x2 : Int64) (x4 : Int32) (H : Heap) (locs : List Loc) (ls : Array Slot), mM D ca α A s.heap σ H locs → lv_has ls 7 [(0, .ref (α 0)), (1, .int x1), (2, .long x2), (4, .int x4)] → k_21 σ x1 x2 x4 = some o → mGI p l e rmX12_rare s m args below meth c D ca α A o H locs 21 ls []) (hk_52 : ∀ (σ : mS) (x1 : Int32) (x2 : Int64) (x4 : Int32) (x5 : Int32) (x6 : Int32) (H : Heap) (locs : List Loc) (ls : Array Slot), mM D ca α A s.heap σ H locs → lv_has ls 7 [(0, .ref (α 0)), (1, .int x1), (2, .long x2), (4, .int x4), (5, .int x5), (6, .int x6)] → k_52 σ x1 x2 x4 x5 x6 = some o → mGI p l e rmX12_rare s m args below meth c D ca α A o H locs 52 ls []) : ∀ (σ : mS) (x1 : Int32) (x2 : Int64) (x4 : Int32) (x6 : Int32) (s0 : Int32) (H : Heap) (locs : List Loc) (ls : Array Slot), mM D ca α A s.heap σ H locs → lv_has ls 7 [(0, .ref (α 0)), (1, .int x1), (2, .long x2), (4, .int x4), (6, .int x6)] → fm_rare_109 k_21 k_52 σ x1 x2 x4 x6 s0 = some o → mGI p l e rmX12_rare s m args below meth c D ca α A o H locs 109 ls [.int s0] := by
  have hx := C.1
  have hb := C.2.1
  intro σ x1 x2 x4 x6 s0 H locs ls hM hl h
  unfold fm_rare_109 at h
  refine lv_iconst (v := (1 : Int32)) hx hb dX12_rare_109 (by decide) ?_
  refine lv_goto (tgt := 114) hx hb dX12_rare_110 (by decide) ?_
  exact gm_rare_114 C hr hlk hk_21 hk_52 _ _ _ _ _ _ _ _ _ _ hM (lv_sub hl [0, 1, 2, 3, 4] rfl) h
def fm_rare_113 (k_21 : mS → Int32 → Int64 → Int32 → Option (Int32 × mS)) (k_52 : mS → Int32 → Int64 → Int32 → Int32 → Int32 → Option (Int32 × mS)) (σ : mS) (x1 : Int32) (x2 : Int64) (x4 : Int32) (x6 : Int32) (s0 : Int32) : Option (Int32 × mS) :=
  fm_rare_114 k_21 k_52 σ x1 x2 x4 x6 (0 : Int32) s0
set_option maxHeartbeats 4000000 in
set_option maxRecDepth 100000 in
theorem gm_rare_113 {p : Program} {l : Launch} {e : Env} {s : State} {m : MethodId} {args : Array Value} {below : List Frame} {meth : Method} {c : Code} {D : va_G} {ca : Nat → ClassId} {α : Nat → Nat} {A : Nat → Prop} {o : Int32 × mS} {k_21 : mS → Int32 → Int64 → Int32 → Option (Int32 × mS)} {k_52 : mS → Int32 → Int64 → Int32 → Int32 → Int32 → Option (Int32 × mS)} (C : mC p s m args c cX12_rare 7 D ca) (hr : meth.sig.returnType = some .int) (hlk : meth.locks = false) (hk_21 : ∀ (σ : mS) (x1 : Int32) (x2 : Int64) (x4 : Int32) (H : Heap) (locs : List Loc) (ls : Array Slot), mM D ca α A s.heap σ H locs → lv_has ls 7 [(0, .ref (α 0)), (1, .int x1), (2, .long x2), (4, .int x4)] → k_21 σ x1 x2 x4 = some o → mGI p l e rmX12_rare s m args below meth c D ca α A o H locs 21 ls []) (hk_52 : ∀ (σ : mS) (x1 : Int32) (x2 : Int64) (x4 : Int32) (x5 : Int32) (x6 : Int32) (H : Heap) (locs : List Loc) (ls : Array Slot), mM D ca α A s.heap σ H locs → lv_has ls 7 [(0, .ref (α 0)), (1, .int x1), (2, .long x2), (4, .int x4), (5, .int x5), (6, .int x6)] → k_52 σ x1 x2 x4 x5 x6 = some o → mGI p l e rmX12_rare s m args below meth c D ca α A o H locs 52 ls []) : ∀ (σ : mS) (x1 : Int32) (x2 : Int64) (x4 : Int32) (x6 : Int32) (s0 : Int32) (H : Heap) (locs : List Loc) (ls : Array Slot), mM D ca α A s.heap σ H locs → lv_has ls 7 [(0, .ref (α 0)), (1, .int x1), (2, .long x2), (4, .int x4), (6, .int x6)] → fm_rare_113 k_21 k_52 σ x1 x2 x4 x6 s0 = some o → mGI p l e rmX12_rare s m args below meth c D ca α A o H locs 113 ls [.int s0] := by
  have hx := C.1
  have hb := C.2.1
  intro σ x1 x2 x4 x6 s0 H locs ls hM hl h
  unfold fm_rare_113 at h
  refine lv_iconst (v := (0 : Int32)) hx hb dX12_rare_113 (by decide) ?_
  exact gm_rare_114 C hr hlk hk_21 hk_52 _ _ _ _ _ _ _ _ _ _ hM (lv_sub hl [0, 1, 2, 3, 4] rfl) h
def fm_rare_52 (k_21 : mS → Int32 → Int64 → Int32 → Option (Int32 × mS)) : Nat → mS → Int32 → Int64 → Int32 → Int32 → Int32 → Option (Int32 × mS)
  | 0, _, _, _, _, _, _ => none
  | n + 1, σ, x1, x2, x4, x5, x6 =>
    if (σ.1 4) ≤ x6 then
      if x5 = x1 then
        some (x4, σ)
      else
        fm_rare_132 k_21 σ x1 x2 x4
    else
      (fm_has x2 x6).bind fun r_1 =>
      if r_1 = 0 then
        fm_rare_113 k_21 (fm_rare_52 k_21 n) σ x1 x2 x4 x6 x5
      else
        (fm_postingsOf σ x6).bind fun r_2 =>
        (fm_postingsOf r_2.2 x4).bind fun r_3 =>
        if r_2.1 < r_3.1 then
          fm_rare_109 k_21 (fm_rare_52 k_21 n) r_3.2 x1 x2 x4 x6 x5
        else
          (fm_postingsOf r_3.2 x6).bind fun r_4 =>
          (fm_postingsOf r_4.2 x4).bind fun r_5 =>
          if r_4.1 = r_5.1 then
            if x4 ≤ x6 then
              fm_rare_113 k_21 (fm_rare_52 k_21 n) r_5.2 x1 x2 x4 x6 x5
            else
              fm_rare_109 k_21 (fm_rare_52 k_21 n) r_5.2 x1 x2 x4 x6 x5
          else
            fm_rare_113 k_21 (fm_rare_52 k_21 n) r_5.2 x1 x2 x4 x6 x5
set_option maxHeartbeats 4000000 in
set_option maxRecDepth 100000 in
theorem gm_rare_52 {p : Program} {l : Launch} {e : Env} {s : State} {m : MethodId} {args : Array Value} {below : List Frame} {meth : Method} {c : Code} {D : va_G} {ca : Nat → ClassId} {α : Nat → Nat} {A : Nat → Prop} {o : Int32 × mS} {k_21 : mS → Int32 → Int64 → Int32 → Option (Int32 × mS)} (C : mC p s m args c cX12_rare 7 D ca) (hr : meth.sig.returnType = some .int) (hlk : meth.locks = false) (hk_21 : ∀ (σ : mS) (x1 : Int32) (x2 : Int64) (x4 : Int32) (H : Heap) (locs : List Loc) (ls : Array Slot), mM D ca α A s.heap σ H locs → lv_has ls 7 [(0, .ref (α 0)), (1, .int x1), (2, .long x2), (4, .int x4)] → k_21 σ x1 x2 x4 = some o → mGI p l e rmX12_rare s m args below meth c D ca α A o H locs 21 ls []) : ∀ (n : Nat) (σ : mS) (x1 : Int32) (x2 : Int64) (x4 : Int32) (x5 : Int32) (x6 : Int32) (H : Heap) (locs : List Loc) (ls : Array Slot), mM D ca α A s.heap σ H locs → lv_has ls 7 [(0, .ref (α 0)), (1, .int x1), (2, .long x2), (4, .int x4), (5, .int x5), (6, .int x6)] → fm_rare_52 k_21 n σ x1 x2 x4 x5 x6 = some o → mGI p l e rmX12_rare s m args below meth c D ca α A o H locs 52 ls [] := by
  have hx := C.1
  have hb := C.2.1
  intro n
  induction n with
  | zero =>
    intro σ x1 x2 x4 x5 x6 H locs ls hM hl h
    cases h
  | succ n ih =>
    intro σ x1 x2 x4 x5 x6 H locs ls hM hl h
    rw [fm_rare_52] at h
    refine lv_iload hx hb dX12_rare_52 (lv_at hl 5 rfl) ?_
    refine lv_aload_n hx hb dX12_rare_54 rfl (lv_at hl 0 rfl) ?_
    refine m_geti C hM (k := 4) (Or.inl rfl) rfl dX12_rare_55 ?_
    refine lv_icmp_ge (tgt := 123) hx hb dX12_rare_58 (by decide) (fun c_1 => ?_) (fun c_1 => ?_)
    · have h := br_T c_1 h
      refine lv_iload hx hb dX12_rare_123 (lv_at hl 4 rfl) ?_
      refine lv_iload_n hx hb dX12_rare_125 rfl (lv_at hl 1 rfl) ?_
      refine lv_icmp_ne (tgt := 132) hx hb dX12_rare_126 (by decide) (fun c_2 => ?_) (fun c_2 => ?_)
      · have h := br_F c_2 h
        exact gm_rare_132 C hr hlk hk_21 _ _ _ _ _ _ _ hM (lv_sub hl [0, 1, 2, 3] rfl) h
      · have h := br_T c_2 h
        refine lv_iload hx hb dX12_rare_129 (lv_at hl 3 rfl) ?_
        exact m_ri C hM hr hlk dX12_rare_131 h
    · have h := br_F c_1 h
      refine lv_iload hx hb dX12_rare_61 (lv_at hl 4 rfl) ?_
      refine lv_lload_n hx hb dX12_rare_63 rfl (lv_at hl 2 rfl) ?_
      refine lv_iload hx hb dX12_rare_64 (lv_at hl 5 rfl) ?_
      obtain ⟨r_1, hr_1, h⟩ := bd_of h
      refine m_cSi (As := [.long x2, .int x6]) (rest := [.int x5]) C hM (cm_has l D ca α A σ x2 x6 r_1 hr_1) mwy_has ⟨rfl, rfl⟩ ⟨Nat.le_of_ble_eq_true rfl, Nat.le_of_ble_eq_true rfl⟩ rfl rfl (Nat.le_of_ble_eq_true rfl) hl.1 dX12_rare_66 ⟨rfl, rfl⟩ (fun H locs hM => ?_)
      refine lv_if_eq (tgt := 113) hx hb dX12_rare_69 (by decide) (fun c_3 => ?_) (fun c_3 => ?_)
      · have h := br_T c_3 h
        exact gm_rare_113 C hr hlk hk_21 ih _ _ _ _ _ _ _ _ _ hM (lv_sub hl [0, 1, 2, 3, 5] rfl) h
      · have h := br_F c_3 h
        refine lv_aload_n hx hb dX12_rare_72 rfl (lv_at hl 0 rfl) ?_
        refine lv_iload hx hb dX12_rare_73 (lv_at hl 5 rfl) ?_
        obtain ⟨r_2, hr_2, h⟩ := bd_of h
        refine m_cVi (As := [.int x6]) (rest := [.int x5]) C hM (cm_postingsOf l D ca α A σ x6 r_2 hr_2) mwy_postingsOf ⟨rfl, rfl⟩ ⟨Nat.le_of_ble_eq_true rfl, Nat.le_of_ble_eq_true rfl⟩ rfl rfl (Nat.le_of_ble_eq_true rfl) hl.1 dX12_rare_75 ⟨rfl, rfl⟩ (fun H locs hM => ?_)
        refine lv_aload_n hx hb dX12_rare_78 rfl (lv_at hl 0 rfl) ?_
        refine lv_iload hx hb dX12_rare_79 (lv_at hl 3 rfl) ?_
        obtain ⟨r_3, hr_3, h⟩ := bd_of h
        refine m_cVi (As := [.int x4]) (rest := [.int r_2.1, .int x5]) C hM (cm_postingsOf l D ca α A r_2.2 x4 r_3 hr_3) mwy_postingsOf ⟨rfl, rfl⟩ ⟨Nat.le_of_ble_eq_true rfl, Nat.le_of_ble_eq_true rfl⟩ rfl rfl (Nat.le_of_ble_eq_true rfl) hl.1 dX12_rare_81 ⟨rfl, rfl⟩ (fun H locs hM => ?_)
        refine lv_icmp_lt (tgt := 109) hx hb dX12_rare_84 (by decide) (fun c_4 => ?_) (fun c_4 => ?_)
        · have h := br_T c_4 h
          exact gm_rare_109 C hr hlk hk_21 ih _ _ _ _ _ _ _ _ _ hM (lv_sub hl [0, 1, 2, 3, 5] rfl) h
        · have h := br_F c_4 h
          refine lv_aload_n hx hb dX12_rare_87 rfl (lv_at hl 0 rfl) ?_
          refine lv_iload hx hb dX12_rare_88 (lv_at hl 5 rfl) ?_
          obtain ⟨r_4, hr_4, h⟩ := bd_of h
          refine m_cVi (As := [.int x6]) (rest := [.int x5]) C hM (cm_postingsOf l D ca α A r_3.2 x6 r_4 hr_4) mwy_postingsOf ⟨rfl, rfl⟩ ⟨Nat.le_of_ble_eq_true rfl, Nat.le_of_ble_eq_true rfl⟩ rfl rfl (Nat.le_of_ble_eq_true rfl) hl.1 dX12_rare_90 ⟨rfl, rfl⟩ (fun H locs hM => ?_)
          refine lv_aload_n hx hb dX12_rare_93 rfl (lv_at hl 0 rfl) ?_
          refine lv_iload hx hb dX12_rare_94 (lv_at hl 3 rfl) ?_
          obtain ⟨r_5, hr_5, h⟩ := bd_of h
          refine m_cVi (As := [.int x4]) (rest := [.int r_4.1, .int x5]) C hM (cm_postingsOf l D ca α A r_4.2 x4 r_5 hr_5) mwy_postingsOf ⟨rfl, rfl⟩ ⟨Nat.le_of_ble_eq_true rfl, Nat.le_of_ble_eq_true rfl⟩ rfl rfl (Nat.le_of_ble_eq_true rfl) hl.1 dX12_rare_96 ⟨rfl, rfl⟩ (fun H locs hM => ?_)
          refine lv_icmp_ne (tgt := 113) hx hb dX12_rare_99 (by decide) (fun c_5 => ?_) (fun c_5 => ?_)
          · have h := br_F c_5 h
            exact gm_rare_113 C hr hlk hk_21 ih _ _ _ _ _ _ _ _ _ hM (lv_sub hl [0, 1, 2, 3, 5] rfl) h
          · have h := br_T c_5 h
            refine lv_iload hx hb dX12_rare_102 (lv_at hl 5 rfl) ?_
            refine lv_iload hx hb dX12_rare_104 (lv_at hl 3 rfl) ?_
            refine lv_icmp_ge (tgt := 113) hx hb dX12_rare_106 (by decide) (fun c_6 => ?_) (fun c_6 => ?_)
            · have h := br_T c_6 h
              exact gm_rare_113 C hr hlk hk_21 ih _ _ _ _ _ _ _ _ _ hM (lv_sub hl [0, 1, 2, 3, 5] rfl) h
            · have h := br_F c_6 h
              exact gm_rare_109 C hr hlk hk_21 ih _ _ _ _ _ _ _ _ _ hM (lv_sub hl [0, 1, 2, 3, 5] rfl) h
def fm_rare_138 (σ : mS) : Option (Int32 × mS) :=
  some ((0 : Int32), (mI σ 0 (2 : Int32)))
set_option maxHeartbeats 4000000 in
set_option maxRecDepth 100000 in
theorem gm_rare_138 {p : Program} {l : Launch} {e : Env} {s : State} {m : MethodId} {args : Array Value} {below : List Frame} {meth : Method} {c : Code} {D : va_G} {ca : Nat → ClassId} {α : Nat → Nat} {A : Nat → Prop} {o : Int32 × mS} (C : mC p s m args c cX12_rare 7 D ca) (hr : meth.sig.returnType = some .int) (hlk : meth.locks = false) : ∀ (σ : mS) (H : Heap) (locs : List Loc) (ls : Array Slot), mM D ca α A s.heap σ H locs → lv_has ls 7 [(0, .ref (α 0))] → fm_rare_138 σ = some o → mGI p l e rmX12_rare s m args below meth c D ca α A o H locs 138 ls [] := by
  have hx := C.1
  have hb := C.2.1
  intro σ H locs ls hM hl h
  unfold fm_rare_138 at h
  refine lv_aload_n hx hb dX12_rare_138 rfl (lv_at hl 0 rfl) ?_
  refine lv_iconst (v := (2 : Int32)) hx hb dX12_rare_139 (by decide) ?_
  refine m_puti C hM (k := 0) rfl rfl dX12_rare_140 (fun H locs hM => ?_)
  refine lv_iconst (v := (0 : Int32)) hx hb dX12_rare_143 (by decide) ?_
  exact m_ri C hM hr hlk dX12_rare_144 h
def fm_rare_21 : Nat → mS → Int32 → Int64 → Int32 → Option (Int32 × mS)
  | 0, _, _, _, _ => none
  | n + 1, σ, x1, x2, x4 =>
    if (σ.1 4) ≤ x4 then
      fm_rare_138 σ
    else
      if x1 < 0 then
        fm_rare_138 σ
      else
        (fm_has x2 x4).bind fun r_1 =>
        if r_1 = 0 then
          fm_rare_132 (fm_rare_21 n) σ x1 x2 x4
        else
          fm_rare_52 (fm_rare_21 n) 3000 σ x1 x2 x4 (0 : Int32) (0 : Int32)
set_option maxHeartbeats 4000000 in
set_option maxRecDepth 100000 in
theorem gm_rare_21 {p : Program} {l : Launch} {e : Env} {s : State} {m : MethodId} {args : Array Value} {below : List Frame} {meth : Method} {c : Code} {D : va_G} {ca : Nat → ClassId} {α : Nat → Nat} {A : Nat → Prop} {o : Int32 × mS} (C : mC p s m args c cX12_rare 7 D ca) (hr : meth.sig.returnType = some .int) (hlk : meth.locks = false) : ∀ (n : Nat) (σ : mS) (x1 : Int32) (x2 : Int64) (x4 : Int32) (H : Heap) (locs : List Loc) (ls : Array Slot), mM D ca α A s.heap σ H locs → lv_has ls 7 [(0, .ref (α 0)), (1, .int x1), (2, .long x2), (4, .int x4)] → fm_rare_21 n σ x1 x2 x4 = some o → mGI p l e rmX12_rare s m args below meth c D ca α A o H locs 21 ls [] := by
  have hx := C.1
  have hb := C.2.1
  intro n
  induction n with
  | zero =>
    intro σ x1 x2 x4 H locs ls hM hl h
    cases h
  | succ n ih =>
    intro σ x1 x2 x4 H locs ls hM hl h
    rw [fm_rare_21] at h
    refine lv_iload hx hb dX12_rare_21 (lv_at hl 3 rfl) ?_
    refine lv_aload_n hx hb dX12_rare_23 rfl (lv_at hl 0 rfl) ?_
    refine m_geti C hM (k := 4) (Or.inl rfl) rfl dX12_rare_24 ?_
    refine lv_icmp_ge (tgt := 138) hx hb dX12_rare_27 (by decide) (fun c_1 => ?_) (fun c_1 => ?_)
    · have h := br_T c_1 h
      exact gm_rare_138 C hr hlk  _ _ _ _ hM (lv_sub hl [0] rfl) h
    · have h := br_F c_1 h
      refine lv_iload_n hx hb dX12_rare_30 rfl (lv_at hl 1 rfl) ?_
      refine lv_if_lt (tgt := 138) hx hb dX12_rare_31 (by decide) (fun c_2 => ?_) (fun c_2 => ?_)
      · have h := br_T c_2 h
        exact gm_rare_138 C hr hlk  _ _ _ _ hM (lv_sub hl [0] rfl) h
      · have h := br_F c_2 h
        refine lv_lload_n hx hb dX12_rare_34 rfl (lv_at hl 2 rfl) ?_
        refine lv_iload hx hb dX12_rare_35 (lv_at hl 3 rfl) ?_
        obtain ⟨r_1, hr_1, h⟩ := bd_of h
        refine m_cSi (As := [.long x2, .int x4]) (rest := []) C hM (cm_has l D ca α A σ x2 x4 r_1 hr_1) mwy_has ⟨rfl, rfl⟩ ⟨Nat.le_of_ble_eq_true rfl, Nat.le_of_ble_eq_true rfl⟩ rfl rfl (Nat.le_of_ble_eq_true rfl) hl.1 dX12_rare_37 ⟨rfl, rfl⟩ (fun H locs hM => ?_)
        refine lv_if_ne (tgt := 46) hx hb dX12_rare_40 (by decide) (fun c_3 => ?_) (fun c_3 => ?_)
        · have h := br_F c_3 h
          refine lv_iconst (v := (0 : Int32)) hx hb dX12_rare_46 (by decide) ?_
          refine lv_istore (lv' := [(5, .int (0 : Int32)), (0, .ref (α 0)), (1, .int x1), (2, .long x2), (4, .int x4)]) hx hb dX12_rare_47 hl (by decide) rfl (fun ls hl => ?_)
          refine lv_iconst (v := (0 : Int32)) hx hb dX12_rare_49 (by decide) ?_
          refine lv_istore (lv' := [(6, .int (0 : Int32)), (5, .int (0 : Int32)), (0, .ref (α 0)), (1, .int x1), (2, .long x2), (4, .int x4)]) hx hb dX12_rare_50 hl (by decide) rfl (fun ls hl => ?_)
          exact gm_rare_52 C hr hlk ih _ _ _ _ _ _ _ _ _ _ hM (lv_sub hl [2, 3, 4, 5, 1, 0] rfl) h
        · have h := br_T c_3 h
          refine lv_goto (tgt := 132) hx hb dX12_rare_43 (by decide) ?_
          exact gm_rare_132 C hr hlk ih _ _ _ _ _ _ _ hM (lv_sub hl [0, 1, 2, 3] rfl) h
def fm_rare (σ : mS) (x1 : Int32) : Option (Int32 × mS) :=
  (fm_isNotBegun σ).bind fun r_1 =>
  if r_1.1 = 0 then
    (fm_knownAt r_1.2 (r_1.2.1 34)).bind fun r_2 =>
    fm_rare_21 3000 r_2.2 x1 r_2.1 (0 : Int32)
  else
    some ((0 : Int32), r_1.2)
set_option maxHeartbeats 4000000 in
set_option maxRecDepth 100000 in
theorem cm_rare (l : Launch) (D : va_G) (ca : Nat → ClassId) (α : Nat → Nat) (A : Nat → Prop) (σ : mS) (x1 : Int32) (o : Int32 × mS) (h : fm_rare σ x1 = some o) : mMetI l yX12_rare cX12_rare 7 (some .int) rmX12_rare D ca α A σ [.int x1] o := by
  refine Met.ofW (cc := cX12_rare) (maxL := 7) (ret := some .int) (by decide) rfl ?_
  intro p e s m args below meth c s₁ B hml hv
  obtain ⟨rfl, hP, hK, hD0⟩ := hv
  have C : mC p s m _ c cX12_rare 7 D ca := ⟨B.exec, B.bytes, hml, findClass_of_methodNamed B.named, fun w hw => atoms_spec (ws := mWs yX12_rare cX12_rare 7 (some .int)) B.pre w (List.mem_cons_of_mem _ hw), hK⟩
  have hM : mM D ca α A s.heap σ s.heap [] := ⟨hP, hD0, va_S.rf⟩
  have hr := B.returns
  have hlk := B.notSynchronized
  have hx := C.1
  have hb := C.2.1
  have hl := lv_entry ([.ref (α 0), .int x1]) (n := 7) (Nat.le_of_ble_eq_true rfl)
  rw [lg_entry_eq]
  generalize (lg_sl ([.ref (α 0), .int x1]) ++ List.replicate (7 - (lg_sl ([.ref (α 0), .int x1])).length) Slot.unset).toArray = ls at hl ⊢
  have hl : lv_has ls 7 [(0, .ref (α 0)), (1, .int x1)] := hl
  unfold fm_rare at h
  refine lv_aload_n hx hb dX12_rare_0 rfl (lv_at hl 0 rfl) ?_
  obtain ⟨r_1, hr_1, h⟩ := bd_of h
  refine m_cVi (As := []) (rest := []) C hM (cm_isNotBegun l D ca α A σ  r_1 hr_1) mwy_isNotBegun ⟨rfl, rfl⟩ ⟨Nat.le_of_ble_eq_true rfl, Nat.le_of_ble_eq_true rfl⟩ rfl rfl (Nat.le_of_ble_eq_true rfl) hl.1 dX12_rare_1 ⟨rfl, rfl⟩ (fun H locs hM => ?_)
  refine lv_if_eq (tgt := 9) hx hb dX12_rare_4 (by decide) (fun c_1 => ?_) (fun c_1 => ?_)
  · have h := br_T c_1 h
    refine lv_aload_n hx hb dX12_rare_9 rfl (lv_at hl 0 rfl) ?_
    refine lv_aload_n hx hb dX12_rare_10 rfl (lv_at hl 0 rfl) ?_
    refine m_geti C hM (k := 34) (Or.inl rfl) rfl dX12_rare_11 ?_
    obtain ⟨r_2, hr_2, h⟩ := bd_of h
    refine m_cVl (As := [.int (r_1.2.1 34)]) (rest := []) C hM (cm_knownAt l D ca α A r_1.2 (r_1.2.1 34) r_2 hr_2) mwy_knownAt ⟨rfl, rfl⟩ ⟨Nat.le_of_ble_eq_true rfl, Nat.le_of_ble_eq_true rfl⟩ rfl rfl (Nat.le_of_ble_eq_true rfl) hl.1 dX12_rare_14 ⟨rfl, rfl⟩ (fun H locs hM => ?_)
    refine lv_lstore_n (lv' := [(2, .long r_2.1), (0, .ref (α 0)), (1, .int x1)]) hx hb dX12_rare_17 rfl hl (by decide) rfl (fun ls hl => ?_)
    refine lv_iconst (v := (0 : Int32)) hx hb dX12_rare_18 (by decide) ?_
    refine lv_istore (lv' := [(4, .int (0 : Int32)), (2, .long r_2.1), (0, .ref (α 0)), (1, .int x1)]) hx hb dX12_rare_19 hl (by decide) rfl (fun ls hl => ?_)
    exact gm_rare_21 C hr hlk  _ _ _ _ _ _ _ _ hM (lv_sub hl [2, 3, 1, 0] rfl) h
  · have h := br_F c_1 h
    refine lv_iconst (v := (0 : Int32)) hx hb dX12_rare_7 (by decide) ?_
    exact m_ri C hM hr hlk dX12_rare_8 h
/-! isHint(I)Z -/
abbrev rmX12_isHint : Room := { frames := 1, cells := 0, slots := 0, locals := 22 }
def fm_isHint (σ : mS) (x1 : Int32) : Option (Int32 × mS) :=
  (fm_isBetween x1 (0 : Int32) ((σ.1 45) - (1 : Int32))).bind fun r_1 =>
  if r_1 &&& 1 = r_1 then some (r_1, σ) else none
set_option maxHeartbeats 4000000 in
set_option maxRecDepth 100000 in
theorem cm_isHint (l : Launch) (D : va_G) (ca : Nat → ClassId) (α : Nat → Nat) (A : Nat → Prop) (σ : mS) (x1 : Int32) (o : Int32 × mS) (h : fm_isHint σ x1 = some o) : mMetI l yX12_isHint cX12_isHint 2 (some .boolean) rmX12_isHint D ca α A σ [.int x1] o := by
  refine Met.ofW (cc := cX12_isHint) (maxL := 2) (ret := some .boolean) (by decide) rfl ?_
  intro p e s m args below meth c s₁ B hml hv
  obtain ⟨rfl, hP, hK, hD0⟩ := hv
  have C : mC p s m _ c cX12_isHint 2 D ca := ⟨B.exec, B.bytes, hml, findClass_of_methodNamed B.named, fun w hw => atoms_spec (ws := mWs yX12_isHint cX12_isHint 2 (some .boolean)) B.pre w (List.mem_cons_of_mem _ hw), hK⟩
  have hM : mM D ca α A s.heap σ s.heap [] := ⟨hP, hD0, va_S.rf⟩
  have hr := B.returns
  have hlk := B.notSynchronized
  have hx := C.1
  have hb := C.2.1
  have hl := lv_entry ([.ref (α 0), .int x1]) (n := 2) (Nat.le_of_ble_eq_true rfl)
  rw [lg_entry_eq]
  generalize (lg_sl ([.ref (α 0), .int x1]) ++ List.replicate (2 - (lg_sl ([.ref (α 0), .int x1])).length) Slot.unset).toArray = ls at hl ⊢
  have hl : lv_has ls 2 [(0, .ref (α 0)), (1, .int x1)] := hl
  unfold fm_isHint at h
  refine lv_iload_n hx hb dX12_isHint_0 rfl (lv_at hl 1 rfl) ?_
  refine lv_iconst (v := (0 : Int32)) hx hb dX12_isHint_1 (by decide) ?_
  refine lv_aload_n hx hb dX12_isHint_2 rfl (lv_at hl 0 rfl) ?_
  refine m_geti C hM (k := 45) (Or.inl rfl) rfl dX12_isHint_3 ?_
  refine lv_iconst (v := (1 : Int32)) hx hb dX12_isHint_6 (by decide) ?_
  refine lv_isub hx hb dX12_isHint_7 ?_
  obtain ⟨r_1, hr_1, h⟩ := bd_of h
  refine m_cSi (As := [.int x1, .int (0 : Int32), .int ((σ.1 45) - (1 : Int32))]) (rest := []) C hM (cm_isBetween l D ca α A σ x1 (0 : Int32) ((σ.1 45) - (1 : Int32)) r_1 hr_1) mwy_isBetween ⟨rfl, rfl⟩ ⟨Nat.le_of_ble_eq_true rfl, Nat.le_of_ble_eq_true rfl⟩ rfl rfl (Nat.le_of_ble_eq_true rfl) hl.1 dX12_isHint_8 ⟨rfl, rfl⟩ (fun H locs hM => ?_)
  exact m_rz C hM hr hlk dX12_isHint_11 h
theorem mwy_isHint : mCallV RX12 315 yX12_isHint cX12_isHint 2 (some .boolean) 1 := ⟨⟨wl_in (i := 2317) (by decide +kernel), wl_in (i := 2319) (by decide +kernel), wl_inp (i := 62) (by decide +kernel), wl_in (i := 16) (by decide +kernel), wl_in (i := 2320) (by decide +kernel)⟩, rfl, by decide, by decide, by decide +kernel⟩
/-! hint(I)I -/
abbrev rmX12_hint : Room := { frames := 1, cells := 0, slots := 0, locals := 22 }
def fm_hint_29 (σ : mS) (x1 : Int32) (s0 : Int32) : Option (Int32 × mS) :=
  (fm_isWrong σ s0).bind fun r_1 =>
  if r_1.1 = 0 then
    if (r_1.2.1 45) < 0 ∨ 12 ≤ (r_1.2.1 45).toNatClampNeg then none else
    some ((((mI (mA r_1.2 43 (r_1.2.1 45).toNatClampNeg x1) 45 (((mA r_1.2 43 (r_1.2.1 45).toNatClampNeg x1).1 45) + (1 : Int32))).1 45) - (1 : Int32)), (mI (mA r_1.2 43 (r_1.2.1 45).toNatClampNeg x1) 45 (((mA r_1.2 43 (r_1.2.1 45).toNatClampNeg x1).1 45) + (1 : Int32))))
  else
    some ((0 : Int32), r_1.2)
set_option maxHeartbeats 4000000 in
set_option maxRecDepth 100000 in
theorem gm_hint_29 {p : Program} {l : Launch} {e : Env} {s : State} {m : MethodId} {args : Array Value} {below : List Frame} {meth : Method} {c : Code} {D : va_G} {ca : Nat → ClassId} {α : Nat → Nat} {A : Nat → Prop} {o : Int32 × mS} (C : mC p s m args c cX12_hint 2 D ca) (hr : meth.sig.returnType = some .int) (hlk : meth.locks = false) : ∀ (σ : mS) (x1 : Int32) (s0 : Int32) (H : Heap) (locs : List Loc) (ls : Array Slot), mM D ca α A s.heap σ H locs → lv_has ls 2 [(0, .ref (α 0)), (1, .int x1)] → fm_hint_29 σ x1 s0 = some o → mGI p l e rmX12_hint s m args below meth c D ca α A o H locs 29 ls [.int s0, .ref (α 0)] := by
  have hx := C.1
  have hb := C.2.1
  intro σ x1 s0 H locs ls hM hl h
  unfold fm_hint_29 at h
  obtain ⟨r_1, hr_1, h⟩ := bd_of h
  refine m_cVi (As := [.int s0]) (rest := []) C hM (cm_isWrong l D ca α A σ s0 r_1 hr_1) mwy_isWrong ⟨rfl, rfl⟩ ⟨Nat.le_of_ble_eq_true rfl, Nat.le_of_ble_eq_true rfl⟩ rfl rfl (Nat.le_of_ble_eq_true rfl) hl.1 dX12_hint_29 ⟨rfl, rfl⟩ (fun H locs hM => ?_)
  refine lv_if_eq (tgt := 37) hx hb dX12_hint_32 (by decide) (fun c_1 => ?_) (fun c_1 => ?_)
  · have h := br_T c_1 h
    refine lv_aload_n hx hb dX12_hint_37 rfl (lv_at hl 0 rfl) ?_
    refine m_geta C hM (k := 43) (by decide) rfl dX12_hint_38 ?_
    refine lv_aload_n hx hb dX12_hint_41 rfl (lv_at hl 0 rfl) ?_
    refine m_geti C hM (k := 45) (Or.inl rfl) rfl dX12_hint_42 ?_
    refine lv_iload_n hx hb dX12_hint_45 rfl (lv_at hl 1 rfl) ?_
    obtain ⟨c_2, h⟩ := ko_of h
    refine m_iast C hM (k := 43) rfl c_2 dX12_hint_46 (fun H locs hM => ?_)
    refine lv_aload_n hx hb dX12_hint_47 rfl (lv_at hl 0 rfl) ?_
    refine lv_dup hx hb dX12_hint_48 rfl ?_
    refine m_geti C hM (k := 45) (Or.inl rfl) rfl dX12_hint_49 ?_
    refine lv_iconst (v := (1 : Int32)) hx hb dX12_hint_52 (by decide) ?_
    refine lv_iadd hx hb dX12_hint_53 ?_
    refine m_puti C hM (k := 45) rfl rfl dX12_hint_54 (fun H locs hM => ?_)
    refine lv_aload_n hx hb dX12_hint_57 rfl (lv_at hl 0 rfl) ?_
    refine m_geti C hM (k := 45) (Or.inl rfl) rfl dX12_hint_58 ?_
    refine lv_iconst (v := (1 : Int32)) hx hb dX12_hint_61 (by decide) ?_
    refine lv_isub hx hb dX12_hint_62 ?_
    exact m_ri C hM hr hlk dX12_hint_63 h
  · have h := br_F c_1 h
    refine lv_iconst (v := (0 : Int32)) hx hb dX12_hint_35 (by decide) ?_
    exact m_ri C hM hr hlk dX12_hint_36 h
def fm_hint (σ : mS) (x1 : Int32) : Option (Int32 × mS) :=
  (fm_isBetween x1 (1 : Int32) (50 : Int32)).bind fun r_1 =>
  if r_1 = 0 then
    fm_hint_29 σ x1 (1 : Int32)
  else
    if (σ.1 45) = (12 : Int32) then
      fm_hint_29 σ x1 (2 : Int32)
    else
      fm_hint_29 σ x1 (0 : Int32)
set_option maxHeartbeats 4000000 in
set_option maxRecDepth 100000 in
theorem cm_hint (l : Launch) (D : va_G) (ca : Nat → ClassId) (α : Nat → Nat) (A : Nat → Prop) (σ : mS) (x1 : Int32) (o : Int32 × mS) (h : fm_hint σ x1 = some o) : mMetI l yX12_hint cX12_hint 2 (some .int) rmX12_hint D ca α A σ [.int x1] o := by
  refine Met.ofW (cc := cX12_hint) (maxL := 2) (ret := some .int) (by decide) rfl ?_
  intro p e s m args below meth c s₁ B hml hv
  obtain ⟨rfl, hP, hK, hD0⟩ := hv
  have C : mC p s m _ c cX12_hint 2 D ca := ⟨B.exec, B.bytes, hml, findClass_of_methodNamed B.named, fun w hw => atoms_spec (ws := mWs yX12_hint cX12_hint 2 (some .int)) B.pre w (List.mem_cons_of_mem _ hw), hK⟩
  have hM : mM D ca α A s.heap σ s.heap [] := ⟨hP, hD0, va_S.rf⟩
  have hr := B.returns
  have hlk := B.notSynchronized
  have hx := C.1
  have hb := C.2.1
  have hl := lv_entry ([.ref (α 0), .int x1]) (n := 2) (Nat.le_of_ble_eq_true rfl)
  rw [lg_entry_eq]
  generalize (lg_sl ([.ref (α 0), .int x1]) ++ List.replicate (2 - (lg_sl ([.ref (α 0), .int x1])).length) Slot.unset).toArray = ls at hl ⊢
  have hl : lv_has ls 2 [(0, .ref (α 0)), (1, .int x1)] := hl
  unfold fm_hint at h
  refine lv_aload_n hx hb dX12_hint_0 rfl (lv_at hl 0 rfl) ?_
  refine lv_iload_n hx hb dX12_hint_1 rfl (lv_at hl 1 rfl) ?_
  refine lv_iconst (v := (1 : Int32)) hx hb dX12_hint_2 (by decide) ?_
  refine lv_bipush (v := (50 : Int32)) hx hb dX12_hint_3 (by decide) ?_
  obtain ⟨r_1, hr_1, h⟩ := bd_of h
  refine m_cSi (As := [.int x1, .int (1 : Int32), .int (50 : Int32)]) (rest := [.ref (α 0)]) C hM (cm_isBetween l D ca α A σ x1 (1 : Int32) (50 : Int32) r_1 hr_1) mwy_isBetween ⟨rfl, rfl⟩ ⟨Nat.le_of_ble_eq_true rfl, Nat.le_of_ble_eq_true rfl⟩ rfl rfl (Nat.le_of_ble_eq_true rfl) hl.1 dX12_hint_5 ⟨rfl, rfl⟩ (fun H locs hM => ?_)
  refine lv_if_ne (tgt := 15) hx hb dX12_hint_8 (by decide) (fun c_1 => ?_) (fun c_1 => ?_)
  · have h := br_F c_1 h
    refine lv_aload_n hx hb dX12_hint_15 rfl (lv_at hl 0 rfl) ?_
    refine m_geti C hM (k := 45) (Or.inl rfl) rfl dX12_hint_16 ?_
    refine lv_bipush (v := (12 : Int32)) hx hb dX12_hint_19 (by decide) ?_
    refine lv_icmp_ne (tgt := 28) hx hb dX12_hint_21 (by decide) (fun c_2 => ?_) (fun c_2 => ?_)
    · have h := br_F c_2 h
      refine lv_iconst (v := (0 : Int32)) hx hb dX12_hint_28 (by decide) ?_
      exact gm_hint_29 C hr hlk  _ _ _ _ _ _ hM (lv_sub hl [0, 1] rfl) h
    · have h := br_T c_2 h
      refine lv_iconst (v := (2 : Int32)) hx hb dX12_hint_24 (by decide) ?_
      refine lv_goto (tgt := 29) hx hb dX12_hint_25 (by decide) ?_
      exact gm_hint_29 C hr hlk  _ _ _ _ _ _ hM (lv_sub hl [0, 1] rfl) h
  · have h := br_T c_1 h
    refine lv_iconst (v := (1 : Int32)) hx hb dX12_hint_11 (by decide) ?_
    refine lv_goto (tgt := 29) hx hb dX12_hint_12 (by decide) ?_
    exact gm_hint_29 C hr hlk  _ _ _ _ _ _ hM (lv_sub hl [0, 1] rfl) h
/-! wasSold(I)Z -/
abbrev rmX12_wasSold : Room := { frames := 0, cells := 0, slots := 0, locals := 0 }
def fm_wasSold_33 (k_4 : mS → Int32 → Int32 → Int32 → Option (Int32 × mS)) (σ : mS) (x1 : Int32) (x3 : Int32) (s0 : Int32) (s1 : Int32) : Option (Int32 × mS) :=
  k_4 σ x1 (s1 ||| s0) (x3 + (1 : Int32))
set_option maxHeartbeats 4000000 in
set_option maxRecDepth 100000 in
theorem gm_wasSold_33 {p : Program} {l : Launch} {e : Env} {s : State} {m : MethodId} {args : Array Value} {below : List Frame} {meth : Method} {c : Code} {D : va_G} {ca : Nat → ClassId} {α : Nat → Nat} {A : Nat → Prop} {o : Int32 × mS} {k_4 : mS → Int32 → Int32 → Int32 → Option (Int32 × mS)} (C : mC p s m args c cX12_wasSold 4 D ca) (hr : meth.sig.returnType = some .boolean) (hlk : meth.locks = false) (hk_4 : ∀ (σ : mS) (x1 : Int32) (x2 : Int32) (x3 : Int32) (H : Heap) (locs : List Loc) (ls : Array Slot), mM D ca α A s.heap σ H locs → lv_has ls 4 [(0, .ref (α 0)), (1, .int x1), (2, .int x2), (3, .int x3)] → k_4 σ x1 x2 x3 = some o → mGI p l e rmX12_wasSold s m args below meth c D ca α A o H locs 4 ls []) : ∀ (σ : mS) (x1 : Int32) (x3 : Int32) (s0 : Int32) (s1 : Int32) (H : Heap) (locs : List Loc) (ls : Array Slot), mM D ca α A s.heap σ H locs → lv_has ls 4 [(0, .ref (α 0)), (1, .int x1), (3, .int x3)] → fm_wasSold_33 k_4 σ x1 x3 s0 s1 = some o → mGI p l e rmX12_wasSold s m args below meth c D ca α A o H locs 33 ls [.int s0, .int s1] := by
  have hx := C.1
  have hb := C.2.1
  intro σ x1 x3 s0 s1 H locs ls hM hl h
  unfold fm_wasSold_33 at h
  refine lv_ior hx hb dX12_wasSold_33 ?_
  refine lv_istore_n (lv' := [(2, .int (s1 ||| s0)), (0, .ref (α 0)), (1, .int x1), (3, .int x3)]) hx hb dX12_wasSold_34 rfl hl (by decide) rfl (fun ls hl => ?_)
  refine lv_iinc (v := (x3 + (1 : Int32))) (lv' := [(3, .int (x3 + (1 : Int32))), (2, .int (s1 ||| s0)), (0, .ref (α 0)), (1, .int x1)]) hx hb dX12_wasSold_35 hl (k := 3) rfl rfl (by decide) rfl (fun ls hl => ?_)
  refine lv_goto (tgt := 4) hx hb dX12_wasSold_38 (by decide) ?_
  exact hk_4 _ _ _ _ _ _ _ hM (lv_sub hl [2, 3, 1, 0] rfl) h
def fm_wasSold_4 : Nat → mS → Int32 → Int32 → Int32 → Option (Int32 × mS)
  | 0, _, _, _, _ => none
  | n + 1, σ, x1, x2, x3 =>
    if (σ.1 49) ≤ x3 then
      if x2 &&& 1 = x2 then some (x2, σ) else none
    else
      if x3 < 0 ∨ 80 ≤ x3.toNatClampNeg then none else
      if (σ.2.2.1 47 x3.toNatClampNeg) < 0 ∨ 80 ≤ (σ.2.2.1 47 x3.toNatClampNeg).toNatClampNeg then none else
      if (σ.2.2.1 32 (σ.2.2.1 47 x3.toNatClampNeg).toNatClampNeg) = x1 then
        fm_wasSold_33 (fm_wasSold_4 n) σ x1 x3 (1 : Int32) x2
      else
        fm_wasSold_33 (fm_wasSold_4 n) σ x1 x3 (0 : Int32) x2
set_option maxHeartbeats 4000000 in
set_option maxRecDepth 100000 in
theorem gm_wasSold_4 {p : Program} {l : Launch} {e : Env} {s : State} {m : MethodId} {args : Array Value} {below : List Frame} {meth : Method} {c : Code} {D : va_G} {ca : Nat → ClassId} {α : Nat → Nat} {A : Nat → Prop} {o : Int32 × mS} (C : mC p s m args c cX12_wasSold 4 D ca) (hr : meth.sig.returnType = some .boolean) (hlk : meth.locks = false) : ∀ (n : Nat) (σ : mS) (x1 : Int32) (x2 : Int32) (x3 : Int32) (H : Heap) (locs : List Loc) (ls : Array Slot), mM D ca α A s.heap σ H locs → lv_has ls 4 [(0, .ref (α 0)), (1, .int x1), (2, .int x2), (3, .int x3)] → fm_wasSold_4 n σ x1 x2 x3 = some o → mGI p l e rmX12_wasSold s m args below meth c D ca α A o H locs 4 ls [] := by
  have hx := C.1
  have hb := C.2.1
  intro n
  induction n with
  | zero =>
    intro σ x1 x2 x3 H locs ls hM hl h
    cases h
  | succ n ih =>
    intro σ x1 x2 x3 H locs ls hM hl h
    rw [fm_wasSold_4] at h
    refine lv_iload_n hx hb dX12_wasSold_4 rfl (lv_at hl 3 rfl) ?_
    refine lv_aload_n hx hb dX12_wasSold_5 rfl (lv_at hl 0 rfl) ?_
    refine m_geti C hM (k := 49) (Or.inl rfl) rfl dX12_wasSold_6 ?_
    refine lv_icmp_ge (tgt := 41) hx hb dX12_wasSold_9 (by decide) (fun c_1 => ?_) (fun c_1 => ?_)
    · have h := br_T c_1 h
      refine lv_iload_n hx hb dX12_wasSold_41 rfl (lv_at hl 2 rfl) ?_
      exact m_rz C hM hr hlk dX12_wasSold_42 h
    · have h := br_F c_1 h
      refine lv_iload_n hx hb dX12_wasSold_12 rfl (lv_at hl 2 rfl) ?_
      refine lv_aload_n hx hb dX12_wasSold_13 rfl (lv_at hl 0 rfl) ?_
      refine m_geta C hM (k := 32) (by decide) rfl dX12_wasSold_14 ?_
      refine lv_aload_n hx hb dX12_wasSold_17 rfl (lv_at hl 0 rfl) ?_
      refine m_geta C hM (k := 47) (by decide) rfl dX12_wasSold_18 ?_
      refine lv_iload_n hx hb dX12_wasSold_21 rfl (lv_at hl 3 rfl) ?_
      obtain ⟨c_2, h⟩ := ko_of h
      refine m_iald C hM (k := 47) rfl c_2 dX12_wasSold_22 ?_
      obtain ⟨c_3, h⟩ := ko_of h
      refine m_iald C hM (k := 32) rfl c_3 dX12_wasSold_23 ?_
      refine lv_iload_n hx hb dX12_wasSold_24 rfl (lv_at hl 1 rfl) ?_
      refine lv_icmp_ne (tgt := 32) hx hb dX12_wasSold_25 (by decide) (fun c_4 => ?_) (fun c_4 => ?_)
      · have h := br_F c_4 h
        refine lv_iconst (v := (0 : Int32)) hx hb dX12_wasSold_32 (by decide) ?_
        exact gm_wasSold_33 C hr hlk ih _ _ _ _ _ _ _ _ hM (lv_sub hl [0, 1, 3] rfl) h
      · have h := br_T c_4 h
        refine lv_iconst (v := (1 : Int32)) hx hb dX12_wasSold_28 (by decide) ?_
        refine lv_goto (tgt := 33) hx hb dX12_wasSold_29 (by decide) ?_
        exact gm_wasSold_33 C hr hlk ih _ _ _ _ _ _ _ _ hM (lv_sub hl [0, 1, 3] rfl) h
def fm_wasSold (σ : mS) (x1 : Int32) : Option (Int32 × mS) :=
  fm_wasSold_4 3000 σ x1 (0 : Int32) (0 : Int32)
set_option maxHeartbeats 4000000 in
set_option maxRecDepth 100000 in
theorem cm_wasSold (l : Launch) (D : va_G) (ca : Nat → ClassId) (α : Nat → Nat) (A : Nat → Prop) (σ : mS) (x1 : Int32) (o : Int32 × mS) (h : fm_wasSold σ x1 = some o) : mMetI l yX12_wasSold cX12_wasSold 4 (some .boolean) rmX12_wasSold D ca α A σ [.int x1] o := by
  refine Met.ofW (cc := cX12_wasSold) (maxL := 4) (ret := some .boolean) (by decide) rfl ?_
  intro p e s m args below meth c s₁ B hml hv
  obtain ⟨rfl, hP, hK, hD0⟩ := hv
  have C : mC p s m _ c cX12_wasSold 4 D ca := ⟨B.exec, B.bytes, hml, findClass_of_methodNamed B.named, fun w hw => atoms_spec (ws := mWs yX12_wasSold cX12_wasSold 4 (some .boolean)) B.pre w (List.mem_cons_of_mem _ hw), hK⟩
  have hM : mM D ca α A s.heap σ s.heap [] := ⟨hP, hD0, va_S.rf⟩
  have hr := B.returns
  have hlk := B.notSynchronized
  have hx := C.1
  have hb := C.2.1
  have hl := lv_entry ([.ref (α 0), .int x1]) (n := 4) (Nat.le_of_ble_eq_true rfl)
  rw [lg_entry_eq]
  generalize (lg_sl ([.ref (α 0), .int x1]) ++ List.replicate (4 - (lg_sl ([.ref (α 0), .int x1])).length) Slot.unset).toArray = ls at hl ⊢
  have hl : lv_has ls 4 [(0, .ref (α 0)), (1, .int x1)] := hl
  unfold fm_wasSold at h
  refine lv_iconst (v := (0 : Int32)) hx hb dX12_wasSold_0 (by decide) ?_
  refine lv_istore_n (lv' := [(2, .int (0 : Int32)), (0, .ref (α 0)), (1, .int x1)]) hx hb dX12_wasSold_1 rfl hl (by decide) rfl (fun ls hl => ?_)
  refine lv_iconst (v := (0 : Int32)) hx hb dX12_wasSold_2 (by decide) ?_
  refine lv_istore_n (lv' := [(3, .int (0 : Int32)), (2, .int (0 : Int32)), (0, .ref (α 0)), (1, .int x1)]) hx hb dX12_wasSold_3 rfl hl (by decide) rfl (fun ls hl => ?_)
  exact gm_wasSold_4 C hr hlk  _ _ _ _ _ _ _ _ hM (lv_sub hl [2, 3, 1, 0] rfl) h
theorem mwy_wasSold : mCallV RX12 318 yX12_wasSold cX12_wasSold 4 (some .boolean) 1 := ⟨⟨wl_in (i := 2321) (by decide +kernel), wl_in (i := 2323) (by decide +kernel), wl_inp (i := 63) (by decide +kernel), wl_in (i := 16) (by decide +kernel), wl_in (i := 2324) (by decide +kernel)⟩, rfl, by decide, by decide, by decide +kernel⟩
/-! teach(II)I -/
abbrev rmX12_teach : Room := { frames := 2, cells := 0, slots := 0, locals := 45 }
def fm_teach_65 (σ : mS) (x1 : Int32) (x2 : Int32) (s0 : Int32) : Option (Int32 × mS) :=
  (fm_isWrong σ s0).bind fun r_1 =>
  if r_1.1 = 0 then
    if x1 < 0 ∨ 12 ≤ x1.toNatClampNeg then none else
    if x1 < 0 ∨ 12 ≤ x1.toNatClampNeg then none else
    if x1 < 0 ∨ 12 ≤ x1.toNatClampNeg then none else
    (fm_bits ((mL r_1.2 44 x1.toNatClampNeg ((r_1.2.2.2.2 44 x1.toNatClampNeg) ||| ((1 : Int64) <<< (x2.toInt64 &&& 63)))).2.2.2 44 x1.toNatClampNeg)).bind fun r_2 =>
    some (r_2, (mL r_1.2 44 x1.toNatClampNeg ((r_1.2.2.2.2 44 x1.toNatClampNeg) ||| ((1 : Int64) <<< (x2.toInt64 &&& 63)))))
  else
    some ((0 : Int32), r_1.2)
set_option maxHeartbeats 4000000 in
set_option maxRecDepth 100000 in
theorem gm_teach_65 {p : Program} {l : Launch} {e : Env} {s : State} {m : MethodId} {args : Array Value} {below : List Frame} {meth : Method} {c : Code} {D : va_G} {ca : Nat → ClassId} {α : Nat → Nat} {A : Nat → Prop} {o : Int32 × mS} (C : mC p s m args c cX12_teach 3 D ca) (hr : meth.sig.returnType = some .int) (hlk : meth.locks = false) : ∀ (σ : mS) (x1 : Int32) (x2 : Int32) (s0 : Int32) (H : Heap) (locs : List Loc) (ls : Array Slot), mM D ca α A s.heap σ H locs → lv_has ls 3 [(0, .ref (α 0)), (1, .int x1), (2, .int x2)] → fm_teach_65 σ x1 x2 s0 = some o → mGI p l e rmX12_teach s m args below meth c D ca α A o H locs 65 ls [.int s0, .ref (α 0)] := by
  have hx := C.1
  have hb := C.2.1
  intro σ x1 x2 s0 H locs ls hM hl h
  unfold fm_teach_65 at h
  obtain ⟨r_1, hr_1, h⟩ := bd_of h
  refine m_cVi (As := [.int s0]) (rest := []) C hM (cm_isWrong l D ca α A σ s0 r_1 hr_1) mwy_isWrong ⟨rfl, rfl⟩ ⟨Nat.le_of_ble_eq_true rfl, Nat.le_of_ble_eq_true rfl⟩ rfl rfl (Nat.le_of_ble_eq_true rfl) hl.1 dX12_teach_65 ⟨rfl, rfl⟩ (fun H locs hM => ?_)
  refine lv_if_eq (tgt := 73) hx hb dX12_teach_68 (by decide) (fun c_1 => ?_) (fun c_1 => ?_)
  · have h := br_T c_1 h
    refine lv_aload_n hx hb dX12_teach_73 rfl (lv_at hl 0 rfl) ?_
    refine m_geta C hM (k := 44) (by decide) rfl dX12_teach_74 ?_
    refine lv_iload_n hx hb dX12_teach_77 rfl (lv_at hl 1 rfl) ?_
    refine lv_dup2_11 hx hb dX12_teach_78 rfl rfl ?_
    obtain ⟨c_2, h⟩ := ko_of h
    refine m_lald C hM (k := 44) rfl c_2 dX12_teach_79 ?_
    refine lv_lconst (v := (1 : Int64)) hx hb dX12_teach_80 (by decide) ?_
    refine lv_iload_n hx hb dX12_teach_81 rfl (lv_at hl 2 rfl) ?_
    refine lv_lshl (v := ((1 : Int64) <<< (x2.toInt64 &&& 63))) hx hb dX12_teach_82 rfl ?_
    refine lv_lor hx hb dX12_teach_83 ?_
    obtain ⟨c_3, h⟩ := ko_of h
    refine m_last C hM (k := 44) rfl c_3 dX12_teach_84 (fun H locs hM => ?_)
    refine lv_aload_n hx hb dX12_teach_85 rfl (lv_at hl 0 rfl) ?_
    refine m_geta C hM (k := 44) (by decide) rfl dX12_teach_86 ?_
    refine lv_iload_n hx hb dX12_teach_89 rfl (lv_at hl 1 rfl) ?_
    obtain ⟨c_4, h⟩ := ko_of h
    refine m_lald C hM (k := 44) rfl c_4 dX12_teach_90 ?_
    obtain ⟨r_2, hr_2, h⟩ := bd_of h
    refine m_cSi (As := [.long ((mL r_1.2 44 x1.toNatClampNeg ((r_1.2.2.2.2 44 x1.toNatClampNeg) ||| ((1 : Int64) <<< (x2.toInt64 &&& 63)))).2.2.2 44 x1.toNatClampNeg)]) (rest := []) C hM (cm_bits l D ca α A (mL r_1.2 44 x1.toNatClampNeg ((r_1.2.2.2.2 44 x1.toNatClampNeg) ||| ((1 : Int64) <<< (x2.toInt64 &&& 63)))) ((mL r_1.2 44 x1.toNatClampNeg ((r_1.2.2.2.2 44 x1.toNatClampNeg) ||| ((1 : Int64) <<< (x2.toInt64 &&& 63)))).2.2.2 44 x1.toNatClampNeg) r_2 hr_2) mwy_bits ⟨rfl, rfl⟩ ⟨Nat.le_of_ble_eq_true rfl, Nat.le_of_ble_eq_true rfl⟩ rfl rfl (Nat.le_of_ble_eq_true rfl) hl.1 dX12_teach_91 ⟨rfl, rfl⟩ (fun H locs hM => ?_)
    exact m_ri C hM hr hlk dX12_teach_94 h
  · have h := br_F c_1 h
    refine lv_iconst (v := (0 : Int32)) hx hb dX12_teach_71 (by decide) ?_
    exact m_ri C hM hr hlk dX12_teach_72 h
def fm_teach_17 (σ : mS) (x1 : Int32) (x2 : Int32) : Option (Int32 × mS) :=
  fm_teach_65 σ x1 x2 (1 : Int32)
set_option maxHeartbeats 4000000 in
set_option maxRecDepth 100000 in
theorem gm_teach_17 {p : Program} {l : Launch} {e : Env} {s : State} {m : MethodId} {args : Array Value} {below : List Frame} {meth : Method} {c : Code} {D : va_G} {ca : Nat → ClassId} {α : Nat → Nat} {A : Nat → Prop} {o : Int32 × mS} (C : mC p s m args c cX12_teach 3 D ca) (hr : meth.sig.returnType = some .int) (hlk : meth.locks = false) : ∀ (σ : mS) (x1 : Int32) (x2 : Int32) (H : Heap) (locs : List Loc) (ls : Array Slot), mM D ca α A s.heap σ H locs → lv_has ls 3 [(0, .ref (α 0)), (1, .int x1), (2, .int x2)] → fm_teach_17 σ x1 x2 = some o → mGI p l e rmX12_teach s m args below meth c D ca α A o H locs 17 ls [.ref (α 0)] := by
  have hx := C.1
  have hb := C.2.1
  intro σ x1 x2 H locs ls hM hl h
  unfold fm_teach_17 at h
  refine lv_iconst (v := (1 : Int32)) hx hb dX12_teach_17 (by decide) ?_
  refine lv_goto (tgt := 65) hx hb dX12_teach_18 (by decide) ?_
  exact gm_teach_65 C hr hlk  _ _ _ _ _ _ _ hM (lv_sub hl [0, 1, 2] rfl) h
def fm_teach_42 (σ : mS) (x1 : Int32) (x2 : Int32) : Option (Int32 × mS) :=
  fm_teach_65 σ x1 x2 (2 : Int32)
set_option maxHeartbeats 4000000 in
set_option maxRecDepth 100000 in
theorem gm_teach_42 {p : Program} {l : Launch} {e : Env} {s : State} {m : MethodId} {args : Array Value} {below : List Frame} {meth : Method} {c : Code} {D : va_G} {ca : Nat → ClassId} {α : Nat → Nat} {A : Nat → Prop} {o : Int32 × mS} (C : mC p s m args c cX12_teach 3 D ca) (hr : meth.sig.returnType = some .int) (hlk : meth.locks = false) : ∀ (σ : mS) (x1 : Int32) (x2 : Int32) (H : Heap) (locs : List Loc) (ls : Array Slot), mM D ca α A s.heap σ H locs → lv_has ls 3 [(0, .ref (α 0)), (1, .int x1), (2, .int x2)] → fm_teach_42 σ x1 x2 = some o → mGI p l e rmX12_teach s m args below meth c D ca α A o H locs 42 ls [.ref (α 0)] := by
  have hx := C.1
  have hb := C.2.1
  intro σ x1 x2 H locs ls hM hl h
  unfold fm_teach_42 at h
  refine lv_iconst (v := (2 : Int32)) hx hb dX12_teach_42 (by decide) ?_
  refine lv_goto (tgt := 65) hx hb dX12_teach_43 (by decide) ?_
  exact gm_teach_65 C hr hlk  _ _ _ _ _ _ _ hM (lv_sub hl [0, 1, 2] rfl) h
def fm_teach (σ : mS) (x1 : Int32) (x2 : Int32) : Option (Int32 × mS) :=
  (fm_isHint σ x1).bind fun r_1 =>
  if r_1.1 = 0 then
    fm_teach_17 r_1.2 x1 x2
  else
    (fm_isWord r_1.2 x2).bind fun r_2 =>
    if r_2.1 = 0 then
      fm_teach_17 r_2.2 x1 x2
    else
      if x1 < 0 ∨ 12 ≤ x1.toNatClampNeg then none else
      (fm_has (r_2.2.2.2.2 44 x1.toNatClampNeg) x2).bind fun r_3 =>
      if r_3 = 0 then
        (fm_wasSold r_2.2 x1).bind fun r_4 =>
        if r_4.1 = 0 then
          if x1 < 0 ∨ 12 ≤ x1.toNatClampNeg then none else
          (fm_bits (r_4.2.2.2.2 44 x1.toNatClampNeg)).bind fun r_5 =>
          if r_5 = (6 : Int32) then
            fm_teach_65 r_4.2 x1 x2 (3 : Int32)
          else
            fm_teach_65 r_4.2 x1 x2 (0 : Int32)
        else
          fm_teach_42 r_4.2 x1 x2
      else
        fm_teach_42 r_2.2 x1 x2
set_option maxHeartbeats 4000000 in
set_option maxRecDepth 100000 in
theorem cm_teach (l : Launch) (D : va_G) (ca : Nat → ClassId) (α : Nat → Nat) (A : Nat → Prop) (σ : mS) (x1 : Int32) (x2 : Int32) (o : Int32 × mS) (h : fm_teach σ x1 x2 = some o) : mMetI l yX12_teach cX12_teach 3 (some .int) rmX12_teach D ca α A σ [.int x1, .int x2] o := by
  refine Met.ofW (cc := cX12_teach) (maxL := 3) (ret := some .int) (by decide) rfl ?_
  intro p e s m args below meth c s₁ B hml hv
  obtain ⟨rfl, hP, hK, hD0⟩ := hv
  have C : mC p s m _ c cX12_teach 3 D ca := ⟨B.exec, B.bytes, hml, findClass_of_methodNamed B.named, fun w hw => atoms_spec (ws := mWs yX12_teach cX12_teach 3 (some .int)) B.pre w (List.mem_cons_of_mem _ hw), hK⟩
  have hM : mM D ca α A s.heap σ s.heap [] := ⟨hP, hD0, va_S.rf⟩
  have hr := B.returns
  have hlk := B.notSynchronized
  have hx := C.1
  have hb := C.2.1
  have hl := lv_entry ([.ref (α 0), .int x1, .int x2]) (n := 3) (Nat.le_of_ble_eq_true rfl)
  rw [lg_entry_eq]
  generalize (lg_sl ([.ref (α 0), .int x1, .int x2]) ++ List.replicate (3 - (lg_sl ([.ref (α 0), .int x1, .int x2])).length) Slot.unset).toArray = ls at hl ⊢
  have hl : lv_has ls 3 [(0, .ref (α 0)), (1, .int x1), (2, .int x2)] := hl
  unfold fm_teach at h
  refine lv_aload_n hx hb dX12_teach_0 rfl (lv_at hl 0 rfl) ?_
  refine lv_aload_n hx hb dX12_teach_1 rfl (lv_at hl 0 rfl) ?_
  refine lv_iload_n hx hb dX12_teach_2 rfl (lv_at hl 1 rfl) ?_
  obtain ⟨r_1, hr_1, h⟩ := bd_of h
  refine m_cVi (As := [.int x1]) (rest := [.ref (α 0)]) C hM (cm_isHint l D ca α A σ x1 r_1 hr_1) mwy_isHint ⟨rfl, rfl⟩ ⟨Nat.le_of_ble_eq_true rfl, Nat.le_of_ble_eq_true rfl⟩ rfl rfl (Nat.le_of_ble_eq_true rfl) hl.1 dX12_teach_3 ⟨rfl, rfl⟩ (fun H locs hM => ?_)
  refine lv_if_eq (tgt := 17) hx hb dX12_teach_6 (by decide) (fun c_1 => ?_) (fun c_1 => ?_)
  · have h := br_T c_1 h
    exact gm_teach_17 C hr hlk  _ _ _ _ _ _ hM (lv_sub hl [0, 1, 2] rfl) h
  · have h := br_F c_1 h
    refine lv_aload_n hx hb dX12_teach_9 rfl (lv_at hl 0 rfl) ?_
    refine lv_iload_n hx hb dX12_teach_10 rfl (lv_at hl 2 rfl) ?_
    obtain ⟨r_2, hr_2, h⟩ := bd_of h
    refine m_cVi (As := [.int x2]) (rest := [.ref (α 0)]) C hM (cm_isWord l D ca α A r_1.2 x2 r_2 hr_2) mwy_isWord ⟨rfl, rfl⟩ ⟨Nat.le_of_ble_eq_true rfl, Nat.le_of_ble_eq_true rfl⟩ rfl rfl (Nat.le_of_ble_eq_true rfl) hl.1 dX12_teach_11 ⟨rfl, rfl⟩ (fun H locs hM => ?_)
    refine lv_if_ne (tgt := 21) hx hb dX12_teach_14 (by decide) (fun c_2 => ?_) (fun c_2 => ?_)
    · have h := br_F c_2 h
      refine lv_aload_n hx hb dX12_teach_21 rfl (lv_at hl 0 rfl) ?_
      refine m_geta C hM (k := 44) (by decide) rfl dX12_teach_22 ?_
      refine lv_iload_n hx hb dX12_teach_25 rfl (lv_at hl 1 rfl) ?_
      obtain ⟨c_3, h⟩ := ko_of h
      refine m_lald C hM (k := 44) rfl c_3 dX12_teach_26 ?_
      refine lv_iload_n hx hb dX12_teach_27 rfl (lv_at hl 2 rfl) ?_
      obtain ⟨r_3, hr_3, h⟩ := bd_of h
      refine m_cSi (As := [.long (r_2.2.2.2.2 44 x1.toNatClampNeg), .int x2]) (rest := [.ref (α 0)]) C hM (cm_has l D ca α A r_2.2 (r_2.2.2.2.2 44 x1.toNatClampNeg) x2 r_3 hr_3) mwy_has ⟨rfl, rfl⟩ ⟨Nat.le_of_ble_eq_true rfl, Nat.le_of_ble_eq_true rfl⟩ rfl rfl (Nat.le_of_ble_eq_true rfl) hl.1 dX12_teach_28 ⟨rfl, rfl⟩ (fun H locs hM => ?_)
      refine lv_if_ne (tgt := 42) hx hb dX12_teach_31 (by decide) (fun c_4 => ?_) (fun c_4 => ?_)
      · have h := br_F c_4 h
        exact gm_teach_42 C hr hlk  _ _ _ _ _ _ hM (lv_sub hl [0, 1, 2] rfl) h
      · have h := br_T c_4 h
        refine lv_aload_n hx hb dX12_teach_34 rfl (lv_at hl 0 rfl) ?_
        refine lv_iload_n hx hb dX12_teach_35 rfl (lv_at hl 1 rfl) ?_
        obtain ⟨r_4, hr_4, h⟩ := bd_of h
        refine m_cVi (As := [.int x1]) (rest := [.ref (α 0)]) C hM (cm_wasSold l D ca α A r_2.2 x1 r_4 hr_4) mwy_wasSold ⟨rfl, rfl⟩ ⟨Nat.le_of_ble_eq_true rfl, Nat.le_of_ble_eq_true rfl⟩ rfl rfl (Nat.le_of_ble_eq_true rfl) hl.1 dX12_teach_36 ⟨rfl, rfl⟩ (fun H locs hM => ?_)
        refine lv_if_eq (tgt := 46) hx hb dX12_teach_39 (by decide) (fun c_5 => ?_) (fun c_5 => ?_)
        · have h := br_T c_5 h
          refine lv_aload_n hx hb dX12_teach_46 rfl (lv_at hl 0 rfl) ?_
          refine m_geta C hM (k := 44) (by decide) rfl dX12_teach_47 ?_
          refine lv_iload_n hx hb dX12_teach_50 rfl (lv_at hl 1 rfl) ?_
          obtain ⟨c_6, h⟩ := ko_of h
          refine m_lald C hM (k := 44) rfl c_6 dX12_teach_51 ?_
          obtain ⟨r_5, hr_5, h⟩ := bd_of h
          refine m_cSi (As := [.long (r_4.2.2.2.2 44 x1.toNatClampNeg)]) (rest := [.ref (α 0)]) C hM (cm_bits l D ca α A r_4.2 (r_4.2.2.2.2 44 x1.toNatClampNeg) r_5 hr_5) mwy_bits ⟨rfl, rfl⟩ ⟨Nat.le_of_ble_eq_true rfl, Nat.le_of_ble_eq_true rfl⟩ rfl rfl (Nat.le_of_ble_eq_true rfl) hl.1 dX12_teach_52 ⟨rfl, rfl⟩ (fun H locs hM => ?_)
          refine lv_bipush (v := (6 : Int32)) hx hb dX12_teach_55 (by decide) ?_
          refine lv_icmp_ne (tgt := 64) hx hb dX12_teach_57 (by decide) (fun c_7 => ?_) (fun c_7 => ?_)
          · have h := br_F c_7 h
            refine lv_iconst (v := (0 : Int32)) hx hb dX12_teach_64 (by decide) ?_
            exact gm_teach_65 C hr hlk  _ _ _ _ _ _ _ hM (lv_sub hl [0, 1, 2] rfl) h
          · have h := br_T c_7 h
            refine lv_iconst (v := (3 : Int32)) hx hb dX12_teach_60 (by decide) ?_
            refine lv_goto (tgt := 65) hx hb dX12_teach_61 (by decide) ?_
            exact gm_teach_65 C hr hlk  _ _ _ _ _ _ _ hM (lv_sub hl [0, 1, 2] rfl) h
        · have h := br_F c_5 h
          exact gm_teach_42 C hr hlk  _ _ _ _ _ _ hM (lv_sub hl [0, 1, 2] rfl) h
    · have h := br_T c_2 h
      exact gm_teach_17 C hr hlk  _ _ _ _ _ _ hM (lv_sub hl [0, 1, 2] rfl) h
/-! isOnPath(II)Z -/
abbrev rmX12_isOnPath : Room := { frames := 0, cells := 0, slots := 0, locals := 0 }
def fm_isOnPath_23 (k_5 : mS → Int32 → Int32 → Int32 → Option (Int32 × mS)) (σ : mS) (x1 : Int32) (x4 : Int32) (s0 : Int32) (s1 : Int32) : Option (Int32 × mS) :=
  if x4 < 0 ∨ 80 ≤ x4.toNatClampNeg then none else
  k_5 σ x1 (s1 ||| s0) (σ.2.2.1 25 x4.toNatClampNeg)
set_option maxHeartbeats 4000000 in
set_option maxRecDepth 100000 in
theorem gm_isOnPath_23 {p : Program} {l : Launch} {e : Env} {s : State} {m : MethodId} {args : Array Value} {below : List Frame} {meth : Method} {c : Code} {D : va_G} {ca : Nat → ClassId} {α : Nat → Nat} {A : Nat → Prop} {o : Int32 × mS} {k_5 : mS → Int32 → Int32 → Int32 → Option (Int32 × mS)} (C : mC p s m args c cX12_isOnPath 5 D ca) (hr : meth.sig.returnType = some .boolean) (hlk : meth.locks = false) (hk_5 : ∀ (σ : mS) (x1 : Int32) (x3 : Int32) (x4 : Int32) (H : Heap) (locs : List Loc) (ls : Array Slot), mM D ca α A s.heap σ H locs → lv_has ls 5 [(0, .ref (α 0)), (1, .int x1), (3, .int x3), (4, .int x4)] → k_5 σ x1 x3 x4 = some o → mGI p l e rmX12_isOnPath s m args below meth c D ca α A o H locs 5 ls []) : ∀ (σ : mS) (x1 : Int32) (x4 : Int32) (s0 : Int32) (s1 : Int32) (H : Heap) (locs : List Loc) (ls : Array Slot), mM D ca α A s.heap σ H locs → lv_has ls 5 [(0, .ref (α 0)), (1, .int x1), (4, .int x4)] → fm_isOnPath_23 k_5 σ x1 x4 s0 s1 = some o → mGI p l e rmX12_isOnPath s m args below meth c D ca α A o H locs 23 ls [.int s0, .int s1] := by
  have hx := C.1
  have hb := C.2.1
  intro σ x1 x4 s0 s1 H locs ls hM hl h
  unfold fm_isOnPath_23 at h
  refine lv_ior hx hb dX12_isOnPath_23 ?_
  refine lv_istore_n (lv' := [(3, .int (s1 ||| s0)), (0, .ref (α 0)), (1, .int x1), (4, .int x4)]) hx hb dX12_isOnPath_24 rfl hl (by decide) rfl (fun ls hl => ?_)
  refine lv_aload_n hx hb dX12_isOnPath_25 rfl (lv_at hl 1 rfl) ?_
  refine m_geta C hM (k := 25) (by decide) rfl dX12_isOnPath_26 ?_
  refine lv_iload hx hb dX12_isOnPath_29 (lv_at hl 3 rfl) ?_
  obtain ⟨c_1, h⟩ := ko_of h
  refine m_iald C hM (k := 25) rfl c_1 dX12_isOnPath_31 ?_
  refine lv_istore (lv' := [(4, .int (σ.2.2.1 25 x4.toNatClampNeg)), (3, .int (s1 ||| s0)), (0, .ref (α 0)), (1, .int x1)]) hx hb dX12_isOnPath_32 hl (by decide) rfl (fun ls hl => ?_)
  refine lv_goto (tgt := 5) hx hb dX12_isOnPath_34 (by decide) ?_
  exact hk_5 _ _ _ _ _ _ _ hM (lv_sub hl [2, 3, 1, 0] rfl) h
def fm_isOnPath_5 : Nat → mS → Int32 → Int32 → Int32 → Option (Int32 × mS)
  | 0, _, _, _, _ => none
  | n + 1, σ, x1, x3, x4 =>
    if x4 = (-1 : Int32) then
      if x3 &&& 1 = x3 then some (x3, σ) else none
    else
      if x4 = x1 then
        fm_isOnPath_23 (fm_isOnPath_5 n) σ x1 x4 (1 : Int32) x3
      else
        fm_isOnPath_23 (fm_isOnPath_5 n) σ x1 x4 (0 : Int32) x3
set_option maxHeartbeats 4000000 in
set_option maxRecDepth 100000 in
theorem gm_isOnPath_5 {p : Program} {l : Launch} {e : Env} {s : State} {m : MethodId} {args : Array Value} {below : List Frame} {meth : Method} {c : Code} {D : va_G} {ca : Nat → ClassId} {α : Nat → Nat} {A : Nat → Prop} {o : Int32 × mS} (C : mC p s m args c cX12_isOnPath 5 D ca) (hr : meth.sig.returnType = some .boolean) (hlk : meth.locks = false) : ∀ (n : Nat) (σ : mS) (x1 : Int32) (x3 : Int32) (x4 : Int32) (H : Heap) (locs : List Loc) (ls : Array Slot), mM D ca α A s.heap σ H locs → lv_has ls 5 [(0, .ref (α 0)), (1, .int x1), (3, .int x3), (4, .int x4)] → fm_isOnPath_5 n σ x1 x3 x4 = some o → mGI p l e rmX12_isOnPath s m args below meth c D ca α A o H locs 5 ls [] := by
  have hx := C.1
  have hb := C.2.1
  intro n
  induction n with
  | zero =>
    intro σ x1 x3 x4 H locs ls hM hl h
    cases h
  | succ n ih =>
    intro σ x1 x3 x4 H locs ls hM hl h
    rw [fm_isOnPath_5] at h
    refine lv_iload hx hb dX12_isOnPath_5 (lv_at hl 3 rfl) ?_
    refine lv_iconst (v := (-1 : Int32)) hx hb dX12_isOnPath_7 (by decide) ?_
    refine lv_icmp_eq (tgt := 37) hx hb dX12_isOnPath_8 (by decide) (fun c_1 => ?_) (fun c_1 => ?_)
    · have h := br_T c_1 h
      refine lv_iload_n hx hb dX12_isOnPath_37 rfl (lv_at hl 2 rfl) ?_
      exact m_rz C hM hr hlk dX12_isOnPath_38 h
    · have h := br_F c_1 h
      refine lv_iload_n hx hb dX12_isOnPath_11 rfl (lv_at hl 2 rfl) ?_
      refine lv_iload hx hb dX12_isOnPath_12 (lv_at hl 3 rfl) ?_
      refine lv_iload_n hx hb dX12_isOnPath_14 rfl (lv_at hl 1 rfl) ?_
      refine lv_icmp_ne (tgt := 22) hx hb dX12_isOnPath_15 (by decide) (fun c_2 => ?_) (fun c_2 => ?_)
      · have h := br_F c_2 h
        refine lv_iconst (v := (0 : Int32)) hx hb dX12_isOnPath_22 (by decide) ?_
        exact gm_isOnPath_23 C hr hlk ih _ _ _ _ _ _ _ _ hM (lv_sub hl [0, 1, 3] rfl) h
      · have h := br_T c_2 h
        refine lv_iconst (v := (1 : Int32)) hx hb dX12_isOnPath_18 (by decide) ?_
        refine lv_goto (tgt := 23) hx hb dX12_isOnPath_19 (by decide) ?_
        exact gm_isOnPath_23 C hr hlk ih _ _ _ _ _ _ _ _ hM (lv_sub hl [0, 1, 3] rfl) h
def fm_isOnPath (σ : mS) (x1 : Int32) (x2 : Int32) : Option (Int32 × mS) :=
  fm_isOnPath_5 3000 σ x1 (0 : Int32) x2
set_option maxHeartbeats 4000000 in
set_option maxRecDepth 100000 in
theorem cm_isOnPath (l : Launch) (D : va_G) (ca : Nat → ClassId) (α : Nat → Nat) (A : Nat → Prop) (σ : mS) (x1 : Int32) (x2 : Int32) (o : Int32 × mS) (h : fm_isOnPath σ x1 x2 = some o) : mMetI l yX12_isOnPath cX12_isOnPath 5 (some .boolean) rmX12_isOnPath D ca α A σ [.int x1, .int x2] o := by
  refine Met.ofW (cc := cX12_isOnPath) (maxL := 5) (ret := some .boolean) (by decide) rfl ?_
  intro p e s m args below meth c s₁ B hml hv
  obtain ⟨rfl, hP, hK, hD0⟩ := hv
  have C : mC p s m _ c cX12_isOnPath 5 D ca := ⟨B.exec, B.bytes, hml, findClass_of_methodNamed B.named, fun w hw => atoms_spec (ws := mWs yX12_isOnPath cX12_isOnPath 5 (some .boolean)) B.pre w (List.mem_cons_of_mem _ hw), hK⟩
  have hM : mM D ca α A s.heap σ s.heap [] := ⟨hP, hD0, va_S.rf⟩
  have hr := B.returns
  have hlk := B.notSynchronized
  have hx := C.1
  have hb := C.2.1
  have hl := lv_entry ([.ref (α 0), .int x1, .int x2]) (n := 5) (Nat.le_of_ble_eq_true rfl)
  rw [lg_entry_eq]
  generalize (lg_sl ([.ref (α 0), .int x1, .int x2]) ++ List.replicate (5 - (lg_sl ([.ref (α 0), .int x1, .int x2])).length) Slot.unset).toArray = ls at hl ⊢
  have hl : lv_has ls 5 [(0, .ref (α 0)), (1, .int x1), (2, .int x2)] := hl
  unfold fm_isOnPath at h
  refine lv_iconst (v := (0 : Int32)) hx hb dX12_isOnPath_0 (by decide) ?_
  refine lv_istore_n (lv' := [(3, .int (0 : Int32)), (0, .ref (α 0)), (1, .int x1), (2, .int x2)]) hx hb dX12_isOnPath_1 rfl hl (by decide) rfl (fun ls hl => ?_)
  refine lv_iload_n hx hb dX12_isOnPath_2 rfl (lv_at hl 3 rfl) ?_
  refine lv_istore (lv' := [(4, .int x2), (3, .int (0 : Int32)), (0, .ref (α 0)), (1, .int x1), (2, .int x2)]) hx hb dX12_isOnPath_3 hl (by decide) rfl (fun ls hl => ?_)
  exact gm_isOnPath_5 C hr hlk  _ _ _ _ _ _ _ _ hM (lv_sub hl [2, 3, 1, 0] rfl) h
theorem mwy_isOnPath : mCallV RX12 321 yX12_isOnPath cX12_isOnPath 5 (some .boolean) 2 := ⟨⟨wl_in (i := 2333) (by decide +kernel), wl_in (i := 2335) (by decide +kernel), wl_inp (i := 65) (by decide +kernel), wl_in (i := 16) (by decide +kernel), wl_in (i := 2336) (by decide +kernel)⟩, rfl, by decide, by decide, by decide +kernel⟩
/-! isOwnedNow(I)Z -/
abbrev rmX12_isOwnedNow : Room := { frames := 1, cells := 0, slots := 0, locals := 24 }
def fm_isOwnedNow_67 (k_4 : mS → Int32 → Int32 → Int32 → Option (Int32 × mS)) (σ : mS) (x1 : Int32) (x3 : Int32) (s0 : Int32) (s1 : Int32) : Option (Int32 × mS) :=
  k_4 σ x1 (s1 ||| s0) (x3 + (1 : Int32))
set_option maxHeartbeats 4000000 in
set_option maxRecDepth 100000 in
theorem gm_isOwnedNow_67 {p : Program} {l : Launch} {e : Env} {s : State} {m : MethodId} {args : Array Value} {below : List Frame} {meth : Method} {c : Code} {D : va_G} {ca : Nat → ClassId} {α : Nat → Nat} {A : Nat → Prop} {o : Int32 × mS} {k_4 : mS → Int32 → Int32 → Int32 → Option (Int32 × mS)} (C : mC p s m args c cX12_isOwnedNow 4 D ca) (hr : meth.sig.returnType = some .boolean) (hlk : meth.locks = false) (hk_4 : ∀ (σ : mS) (x1 : Int32) (x2 : Int32) (x3 : Int32) (H : Heap) (locs : List Loc) (ls : Array Slot), mM D ca α A s.heap σ H locs → lv_has ls 4 [(0, .ref (α 0)), (1, .int x1), (2, .int x2), (3, .int x3)] → k_4 σ x1 x2 x3 = some o → mGI p l e rmX12_isOwnedNow s m args below meth c D ca α A o H locs 4 ls []) : ∀ (σ : mS) (x1 : Int32) (x3 : Int32) (s0 : Int32) (s1 : Int32) (H : Heap) (locs : List Loc) (ls : Array Slot), mM D ca α A s.heap σ H locs → lv_has ls 4 [(0, .ref (α 0)), (1, .int x1), (3, .int x3)] → fm_isOwnedNow_67 k_4 σ x1 x3 s0 s1 = some o → mGI p l e rmX12_isOwnedNow s m args below meth c D ca α A o H locs 67 ls [.int s0, .int s1] := by
  have hx := C.1
  have hb := C.2.1
  intro σ x1 x3 s0 s1 H locs ls hM hl h
  unfold fm_isOwnedNow_67 at h
  refine lv_ior hx hb dX12_isOwnedNow_67 ?_
  refine lv_istore_n (lv' := [(2, .int (s1 ||| s0)), (0, .ref (α 0)), (1, .int x1), (3, .int x3)]) hx hb dX12_isOwnedNow_68 rfl hl (by decide) rfl (fun ls hl => ?_)
  refine lv_iinc (v := (x3 + (1 : Int32))) (lv' := [(3, .int (x3 + (1 : Int32))), (2, .int (s1 ||| s0)), (0, .ref (α 0)), (1, .int x1)]) hx hb dX12_isOwnedNow_69 hl (k := 3) rfl rfl (by decide) rfl (fun ls hl => ?_)
  refine lv_goto (tgt := 4) hx hb dX12_isOwnedNow_72 (by decide) ?_
  exact hk_4 _ _ _ _ _ _ _ hM (lv_sub hl [2, 3, 1, 0] rfl) h
def fm_isOwnedNow_62 (k_4 : mS → Int32 → Int32 → Int32 → Option (Int32 × mS)) (σ : mS) (x1 : Int32) (x3 : Int32) (s0 : Int32) : Option (Int32 × mS) :=
  fm_isOwnedNow_67 k_4 σ x1 x3 (1 : Int32) s0
set_option maxHeartbeats 4000000 in
set_option maxRecDepth 100000 in
theorem gm_isOwnedNow_62 {p : Program} {l : Launch} {e : Env} {s : State} {m : MethodId} {args : Array Value} {below : List Frame} {meth : Method} {c : Code} {D : va_G} {ca : Nat → ClassId} {α : Nat → Nat} {A : Nat → Prop} {o : Int32 × mS} {k_4 : mS → Int32 → Int32 → Int32 → Option (Int32 × mS)} (C : mC p s m args c cX12_isOwnedNow 4 D ca) (hr : meth.sig.returnType = some .boolean) (hlk : meth.locks = false) (hk_4 : ∀ (σ : mS) (x1 : Int32) (x2 : Int32) (x3 : Int32) (H : Heap) (locs : List Loc) (ls : Array Slot), mM D ca α A s.heap σ H locs → lv_has ls 4 [(0, .ref (α 0)), (1, .int x1), (2, .int x2), (3, .int x3)] → k_4 σ x1 x2 x3 = some o → mGI p l e rmX12_isOwnedNow s m args below meth c D ca α A o H locs 4 ls []) : ∀ (σ : mS) (x1 : Int32) (x3 : Int32) (s0 : Int32) (H : Heap) (locs : List Loc) (ls : Array Slot), mM D ca α A s.heap σ H locs → lv_has ls 4 [(0, .ref (α 0)), (1, .int x1), (3, .int x3)] → fm_isOwnedNow_62 k_4 σ x1 x3 s0 = some o → mGI p l e rmX12_isOwnedNow s m args below meth c D ca α A o H locs 62 ls [.int s0] := by
  have hx := C.1
  have hb := C.2.1
  intro σ x1 x3 s0 H locs ls hM hl h
  unfold fm_isOwnedNow_62 at h
  refine lv_iconst (v := (1 : Int32)) hx hb dX12_isOwnedNow_62 (by decide) ?_
  refine lv_goto (tgt := 67) hx hb dX12_isOwnedNow_63 (by decide) ?_
  exact gm_isOwnedNow_67 C hr hlk hk_4 _ _ _ _ _ _ _ _ hM (lv_sub hl [0, 1, 2] rfl) h
def fm_isOwnedNow_66 (k_4 : mS → Int32 → Int32 → Int32 → Option (Int32 × mS)) (σ : mS) (x1 : Int32) (x3 : Int32) (s0 : Int32) : Option (Int32 × mS) :=
  fm_isOwnedNow_67 k_4 σ x1 x3 (0 : Int32) s0
set_option maxHeartbeats 4000000 in
set_option maxRecDepth 100000 in
theorem gm_isOwnedNow_66 {p : Program} {l : Launch} {e : Env} {s : State} {m : MethodId} {args : Array Value} {below : List Frame} {meth : Method} {c : Code} {D : va_G} {ca : Nat → ClassId} {α : Nat → Nat} {A : Nat → Prop} {o : Int32 × mS} {k_4 : mS → Int32 → Int32 → Int32 → Option (Int32 × mS)} (C : mC p s m args c cX12_isOwnedNow 4 D ca) (hr : meth.sig.returnType = some .boolean) (hlk : meth.locks = false) (hk_4 : ∀ (σ : mS) (x1 : Int32) (x2 : Int32) (x3 : Int32) (H : Heap) (locs : List Loc) (ls : Array Slot), mM D ca α A s.heap σ H locs → lv_has ls 4 [(0, .ref (α 0)), (1, .int x1), (2, .int x2), (3, .int x3)] → k_4 σ x1 x2 x3 = some o → mGI p l e rmX12_isOwnedNow s m args below meth c D ca α A o H locs 4 ls []) : ∀ (σ : mS) (x1 : Int32) (x3 : Int32) (s0 : Int32) (H : Heap) (locs : List Loc) (ls : Array Slot), mM D ca α A s.heap σ H locs → lv_has ls 4 [(0, .ref (α 0)), (1, .int x1), (3, .int x3)] → fm_isOwnedNow_66 k_4 σ x1 x3 s0 = some o → mGI p l e rmX12_isOwnedNow s m args below meth c D ca α A o H locs 66 ls [.int s0] := by
  have hx := C.1
  have hb := C.2.1
  intro σ x1 x3 s0 H locs ls hM hl h
  unfold fm_isOwnedNow_66 at h
  refine lv_iconst (v := (0 : Int32)) hx hb dX12_isOwnedNow_66 (by decide) ?_
  exact gm_isOwnedNow_67 C hr hlk hk_4 _ _ _ _ _ _ _ _ hM (lv_sub hl [0, 1, 2] rfl) h
def fm_isOwnedNow_4 : Nat → mS → Int32 → Int32 → Int32 → Option (Int32 × mS)
  | 0, _, _, _, _ => none
  | n + 1, σ, x1, x2, x3 =>
    if (σ.1 49) ≤ x3 then
      if x2 &&& 1 = x2 then some (x2, σ) else none
    else
      if x3 < 0 ∨ 80 ≤ x3.toNatClampNeg then none else
      if (σ.2.2.1 47 x3.toNatClampNeg) < 0 ∨ 80 ≤ (σ.2.2.1 47 x3.toNatClampNeg).toNatClampNeg then none else
      if (σ.2.2.1 32 (σ.2.2.1 47 x3.toNatClampNeg).toNatClampNeg) = x1 then
        if x3 < 0 ∨ 80 ≤ x3.toNatClampNeg then none else
        (fm_isOnPath σ (σ.2.2.1 47 x3.toNatClampNeg) (σ.1 34)).bind fun r_1 =>
        if r_1.1 = 0 then
          if x3 < 0 ∨ 80 ≤ x3.toNatClampNeg then none else
          (fm_isOnPath r_1.2 (r_1.2.1 34) (r_1.2.2.2.1 47 x3.toNatClampNeg)).bind fun r_2 =>
          if r_2.1 = 0 then
            fm_isOwnedNow_66 (fm_isOwnedNow_4 n) r_2.2 x1 x3 x2
          else
            fm_isOwnedNow_62 (fm_isOwnedNow_4 n) r_2.2 x1 x3 x2
        else
          fm_isOwnedNow_62 (fm_isOwnedNow_4 n) r_1.2 x1 x3 x2
      else
        fm_isOwnedNow_66 (fm_isOwnedNow_4 n) σ x1 x3 x2
set_option maxHeartbeats 4000000 in
set_option maxRecDepth 100000 in
theorem gm_isOwnedNow_4 {p : Program} {l : Launch} {e : Env} {s : State} {m : MethodId} {args : Array Value} {below : List Frame} {meth : Method} {c : Code} {D : va_G} {ca : Nat → ClassId} {α : Nat → Nat} {A : Nat → Prop} {o : Int32 × mS} (C : mC p s m args c cX12_isOwnedNow 4 D ca) (hr : meth.sig.returnType = some .boolean) (hlk : meth.locks = false) : ∀ (n : Nat) (σ : mS) (x1 : Int32) (x2 : Int32) (x3 : Int32) (H : Heap) (locs : List Loc) (ls : Array Slot), mM D ca α A s.heap σ H locs → lv_has ls 4 [(0, .ref (α 0)), (1, .int x1), (2, .int x2), (3, .int x3)] → fm_isOwnedNow_4 n σ x1 x2 x3 = some o → mGI p l e rmX12_isOwnedNow s m args below meth c D ca α A o H locs 4 ls [] := by
  have hx := C.1
  have hb := C.2.1
  intro n
  induction n with
  | zero =>
    intro σ x1 x2 x3 H locs ls hM hl h
    cases h
  | succ n ih =>
    intro σ x1 x2 x3 H locs ls hM hl h
    rw [fm_isOwnedNow_4] at h
    refine lv_iload_n hx hb dX12_isOwnedNow_4 rfl (lv_at hl 3 rfl) ?_
    refine lv_aload_n hx hb dX12_isOwnedNow_5 rfl (lv_at hl 0 rfl) ?_
    refine m_geti C hM (k := 49) (Or.inl rfl) rfl dX12_isOwnedNow_6 ?_
    refine lv_icmp_ge (tgt := 75) hx hb dX12_isOwnedNow_9 (by decide) (fun c_1 => ?_) (fun c_1 => ?_)
    · have h := br_T c_1 h
      refine lv_iload_n hx hb dX12_isOwnedNow_75 rfl (lv_at hl 2 rfl) ?_
      exact m_rz C hM hr hlk dX12_isOwnedNow_76 h
    · have h := br_F c_1 h
      refine lv_iload_n hx hb dX12_isOwnedNow_12 rfl (lv_at hl 2 rfl) ?_
      refine lv_aload_n hx hb dX12_isOwnedNow_13 rfl (lv_at hl 0 rfl) ?_
      refine m_geta C hM (k := 32) (by decide) rfl dX12_isOwnedNow_14 ?_
      refine lv_aload_n hx hb dX12_isOwnedNow_17 rfl (lv_at hl 0 rfl) ?_
      refine m_geta C hM (k := 47) (by decide) rfl dX12_isOwnedNow_18 ?_
      refine lv_iload_n hx hb dX12_isOwnedNow_21 rfl (lv_at hl 3 rfl) ?_
      obtain ⟨c_2, h⟩ := ko_of h
      refine m_iald C hM (k := 47) rfl c_2 dX12_isOwnedNow_22 ?_
      obtain ⟨c_3, h⟩ := ko_of h
      refine m_iald C hM (k := 32) rfl c_3 dX12_isOwnedNow_23 ?_
      refine lv_iload_n hx hb dX12_isOwnedNow_24 rfl (lv_at hl 1 rfl) ?_
      refine lv_icmp_ne (tgt := 66) hx hb dX12_isOwnedNow_25 (by decide) (fun c_4 => ?_) (fun c_4 => ?_)
      · have h := br_F c_4 h
        exact gm_isOwnedNow_66 C hr hlk ih _ _ _ _ _ _ _ hM (lv_sub hl [0, 1, 3] rfl) h
      · have h := br_T c_4 h
        refine lv_aload_n hx hb dX12_isOwnedNow_28 rfl (lv_at hl 0 rfl) ?_
        refine lv_aload_n hx hb dX12_isOwnedNow_29 rfl (lv_at hl 0 rfl) ?_
        refine m_geta C hM (k := 47) (by decide) rfl dX12_isOwnedNow_30 ?_
        refine lv_iload_n hx hb dX12_isOwnedNow_33 rfl (lv_at hl 3 rfl) ?_
        obtain ⟨c_5, h⟩ := ko_of h
        refine m_iald C hM (k := 47) rfl c_5 dX12_isOwnedNow_34 ?_
        refine lv_aload_n hx hb dX12_isOwnedNow_35 rfl (lv_at hl 0 rfl) ?_
        refine m_geti C hM (k := 34) (Or.inl rfl) rfl dX12_isOwnedNow_36 ?_
        obtain ⟨r_1, hr_1, h⟩ := bd_of h
        refine m_cVi (As := [.int (σ.2.2.1 47 x3.toNatClampNeg), .int (σ.1 34)]) (rest := [.int x2]) C hM (cm_isOnPath l D ca α A σ (σ.2.2.1 47 x3.toNatClampNeg) (σ.1 34) r_1 hr_1) mwy_isOnPath ⟨rfl, rfl⟩ ⟨Nat.le_of_ble_eq_true rfl, Nat.le_of_ble_eq_true rfl⟩ rfl rfl (Nat.le_of_ble_eq_true rfl) hl.1 dX12_isOwnedNow_39 ⟨rfl, rfl⟩ (fun H locs hM => ?_)
        refine lv_if_ne (tgt := 62) hx hb dX12_isOwnedNow_42 (by decide) (fun c_6 => ?_) (fun c_6 => ?_)
        · have h := br_F c_6 h
          exact gm_isOwnedNow_62 C hr hlk ih _ _ _ _ _ _ _ hM (lv_sub hl [0, 1, 3] rfl) h
        · have h := br_T c_6 h
          refine lv_aload_n hx hb dX12_isOwnedNow_45 rfl (lv_at hl 0 rfl) ?_
          refine lv_aload_n hx hb dX12_isOwnedNow_46 rfl (lv_at hl 0 rfl) ?_
          refine m_geti C hM (k := 34) (Or.inl rfl) rfl dX12_isOwnedNow_47 ?_
          refine lv_aload_n hx hb dX12_isOwnedNow_50 rfl (lv_at hl 0 rfl) ?_
          refine m_geta C hM (k := 47) (by decide) rfl dX12_isOwnedNow_51 ?_
          refine lv_iload_n hx hb dX12_isOwnedNow_54 rfl (lv_at hl 3 rfl) ?_
          obtain ⟨c_7, h⟩ := ko_of h
          refine m_iald C hM (k := 47) rfl c_7 dX12_isOwnedNow_55 ?_
          obtain ⟨r_2, hr_2, h⟩ := bd_of h
          refine m_cVi (As := [.int (r_1.2.1 34), .int (r_1.2.2.2.1 47 x3.toNatClampNeg)]) (rest := [.int x2]) C hM (cm_isOnPath l D ca α A r_1.2 (r_1.2.1 34) (r_1.2.2.2.1 47 x3.toNatClampNeg) r_2 hr_2) mwy_isOnPath ⟨rfl, rfl⟩ ⟨Nat.le_of_ble_eq_true rfl, Nat.le_of_ble_eq_true rfl⟩ rfl rfl (Nat.le_of_ble_eq_true rfl) hl.1 dX12_isOwnedNow_56 ⟨rfl, rfl⟩ (fun H locs hM => ?_)
          refine lv_if_eq (tgt := 66) hx hb dX12_isOwnedNow_59 (by decide) (fun c_8 => ?_) (fun c_8 => ?_)
          · have h := br_T c_8 h
            exact gm_isOwnedNow_66 C hr hlk ih _ _ _ _ _ _ _ hM (lv_sub hl [0, 1, 3] rfl) h
          · have h := br_F c_8 h
            exact gm_isOwnedNow_62 C hr hlk ih _ _ _ _ _ _ _ hM (lv_sub hl [0, 1, 3] rfl) h
def fm_isOwnedNow (σ : mS) (x1 : Int32) : Option (Int32 × mS) :=
  fm_isOwnedNow_4 3000 σ x1 (0 : Int32) (0 : Int32)
set_option maxHeartbeats 4000000 in
set_option maxRecDepth 100000 in
theorem cm_isOwnedNow (l : Launch) (D : va_G) (ca : Nat → ClassId) (α : Nat → Nat) (A : Nat → Prop) (σ : mS) (x1 : Int32) (o : Int32 × mS) (h : fm_isOwnedNow σ x1 = some o) : mMetI l yX12_isOwnedNow cX12_isOwnedNow 4 (some .boolean) rmX12_isOwnedNow D ca α A σ [.int x1] o := by
  refine Met.ofW (cc := cX12_isOwnedNow) (maxL := 4) (ret := some .boolean) (by decide) rfl ?_
  intro p e s m args below meth c s₁ B hml hv
  obtain ⟨rfl, hP, hK, hD0⟩ := hv
  have C : mC p s m _ c cX12_isOwnedNow 4 D ca := ⟨B.exec, B.bytes, hml, findClass_of_methodNamed B.named, fun w hw => atoms_spec (ws := mWs yX12_isOwnedNow cX12_isOwnedNow 4 (some .boolean)) B.pre w (List.mem_cons_of_mem _ hw), hK⟩
  have hM : mM D ca α A s.heap σ s.heap [] := ⟨hP, hD0, va_S.rf⟩
  have hr := B.returns
  have hlk := B.notSynchronized
  have hx := C.1
  have hb := C.2.1
  have hl := lv_entry ([.ref (α 0), .int x1]) (n := 4) (Nat.le_of_ble_eq_true rfl)
  rw [lg_entry_eq]
  generalize (lg_sl ([.ref (α 0), .int x1]) ++ List.replicate (4 - (lg_sl ([.ref (α 0), .int x1])).length) Slot.unset).toArray = ls at hl ⊢
  have hl : lv_has ls 4 [(0, .ref (α 0)), (1, .int x1)] := hl
  unfold fm_isOwnedNow at h
  refine lv_iconst (v := (0 : Int32)) hx hb dX12_isOwnedNow_0 (by decide) ?_
  refine lv_istore_n (lv' := [(2, .int (0 : Int32)), (0, .ref (α 0)), (1, .int x1)]) hx hb dX12_isOwnedNow_1 rfl hl (by decide) rfl (fun ls hl => ?_)
  refine lv_iconst (v := (0 : Int32)) hx hb dX12_isOwnedNow_2 (by decide) ?_
  refine lv_istore_n (lv' := [(3, .int (0 : Int32)), (2, .int (0 : Int32)), (0, .ref (α 0)), (1, .int x1)]) hx hb dX12_isOwnedNow_3 rfl hl (by decide) rfl (fun ls hl => ?_)
  exact gm_isOwnedNow_4 C hr hlk  _ _ _ _ _ _ _ _ hM (lv_sub hl [2, 3, 1, 0] rfl) h
theorem mwy_isOwnedNow : mCallV RX12 324 yX12_isOwnedNow cX12_isOwnedNow 4 (some .boolean) 1 := ⟨⟨wl_in (i := 2329) (by decide +kernel), wl_in (i := 2331) (by decide +kernel), wl_inp (i := 64) (by decide +kernel), wl_in (i := 16) (by decide +kernel), wl_in (i := 2332) (by decide +kernel)⟩, rfl, by decide, by decide, by decide +kernel⟩
/-! priceNow(I)I -/
abbrev rmX12_priceNow : Room := { frames := 2, cells := 0, slots := 0, locals := 45 }
def fm_priceNow_62 (k_28 : mS → Int32 → Int32 → Int32 → Int32 → Option (Int32 × mS)) (σ : mS) (x1 : Int32) (x2 : Int32) (x4 : Int32) (s0 : Int32) (s1 : Int32) : Option (Int32 × mS) :=
  k_28 σ x1 x2 (s1 + s0) (x4 + (1 : Int32))
set_option maxHeartbeats 4000000 in
set_option maxRecDepth 100000 in
theorem gm_priceNow_62 {p : Program} {l : Launch} {e : Env} {s : State} {m : MethodId} {args : Array Value} {below : List Frame} {meth : Method} {c : Code} {D : va_G} {ca : Nat → ClassId} {α : Nat → Nat} {A : Nat → Prop} {o : Int32 × mS} {k_28 : mS → Int32 → Int32 → Int32 → Int32 → Option (Int32 × mS)} (C : mC p s m args c cX12_priceNow 5 D ca) (hr : meth.sig.returnType = some .int) (hlk : meth.locks = false) (hk_28 : ∀ (σ : mS) (x1 : Int32) (x2 : Int32) (x3 : Int32) (x4 : Int32) (H : Heap) (locs : List Loc) (ls : Array Slot), mM D ca α A s.heap σ H locs → lv_has ls 5 [(0, .ref (α 0)), (1, .int x1), (2, .int x2), (3, .int x3), (4, .int x4)] → k_28 σ x1 x2 x3 x4 = some o → mGI p l e rmX12_priceNow s m args below meth c D ca α A o H locs 28 ls []) : ∀ (σ : mS) (x1 : Int32) (x2 : Int32) (x4 : Int32) (s0 : Int32) (s1 : Int32) (H : Heap) (locs : List Loc) (ls : Array Slot), mM D ca α A s.heap σ H locs → lv_has ls 5 [(0, .ref (α 0)), (1, .int x1), (2, .int x2), (4, .int x4)] → fm_priceNow_62 k_28 σ x1 x2 x4 s0 s1 = some o → mGI p l e rmX12_priceNow s m args below meth c D ca α A o H locs 62 ls [.int s0, .int s1] := by
  have hx := C.1
  have hb := C.2.1
  intro σ x1 x2 x4 s0 s1 H locs ls hM hl h
  unfold fm_priceNow_62 at h
  refine lv_iadd hx hb dX12_priceNow_62 ?_
  refine lv_istore_n (lv' := [(3, .int (s1 + s0)), (0, .ref (α 0)), (1, .int x1), (2, .int x2), (4, .int x4)]) hx hb dX12_priceNow_63 rfl hl (by decide) rfl (fun ls hl => ?_)
  refine lv_iinc (v := (x4 + (1 : Int32))) (lv' := [(4, .int (x4 + (1 : Int32))), (3, .int (s1 + s0)), (0, .ref (α 0)), (1, .int x1), (2, .int x2)]) hx hb dX12_priceNow_64 hl (k := 4) rfl rfl (by decide) rfl (fun ls hl => ?_)
  refine lv_goto (tgt := 28) hx hb dX12_priceNow_67 (by decide) ?_
  exact hk_28 _ _ _ _ _ _ _ _ hM (lv_sub hl [2, 3, 4, 1, 0] rfl) h
def fm_priceNow_28 : Nat → mS → Int32 → Int32 → Int32 → Int32 → Option (Int32 × mS)
  | 0, _, _, _, _, _ => none
  | n + 1, σ, x1, x2, x3, x4 =>
    if (σ.1 33) ≤ x4 then
      if ¬ ((FP.fdiv (FP.i2f x3) (FP.i2f (σ.1 33))) &&& 0x7fffffff ≤ 0x7f800000) then none else
      if x1 < 0 ∨ 12 ≤ x1.toNatClampNeg then none else
      if ¬ ((FP.fsub FP.fconst2 (FP.fdiv (FP.i2f x3) (FP.i2f (σ.1 33)))) &&& 0x7fffffff ≤ 0x7f800000) then none else
      if ¬ ((FP.fmul (FP.i2f ((σ.2.2.1 43 x1.toNatClampNeg) * x2)) (FP.fsub FP.fconst2 (FP.fdiv (FP.i2f x3) (FP.i2f (σ.1 33))))) &&& 0x7fffffff ≤ 0x7f800000) then none else
      some ((FP.f2i (FP.fmul (FP.i2f ((σ.2.2.1 43 x1.toNatClampNeg) * x2)) (FP.fsub FP.fconst2 (FP.fdiv (FP.i2f x3) (FP.i2f (σ.1 33)))))), σ)
    else
      if x4 < 0 ∨ 80 ≤ x4.toNatClampNeg then none else
      if x1 < 0 ∨ 12 ≤ x1.toNatClampNeg then none else
      if (lg_cmp ((σ.2.2.2 30 x4.toNatClampNeg) &&& (σ.2.2.2 44 x1.toNatClampNeg)) (0 : Int64)) = 0 then
        fm_priceNow_62 (fm_priceNow_28 n) σ x1 x2 x4 (0 : Int32) x3
      else
        fm_priceNow_62 (fm_priceNow_28 n) σ x1 x2 x4 (1 : Int32) x3
set_option maxHeartbeats 4000000 in
set_option maxRecDepth 100000 in
theorem gm_priceNow_28 {p : Program} {l : Launch} {e : Env} {s : State} {m : MethodId} {args : Array Value} {below : List Frame} {meth : Method} {c : Code} {D : va_G} {ca : Nat → ClassId} {α : Nat → Nat} {A : Nat → Prop} {o : Int32 × mS} (C : mC p s m args c cX12_priceNow 5 D ca) (hr : meth.sig.returnType = some .int) (hlk : meth.locks = false) : ∀ (n : Nat) (σ : mS) (x1 : Int32) (x2 : Int32) (x3 : Int32) (x4 : Int32) (H : Heap) (locs : List Loc) (ls : Array Slot), mM D ca α A s.heap σ H locs → lv_has ls 5 [(0, .ref (α 0)), (1, .int x1), (2, .int x2), (3, .int x3), (4, .int x4)] → fm_priceNow_28 n σ x1 x2 x3 x4 = some o → mGI p l e rmX12_priceNow s m args below meth c D ca α A o H locs 28 ls [] := by
  have hx := C.1
  have hb := C.2.1
  intro n
  induction n with
  | zero =>
    intro σ x1 x2 x3 x4 H locs ls hM hl h
    cases h
  | succ n ih =>
    intro σ x1 x2 x3 x4 H locs ls hM hl h
    rw [fm_priceNow_28] at h
    refine lv_iload hx hb dX12_priceNow_28 (lv_at hl 4 rfl) ?_
    refine lv_aload_n hx hb dX12_priceNow_30 rfl (lv_at hl 0 rfl) ?_
    refine m_geti C hM (k := 33) (Or.inl rfl) rfl dX12_priceNow_31 ?_
    refine lv_icmp_ge (tgt := 70) hx hb dX12_priceNow_34 (by decide) (fun c_1 => ?_) (fun c_1 => ?_)
    · have h := br_T c_1 h
      refine lv_iload_n hx hb dX12_priceNow_70 rfl (lv_at hl 3 rfl) ?_
      refine lv_i2f hx hb dX12_priceNow_71 ?_
      refine lv_aload_n hx hb dX12_priceNow_72 rfl (lv_at hl 0 rfl) ?_
      refine m_geti C hM (k := 33) (Or.inl rfl) rfl dX12_priceNow_73 ?_
      refine lv_i2f hx hb dX12_priceNow_76 ?_
      obtain ⟨c_2, h⟩ := ko_of h
      refine lv_fdiv hx hb dX12_priceNow_77 (Classical.not_not.mp c_2) ?_
      refine lv_fstore (lv' := [(4, .float (FP.fdiv (FP.i2f x3) (FP.i2f (σ.1 33)))), (0, .ref (α 0)), (1, .int x1), (2, .int x2), (3, .int x3)]) hx hb dX12_priceNow_78 hl (by decide) rfl (fun ls hl => ?_)
      refine lv_aload_n hx hb dX12_priceNow_80 rfl (lv_at hl 1 rfl) ?_
      refine m_geta C hM (k := 43) (by decide) rfl dX12_priceNow_81 ?_
      refine lv_iload_n hx hb dX12_priceNow_84 rfl (lv_at hl 2 rfl) ?_
      obtain ⟨c_3, h⟩ := ko_of h
      refine m_iald C hM (k := 43) rfl c_3 dX12_priceNow_85 ?_
      refine lv_iload_n hx hb dX12_priceNow_86 rfl (lv_at hl 3 rfl) ?_
      refine lv_imul hx hb dX12_priceNow_87 ?_
      refine lv_i2f hx hb dX12_priceNow_88 ?_
      refine lv_fconst2 hx hb dX12_priceNow_89 ?_
      refine lv_fload hx hb dX12_priceNow_90 (lv_at hl 0 rfl) ?_
      obtain ⟨c_4, h⟩ := ko_of h
      refine lv_fsub hx hb dX12_priceNow_92 (Classical.not_not.mp c_4) ?_
      obtain ⟨c_5, h⟩ := ko_of h
      refine lv_fmul hx hb dX12_priceNow_93 (Classical.not_not.mp c_5) ?_
      refine lv_f2i hx hb dX12_priceNow_94 ?_
      exact m_ri C hM hr hlk dX12_priceNow_95 h
    · have h := br_F c_1 h
      refine lv_iload_n hx hb dX12_priceNow_37 rfl (lv_at hl 3 rfl) ?_
      refine lv_aload_n hx hb dX12_priceNow_38 rfl (lv_at hl 0 rfl) ?_
      refine m_geta C hM (k := 30) (by decide) rfl dX12_priceNow_39 ?_
      refine lv_iload hx hb dX12_priceNow_42 (lv_at hl 4 rfl) ?_
      obtain ⟨c_6, h⟩ := ko_of h
      refine m_lald C hM (k := 30) rfl c_6 dX12_priceNow_44 ?_
      refine lv_aload_n hx hb dX12_priceNow_45 rfl (lv_at hl 0 rfl) ?_
      refine m_geta C hM (k := 44) (by decide) rfl dX12_priceNow_46 ?_
      refine lv_iload_n hx hb dX12_priceNow_49 rfl (lv_at hl 1 rfl) ?_
      obtain ⟨c_7, h⟩ := ko_of h
      refine m_lald C hM (k := 44) rfl c_7 dX12_priceNow_50 ?_
      refine lv_land hx hb dX12_priceNow_51 ?_
      refine lv_lconst (v := (0 : Int64)) hx hb dX12_priceNow_52 (by decide) ?_
      refine W.lcmp hx hb dX12_priceNow_53 ?_
      refine lv_if_eq (tgt := 61) hx hb dX12_priceNow_54 (by decide) (fun c_8 => ?_) (fun c_8 => ?_)
      · have h := br_T c_8 h
        refine lv_iconst (v := (0 : Int32)) hx hb dX12_priceNow_61 (by decide) ?_
        exact gm_priceNow_62 C hr hlk ih _ _ _ _ _ _ _ _ _ hM (lv_sub hl [0, 1, 2, 4] rfl) h
      · have h := br_F c_8 h
        refine lv_iconst (v := (1 : Int32)) hx hb dX12_priceNow_57 (by decide) ?_
        refine lv_goto (tgt := 62) hx hb dX12_priceNow_58 (by decide) ?_
        exact gm_priceNow_62 C hr hlk ih _ _ _ _ _ _ _ _ _ hM (lv_sub hl [0, 1, 2, 4] rfl) h
def fm_priceNow (σ : mS) (x1 : Int32) : Option (Int32 × mS) :=
  if x1 < 0 ∨ 12 ≤ x1.toNatClampNeg then none else
  (fm_knownAt σ (σ.1 34)).bind fun r_1 =>
  (fm_bits ((σ.2.2.2 44 x1.toNatClampNeg) &&& (r_1.1 ^^^ (-1 : Int64)))).bind fun r_2 =>
  fm_priceNow_28 3000 r_1.2 x1 r_2 (0 : Int32) (0 : Int32)
set_option maxHeartbeats 4000000 in
set_option maxRecDepth 100000 in
theorem cm_priceNow (l : Launch) (D : va_G) (ca : Nat → ClassId) (α : Nat → Nat) (A : Nat → Prop) (σ : mS) (x1 : Int32) (o : Int32 × mS) (h : fm_priceNow σ x1 = some o) : mMetI l yX12_priceNow cX12_priceNow 5 (some .int) rmX12_priceNow D ca α A σ [.int x1] o := by
  refine Met.ofW (cc := cX12_priceNow) (maxL := 5) (ret := some .int) (by decide) rfl ?_
  intro p e s m args below meth c s₁ B hml hv
  obtain ⟨rfl, hP, hK, hD0⟩ := hv
  have C : mC p s m _ c cX12_priceNow 5 D ca := ⟨B.exec, B.bytes, hml, findClass_of_methodNamed B.named, fun w hw => atoms_spec (ws := mWs yX12_priceNow cX12_priceNow 5 (some .int)) B.pre w (List.mem_cons_of_mem _ hw), hK⟩
  have hM : mM D ca α A s.heap σ s.heap [] := ⟨hP, hD0, va_S.rf⟩
  have hr := B.returns
  have hlk := B.notSynchronized
  have hx := C.1
  have hb := C.2.1
  have hl := lv_entry ([.ref (α 0), .int x1]) (n := 5) (Nat.le_of_ble_eq_true rfl)
  rw [lg_entry_eq]
  generalize (lg_sl ([.ref (α 0), .int x1]) ++ List.replicate (5 - (lg_sl ([.ref (α 0), .int x1])).length) Slot.unset).toArray = ls at hl ⊢
  have hl : lv_has ls 5 [(0, .ref (α 0)), (1, .int x1)] := hl
  unfold fm_priceNow at h
  refine lv_aload_n hx hb dX12_priceNow_0 rfl (lv_at hl 0 rfl) ?_
  refine m_geta C hM (k := 44) (by decide) rfl dX12_priceNow_1 ?_
  refine lv_iload_n hx hb dX12_priceNow_4 rfl (lv_at hl 1 rfl) ?_
  obtain ⟨c_1, h⟩ := ko_of h
  refine m_lald C hM (k := 44) rfl c_1 dX12_priceNow_5 ?_
  refine lv_aload_n hx hb dX12_priceNow_6 rfl (lv_at hl 0 rfl) ?_
  refine lv_aload_n hx hb dX12_priceNow_7 rfl (lv_at hl 0 rfl) ?_
  refine m_geti C hM (k := 34) (Or.inl rfl) rfl dX12_priceNow_8 ?_
  obtain ⟨r_1, hr_1, h⟩ := bd_of h
  refine m_cVl (As := [.int (σ.1 34)]) (rest := [.long (σ.2.2.2 44 x1.toNatClampNeg)]) C hM (cm_knownAt l D ca α A σ (σ.1 34) r_1 hr_1) mwy_knownAt ⟨rfl, rfl⟩ ⟨Nat.le_of_ble_eq_true rfl, Nat.le_of_ble_eq_true rfl⟩ rfl rfl (Nat.le_of_ble_eq_true rfl) hl.1 dX12_priceNow_11 ⟨rfl, rfl⟩ (fun H locs hM => ?_)
  refine lv_ldc2 (own := RX12) (v := (-1 : Int64)) hx hb C.2.2.2.1 (C.2.2.2.2.1 _ (wl_in (i := 2152) (by decide +kernel))) dX12_priceNow_14 ?_
  refine lv_lxor hx hb dX12_priceNow_17 ?_
  refine lv_land hx hb dX12_priceNow_18 ?_
  obtain ⟨r_2, hr_2, h⟩ := bd_of h
  refine m_cSi (As := [.long ((σ.2.2.2 44 x1.toNatClampNeg) &&& (r_1.1 ^^^ (-1 : Int64)))]) (rest := []) C hM (cm_bits l D ca α A r_1.2 ((σ.2.2.2 44 x1.toNatClampNeg) &&& (r_1.1 ^^^ (-1 : Int64))) r_2 hr_2) mwy_bits ⟨rfl, rfl⟩ ⟨Nat.le_of_ble_eq_true rfl, Nat.le_of_ble_eq_true rfl⟩ rfl rfl (Nat.le_of_ble_eq_true rfl) hl.1 dX12_priceNow_19 ⟨rfl, rfl⟩ (fun H locs hM => ?_)
  refine lv_istore_n (lv' := [(2, .int r_2), (0, .ref (α 0)), (1, .int x1)]) hx hb dX12_priceNow_22 rfl hl (by decide) rfl (fun ls hl => ?_)
  refine lv_iconst (v := (0 : Int32)) hx hb dX12_priceNow_23 (by decide) ?_
  refine lv_istore_n (lv' := [(3, .int (0 : Int32)), (2, .int r_2), (0, .ref (α 0)), (1, .int x1)]) hx hb dX12_priceNow_24 rfl hl (by decide) rfl (fun ls hl => ?_)
  refine lv_iconst (v := (0 : Int32)) hx hb dX12_priceNow_25 (by decide) ?_
  refine lv_istore (lv' := [(4, .int (0 : Int32)), (3, .int (0 : Int32)), (2, .int r_2), (0, .ref (α 0)), (1, .int x1)]) hx hb dX12_priceNow_26 hl (by decide) rfl (fun ls hl => ?_)
  exact gm_priceNow_28 C hr hlk  _ _ _ _ _ _ _ _ _ hM (lv_sub hl [3, 4, 2, 1, 0] rfl) h
theorem mwy_priceNow : mCallV RX12 327 yX12_priceNow cX12_priceNow 5 (some .int) 1 := ⟨⟨wl_in (i := 2337) (by decide +kernel), wl_in (i := 2339) (by decide +kernel), wl_inp (i := 66) (by decide +kernel), wl_in (i := 16) (by decide +kernel), wl_in (i := 2340) (by decide +kernel)⟩, rfl, by decide, by decide, by decide +kernel⟩
/-! price(I)I -/
abbrev rmX12_price : Room := { frames := 3, cells := 0, slots := 0, locals := 69 }
def fm_price_52 (σ : mS) (s0 : Int32) : Option (Int32 × mS) :=
  some (s0, σ)
set_option maxHeartbeats 4000000 in
set_option maxRecDepth 100000 in
theorem gm_price_52 {p : Program} {l : Launch} {e : Env} {s : State} {m : MethodId} {args : Array Value} {below : List Frame} {meth : Method} {c : Code} {D : va_G} {ca : Nat → ClassId} {α : Nat → Nat} {A : Nat → Prop} {o : Int32 × mS} (C : mC p s m args c cX12_price 2 D ca) (hr : meth.sig.returnType = some .int) (hlk : meth.locks = false) : ∀ (σ : mS) (s0 : Int32) (H : Heap) (locs : List Loc) (ls : Array Slot), mM D ca α A s.heap σ H locs → lv_has ls 2 [(0, .ref (α 0))] → fm_price_52 σ s0 = some o → mGI p l e rmX12_price s m args below meth c D ca α A o H locs 52 ls [.int s0] := by
  have hx := C.1
  have hb := C.2.1
  intro σ s0 H locs ls hM hl h
  unfold fm_price_52 at h
  exact m_ri C hM hr hlk dX12_price_52 h
def fm_price_37 (σ : mS) (x1 : Int32) (s0 : Int32) : Option (Int32 × mS) :=
  (fm_isWrong σ s0).bind fun r_1 =>
  if r_1.1 = 0 then
    (fm_priceNow r_1.2 x1).bind fun r_2 =>
    fm_price_52 r_2.2 r_2.1
  else
    fm_price_52 r_1.2 (0 : Int32)
set_option maxHeartbeats 4000000 in
set_option maxRecDepth 100000 in
theorem gm_price_37 {p : Program} {l : Launch} {e : Env} {s : State} {m : MethodId} {args : Array Value} {below : List Frame} {meth : Method} {c : Code} {D : va_G} {ca : Nat → ClassId} {α : Nat → Nat} {A : Nat → Prop} {o : Int32 × mS} (C : mC p s m args c cX12_price 2 D ca) (hr : meth.sig.returnType = some .int) (hlk : meth.locks = false) : ∀ (σ : mS) (x1 : Int32) (s0 : Int32) (H : Heap) (locs : List Loc) (ls : Array Slot), mM D ca α A s.heap σ H locs → lv_has ls 2 [(0, .ref (α 0)), (1, .int x1)] → fm_price_37 σ x1 s0 = some o → mGI p l e rmX12_price s m args below meth c D ca α A o H locs 37 ls [.int s0, .ref (α 0)] := by
  have hx := C.1
  have hb := C.2.1
  intro σ x1 s0 H locs ls hM hl h
  unfold fm_price_37 at h
  obtain ⟨r_1, hr_1, h⟩ := bd_of h
  refine m_cVi (As := [.int s0]) (rest := []) C hM (cm_isWrong l D ca α A σ s0 r_1 hr_1) mwy_isWrong ⟨rfl, rfl⟩ ⟨Nat.le_of_ble_eq_true rfl, Nat.le_of_ble_eq_true rfl⟩ rfl rfl (Nat.le_of_ble_eq_true rfl) hl.1 dX12_price_37 ⟨rfl, rfl⟩ (fun H locs hM => ?_)
  refine lv_if_eq (tgt := 47) hx hb dX12_price_40 (by decide) (fun c_1 => ?_) (fun c_1 => ?_)
  · have h := br_T c_1 h
    refine lv_aload_n hx hb dX12_price_47 rfl (lv_at hl 0 rfl) ?_
    refine lv_iload_n hx hb dX12_price_48 rfl (lv_at hl 1 rfl) ?_
    obtain ⟨r_2, hr_2, h⟩ := bd_of h
    refine m_cVi (As := [.int x1]) (rest := []) C hM (cm_priceNow l D ca α A r_1.2 x1 r_2 hr_2) mwy_priceNow ⟨rfl, rfl⟩ ⟨Nat.le_of_ble_eq_true rfl, Nat.le_of_ble_eq_true rfl⟩ rfl rfl (Nat.le_of_ble_eq_true rfl) hl.1 dX12_price_49 ⟨rfl, rfl⟩ (fun H locs hM => ?_)
    exact gm_price_52 C hr hlk  _ _ _ _ _ hM (lv_sub hl [0] rfl) h
  · have h := br_F c_1 h
    refine lv_iconst (v := (0 : Int32)) hx hb dX12_price_43 (by decide) ?_
    refine lv_goto (tgt := 52) hx hb dX12_price_44 (by decide) ?_
    exact gm_price_52 C hr hlk  _ _ _ _ _ hM (lv_sub hl [0] rfl) h
def fm_price (σ : mS) (x1 : Int32) : Option (Int32 × mS) :=
  (fm_isHint σ x1).bind fun r_1 =>
  if r_1.1 = 0 then
    fm_price_37 r_1.2 x1 (1 : Int32)
  else
    if (r_1.2.1 20) = 0 then
      fm_price_37 r_1.2 x1 (2 : Int32)
    else
      (fm_isOwnedNow r_1.2 x1).bind fun r_2 =>
      if r_2.1 = 0 then
        fm_price_37 r_2.2 x1 (0 : Int32)
      else
        fm_price_37 r_2.2 x1 (3 : Int32)
set_option maxHeartbeats 4000000 in
set_option maxRecDepth 100000 in
theorem cm_price (l : Launch) (D : va_G) (ca : Nat → ClassId) (α : Nat → Nat) (A : Nat → Prop) (σ : mS) (x1 : Int32) (o : Int32 × mS) (h : fm_price σ x1 = some o) : mMetI l yX12_price cX12_price 2 (some .int) rmX12_price D ca α A σ [.int x1] o := by
  refine Met.ofW (cc := cX12_price) (maxL := 2) (ret := some .int) (by decide) rfl ?_
  intro p e s m args below meth c s₁ B hml hv
  obtain ⟨rfl, hP, hK, hD0⟩ := hv
  have C : mC p s m _ c cX12_price 2 D ca := ⟨B.exec, B.bytes, hml, findClass_of_methodNamed B.named, fun w hw => atoms_spec (ws := mWs yX12_price cX12_price 2 (some .int)) B.pre w (List.mem_cons_of_mem _ hw), hK⟩
  have hM : mM D ca α A s.heap σ s.heap [] := ⟨hP, hD0, va_S.rf⟩
  have hr := B.returns
  have hlk := B.notSynchronized
  have hx := C.1
  have hb := C.2.1
  have hl := lv_entry ([.ref (α 0), .int x1]) (n := 2) (Nat.le_of_ble_eq_true rfl)
  rw [lg_entry_eq]
  generalize (lg_sl ([.ref (α 0), .int x1]) ++ List.replicate (2 - (lg_sl ([.ref (α 0), .int x1])).length) Slot.unset).toArray = ls at hl ⊢
  have hl : lv_has ls 2 [(0, .ref (α 0)), (1, .int x1)] := hl
  unfold fm_price at h
  refine lv_aload_n hx hb dX12_price_0 rfl (lv_at hl 0 rfl) ?_
  refine lv_aload_n hx hb dX12_price_1 rfl (lv_at hl 0 rfl) ?_
  refine lv_iload_n hx hb dX12_price_2 rfl (lv_at hl 1 rfl) ?_
  obtain ⟨r_1, hr_1, h⟩ := bd_of h
  refine m_cVi (As := [.int x1]) (rest := [.ref (α 0)]) C hM (cm_isHint l D ca α A σ x1 r_1 hr_1) mwy_isHint ⟨rfl, rfl⟩ ⟨Nat.le_of_ble_eq_true rfl, Nat.le_of_ble_eq_true rfl⟩ rfl rfl (Nat.le_of_ble_eq_true rfl) hl.1 dX12_price_3 ⟨rfl, rfl⟩ (fun H locs hM => ?_)
  refine lv_if_ne (tgt := 13) hx hb dX12_price_6 (by decide) (fun c_1 => ?_) (fun c_1 => ?_)
  · have h := br_F c_1 h
    refine lv_aload_n hx hb dX12_price_13 rfl (lv_at hl 0 rfl) ?_
    refine m_geti C hM (k := 20) (Or.inr rfl) rfl dX12_price_14 ?_
    refine lv_if_ne (tgt := 24) hx hb dX12_price_17 (by decide) (fun c_2 => ?_) (fun c_2 => ?_)
    · have h := br_F c_2 h
      refine lv_aload_n hx hb dX12_price_24 rfl (lv_at hl 0 rfl) ?_
      refine lv_iload_n hx hb dX12_price_25 rfl (lv_at hl 1 rfl) ?_
      obtain ⟨r_2, hr_2, h⟩ := bd_of h
      refine m_cVi (As := [.int x1]) (rest := [.ref (α 0)]) C hM (cm_isOwnedNow l D ca α A r_1.2 x1 r_2 hr_2) mwy_isOwnedNow ⟨rfl, rfl⟩ ⟨Nat.le_of_ble_eq_true rfl, Nat.le_of_ble_eq_true rfl⟩ rfl rfl (Nat.le_of_ble_eq_true rfl) hl.1 dX12_price_26 ⟨rfl, rfl⟩ (fun H locs hM => ?_)
      refine lv_if_eq (tgt := 36) hx hb dX12_price_29 (by decide) (fun c_3 => ?_) (fun c_3 => ?_)
      · have h := br_T c_3 h
        refine lv_iconst (v := (0 : Int32)) hx hb dX12_price_36 (by decide) ?_
        exact gm_price_37 C hr hlk  _ _ _ _ _ _ hM (lv_sub hl [0, 1] rfl) h
      · have h := br_F c_3 h
        refine lv_iconst (v := (3 : Int32)) hx hb dX12_price_32 (by decide) ?_
        refine lv_goto (tgt := 37) hx hb dX12_price_33 (by decide) ?_
        exact gm_price_37 C hr hlk  _ _ _ _ _ _ hM (lv_sub hl [0, 1] rfl) h
    · have h := br_T c_2 h
      refine lv_iconst (v := (2 : Int32)) hx hb dX12_price_20 (by decide) ?_
      refine lv_goto (tgt := 37) hx hb dX12_price_21 (by decide) ?_
      exact gm_price_37 C hr hlk  _ _ _ _ _ _ hM (lv_sub hl [0, 1] rfl) h
  · have h := br_T c_1 h
    refine lv_iconst (v := (1 : Int32)) hx hb dX12_price_9 (by decide) ?_
    refine lv_goto (tgt := 37) hx hb dX12_price_10 (by decide) ?_
    exact gm_price_37 C hr hlk  _ _ _ _ _ _ hM (lv_sub hl [0, 1] rfl) h
/-! buy(I)I -/
abbrev rmX12_buy : Room := { frames := 4, cells := 0, slots := 0, locals := 92 }
def fm_buy_96 (σ : mS) (x1 : Int32) (s0 : Int32) : Option (Int32 × mS) :=
  (fm_isWrong σ s0).bind fun r_1 =>
  if r_1.1 = 0 then
    (fm_priceNow r_1.2 x1).bind fun r_2 =>
    (fm_takesUp (mI r_2.2 46 ((r_2.2.1 46) - r_2.1)) ((mI r_2.2 46 ((r_2.2.1 46) - r_2.1)).1 34)).bind fun r_3 =>
    if x1 < 0 ∨ 12 ≤ x1.toNatClampNeg then none else
    (fm_comes (mJ r_3 39 (r_3.2.2.2 44 x1.toNatClampNeg)) (1 : Int32) x1).bind fun r_4 =>
    if (r_4.1 34) < 0 ∨ 80 ≤ (r_4.1 34).toNatClampNeg then none else
    if ((mA r_4 32 (r_4.1 34).toNatClampNeg x1).1 49) < 0 ∨ 80 ≤ ((mA r_4 32 (r_4.1 34).toNatClampNeg x1).1 49).toNatClampNeg then none else
    if ((mA (mA r_4 32 (r_4.1 34).toNatClampNeg x1) 47 ((mA r_4 32 (r_4.1 34).toNatClampNeg x1).1 49).toNatClampNeg ((mA r_4 32 (r_4.1 34).toNatClampNeg x1).1 34)).1 49) < 0 ∨ 80 ≤ ((mA (mA r_4 32 (r_4.1 34).toNatClampNeg x1) 47 ((mA r_4 32 (r_4.1 34).toNatClampNeg x1).1 49).toNatClampNeg ((mA r_4 32 (r_4.1 34).toNatClampNeg x1).1 34)).1 49).toNatClampNeg then none else
    some (((mI (mA (mA (mA r_4 32 (r_4.1 34).toNatClampNeg x1) 47 ((mA r_4 32 (r_4.1 34).toNatClampNeg x1).1 49).toNatClampNeg ((mA r_4 32 (r_4.1 34).toNatClampNeg x1).1 34)) 48 ((mA (mA r_4 32 (r_4.1 34).toNatClampNeg x1) 47 ((mA r_4 32 (r_4.1 34).toNatClampNeg x1).1 49).toNatClampNeg ((mA r_4 32 (r_4.1 34).toNatClampNeg x1).1 34)).1 49).toNatClampNeg r_2.1) 49 (((mA (mA (mA r_4 32 (r_4.1 34).toNatClampNeg x1) 47 ((mA r_4 32 (r_4.1 34).toNatClampNeg x1).1 49).toNatClampNeg ((mA r_4 32 (r_4.1 34).toNatClampNeg x1).1 34)) 48 ((mA (mA r_4 32 (r_4.1 34).toNatClampNeg x1) 47 ((mA r_4 32 (r_4.1 34).toNatClampNeg x1).1 49).toNatClampNeg ((mA r_4 32 (r_4.1 34).toNatClampNeg x1).1 34)).1 49).toNatClampNeg r_2.1).1 49) + (1 : Int32))).1 34), (mI (mA (mA (mA r_4 32 (r_4.1 34).toNatClampNeg x1) 47 ((mA r_4 32 (r_4.1 34).toNatClampNeg x1).1 49).toNatClampNeg ((mA r_4 32 (r_4.1 34).toNatClampNeg x1).1 34)) 48 ((mA (mA r_4 32 (r_4.1 34).toNatClampNeg x1) 47 ((mA r_4 32 (r_4.1 34).toNatClampNeg x1).1 49).toNatClampNeg ((mA r_4 32 (r_4.1 34).toNatClampNeg x1).1 34)).1 49).toNatClampNeg r_2.1) 49 (((mA (mA (mA r_4 32 (r_4.1 34).toNatClampNeg x1) 47 ((mA r_4 32 (r_4.1 34).toNatClampNeg x1).1 49).toNatClampNeg ((mA r_4 32 (r_4.1 34).toNatClampNeg x1).1 34)) 48 ((mA (mA r_4 32 (r_4.1 34).toNatClampNeg x1) 47 ((mA r_4 32 (r_4.1 34).toNatClampNeg x1).1 49).toNatClampNeg ((mA r_4 32 (r_4.1 34).toNatClampNeg x1).1 34)).1 49).toNatClampNeg r_2.1).1 49) + (1 : Int32))))
  else
    some ((0 : Int32), r_1.2)
set_option maxHeartbeats 4000000 in
set_option maxRecDepth 100000 in
theorem gm_buy_96 {p : Program} {l : Launch} {e : Env} {s : State} {m : MethodId} {args : Array Value} {below : List Frame} {meth : Method} {c : Code} {D : va_G} {ca : Nat → ClassId} {α : Nat → Nat} {A : Nat → Prop} {o : Int32 × mS} (C : mC p s m args c cX12_buy 3 D ca) (hr : meth.sig.returnType = some .int) (hlk : meth.locks = false) : ∀ (σ : mS) (x1 : Int32) (s0 : Int32) (H : Heap) (locs : List Loc) (ls : Array Slot), mM D ca α A s.heap σ H locs → lv_has ls 3 [(0, .ref (α 0)), (1, .int x1)] → fm_buy_96 σ x1 s0 = some o → mGI p l e rmX12_buy s m args below meth c D ca α A o H locs 96 ls [.int s0, .ref (α 0)] := by
  have hx := C.1
  have hb := C.2.1
  intro σ x1 s0 H locs ls hM hl h
  unfold fm_buy_96 at h
  obtain ⟨r_1, hr_1, h⟩ := bd_of h
  refine m_cVi (As := [.int s0]) (rest := []) C hM (cm_isWrong l D ca α A σ s0 r_1 hr_1) mwy_isWrong ⟨rfl, rfl⟩ ⟨Nat.le_of_ble_eq_true rfl, Nat.le_of_ble_eq_true rfl⟩ rfl rfl (Nat.le_of_ble_eq_true rfl) hl.1 dX12_buy_96 ⟨rfl, rfl⟩ (fun H locs hM => ?_)
  refine lv_if_eq (tgt := 104) hx hb dX12_buy_99 (by decide) (fun c_1 => ?_) (fun c_1 => ?_)
  · have h := br_T c_1 h
    refine lv_aload_n hx hb dX12_buy_104 rfl (lv_at hl 0 rfl) ?_
    refine lv_iload_n hx hb dX12_buy_105 rfl (lv_at hl 1 rfl) ?_
    obtain ⟨r_2, hr_2, h⟩ := bd_of h
    refine m_cVi (As := [.int x1]) (rest := []) C hM (cm_priceNow l D ca α A r_1.2 x1 r_2 hr_2) mwy_priceNow ⟨rfl, rfl⟩ ⟨Nat.le_of_ble_eq_true rfl, Nat.le_of_ble_eq_true rfl⟩ rfl rfl (Nat.le_of_ble_eq_true rfl) hl.1 dX12_buy_106 ⟨rfl, rfl⟩ (fun H locs hM => ?_)
    refine lv_istore_n (lv' := [(2, .int r_2.1), (0, .ref (α 0)), (1, .int x1)]) hx hb dX12_buy_109 rfl hl (by decide) rfl (fun ls hl => ?_)
    refine lv_aload_n hx hb dX12_buy_110 rfl (lv_at hl 1 rfl) ?_
    refine lv_dup hx hb dX12_buy_111 rfl ?_
    refine m_geti C hM (k := 46) (Or.inl rfl) rfl dX12_buy_112 ?_
    refine lv_iload_n hx hb dX12_buy_115 rfl (lv_at hl 0 rfl) ?_
    refine lv_isub hx hb dX12_buy_116 ?_
    refine m_puti C hM (k := 46) rfl rfl dX12_buy_117 (fun H locs hM => ?_)
    refine lv_aload_n hx hb dX12_buy_120 rfl (lv_at hl 1 rfl) ?_
    refine lv_aload_n hx hb dX12_buy_121 rfl (lv_at hl 1 rfl) ?_
    refine m_geti C hM (k := 34) (Or.inl rfl) rfl dX12_buy_122 ?_
    obtain ⟨r_3, hr_3, h⟩ := bd_of h
    refine m_cVv (As := [.int ((mI r_2.2 46 ((r_2.2.1 46) - r_2.1)).1 34)]) (rest := []) C hM (cm_takesUp l D ca α A (mI r_2.2 46 ((r_2.2.1 46) - r_2.1)) ((mI r_2.2 46 ((r_2.2.1 46) - r_2.1)).1 34) r_3 hr_3) mwy_takesUp ⟨rfl, rfl⟩ ⟨Nat.le_of_ble_eq_true rfl, Nat.le_of_ble_eq_true rfl⟩ rfl rfl (Nat.le_of_ble_eq_true rfl) hl.1 dX12_buy_125 ⟨rfl, rfl⟩ (fun H locs hM => ?_)
    refine lv_aload_n hx hb dX12_buy_128 rfl (lv_at hl 1 rfl) ?_
    refine lv_aload_n hx hb dX12_buy_129 rfl (lv_at hl 1 rfl) ?_
    refine m_geta C hM (k := 44) (by decide) rfl dX12_buy_130 ?_
    refine lv_iload_n hx hb dX12_buy_133 rfl (lv_at hl 2 rfl) ?_
    obtain ⟨c_2, h⟩ := ko_of h
    refine m_lald C hM (k := 44) rfl c_2 dX12_buy_134 ?_
    refine m_putl C hM (k := 39) rfl rfl dX12_buy_135 (fun H locs hM => ?_)
    refine lv_aload_n hx hb dX12_buy_138 rfl (lv_at hl 1 rfl) ?_
    refine lv_iconst (v := (1 : Int32)) hx hb dX12_buy_139 (by decide) ?_
    refine lv_iload_n hx hb dX12_buy_140 rfl (lv_at hl 2 rfl) ?_
    obtain ⟨r_4, hr_4, h⟩ := bd_of h
    refine m_cVv (As := [.int (1 : Int32), .int x1]) (rest := []) C hM (cm_comes l D ca α A (mJ r_3 39 (r_3.2.2.2 44 x1.toNatClampNeg)) (1 : Int32) x1 r_4 hr_4) mwy_comes ⟨rfl, rfl⟩ ⟨Nat.le_of_ble_eq_true rfl, Nat.le_of_ble_eq_true rfl⟩ rfl rfl (Nat.le_of_ble_eq_true rfl) hl.1 dX12_buy_141 ⟨rfl, rfl⟩ (fun H locs hM => ?_)
    refine lv_aload_n hx hb dX12_buy_144 rfl (lv_at hl 1 rfl) ?_
    refine m_geta C hM (k := 32) (by decide) rfl dX12_buy_145 ?_
    refine lv_aload_n hx hb dX12_buy_148 rfl (lv_at hl 1 rfl) ?_
    refine m_geti C hM (k := 34) (Or.inl rfl) rfl dX12_buy_149 ?_
    refine lv_iload_n hx hb dX12_buy_152 rfl (lv_at hl 2 rfl) ?_
    obtain ⟨c_3, h⟩ := ko_of h
    refine m_iast C hM (k := 32) rfl c_3 dX12_buy_153 (fun H locs hM => ?_)
    refine lv_aload_n hx hb dX12_buy_154 rfl (lv_at hl 1 rfl) ?_
    refine m_geta C hM (k := 47) (by decide) rfl dX12_buy_155 ?_
    refine lv_aload_n hx hb dX12_buy_158 rfl (lv_at hl 1 rfl) ?_
    refine m_geti C hM (k := 49) (Or.inl rfl) rfl dX12_buy_159 ?_
    refine lv_aload_n hx hb dX12_buy_162 rfl (lv_at hl 1 rfl) ?_
    refine m_geti C hM (k := 34) (Or.inl rfl) rfl dX12_buy_163 ?_
    obtain ⟨c_4, h⟩ := ko_of h
    refine m_iast C hM (k := 47) rfl c_4 dX12_buy_166 (fun H locs hM => ?_)
    refine lv_aload_n hx hb dX12_buy_167 rfl (lv_at hl 1 rfl) ?_
    refine m_geta C hM (k := 48) (by decide) rfl dX12_buy_168 ?_
    refine lv_aload_n hx hb dX12_buy_171 rfl (lv_at hl 1 rfl) ?_
    refine m_geti C hM (k := 49) (Or.inl rfl) rfl dX12_buy_172 ?_
    refine lv_iload_n hx hb dX12_buy_175 rfl (lv_at hl 0 rfl) ?_
    obtain ⟨c_5, h⟩ := ko_of h
    refine m_iast C hM (k := 48) rfl c_5 dX12_buy_176 (fun H locs hM => ?_)
    refine lv_aload_n hx hb dX12_buy_177 rfl (lv_at hl 1 rfl) ?_
    refine lv_dup hx hb dX12_buy_178 rfl ?_
    refine m_geti C hM (k := 49) (Or.inl rfl) rfl dX12_buy_179 ?_
    refine lv_iconst (v := (1 : Int32)) hx hb dX12_buy_182 (by decide) ?_
    refine lv_iadd hx hb dX12_buy_183 ?_
    refine m_puti C hM (k := 49) rfl rfl dX12_buy_184 (fun H locs hM => ?_)
    refine lv_aload_n hx hb dX12_buy_187 rfl (lv_at hl 1 rfl) ?_
    refine m_geti C hM (k := 34) (Or.inl rfl) rfl dX12_buy_188 ?_
    exact m_ri C hM hr hlk dX12_buy_191 h
  · have h := br_F c_1 h
    refine lv_iconst (v := (0 : Int32)) hx hb dX12_buy_102 (by decide) ?_
    exact m_ri C hM hr hlk dX12_buy_103 h
def fm_buy_75 (σ : mS) (x1 : Int32) : Option (Int32 × mS) :=
  fm_buy_96 σ x1 (3 : Int32)
set_option maxHeartbeats 4000000 in
set_option maxRecDepth 100000 in
theorem gm_buy_75 {p : Program} {l : Launch} {e : Env} {s : State} {m : MethodId} {args : Array Value} {below : List Frame} {meth : Method} {c : Code} {D : va_G} {ca : Nat → ClassId} {α : Nat → Nat} {A : Nat → Prop} {o : Int32 × mS} (C : mC p s m args c cX12_buy 3 D ca) (hr : meth.sig.returnType = some .int) (hlk : meth.locks = false) : ∀ (σ : mS) (x1 : Int32) (H : Heap) (locs : List Loc) (ls : Array Slot), mM D ca α A s.heap σ H locs → lv_has ls 3 [(0, .ref (α 0)), (1, .int x1)] → fm_buy_75 σ x1 = some o → mGI p l e rmX12_buy s m args below meth c D ca α A o H locs 75 ls [.ref (α 0)] := by
  have hx := C.1
  have hb := C.2.1
  intro σ x1 H locs ls hM hl h
  unfold fm_buy_75 at h
  refine lv_iconst (v := (3 : Int32)) hx hb dX12_buy_75 (by decide) ?_
  refine lv_goto (tgt := 96) hx hb dX12_buy_76 (by decide) ?_
  exact gm_buy_96 C hr hlk  _ _ _ _ _ _ hM (lv_sub hl [0, 1] rfl) h
def fm_buy_34 (σ : mS) (x1 : Int32) (s0 : Int32) : Option (Int32 × mS) :=
  (fm_isWrong σ s0).bind fun r_1 =>
  if r_1.1 = 0 then
    (fm_isOwnedNow r_1.2 x1).bind fun r_2 =>
    if r_2.1 = 0 then
      if x1 < 0 ∨ 12 ≤ x1.toNatClampNeg then none else
      (fm_knownAt r_2.2 (r_2.2.1 34)).bind fun r_3 =>
      if (lg_cmp ((r_2.2.2.2.2 44 x1.toNatClampNeg) &&& (r_3.1 ^^^ (-1 : Int64))) (0 : Int64)) = 0 then
        fm_buy_75 r_3.2 x1
      else
        (fm_priceNow r_3.2 x1).bind fun r_4 =>
        if r_4.1 ≤ (r_4.2.1 46) then
          fm_buy_96 r_4.2 x1 (0 : Int32)
        else
          fm_buy_96 r_4.2 x1 (4 : Int32)
    else
      fm_buy_75 r_2.2 x1
  else
    some ((0 : Int32), r_1.2)
set_option maxHeartbeats 4000000 in
set_option maxRecDepth 100000 in
theorem gm_buy_34 {p : Program} {l : Launch} {e : Env} {s : State} {m : MethodId} {args : Array Value} {below : List Frame} {meth : Method} {c : Code} {D : va_G} {ca : Nat → ClassId} {α : Nat → Nat} {A : Nat → Prop} {o : Int32 × mS} (C : mC p s m args c cX12_buy 3 D ca) (hr : meth.sig.returnType = some .int) (hlk : meth.locks = false) : ∀ (σ : mS) (x1 : Int32) (s0 : Int32) (H : Heap) (locs : List Loc) (ls : Array Slot), mM D ca α A s.heap σ H locs → lv_has ls 3 [(0, .ref (α 0)), (1, .int x1)] → fm_buy_34 σ x1 s0 = some o → mGI p l e rmX12_buy s m args below meth c D ca α A o H locs 34 ls [.int s0, .ref (α 0)] := by
  have hx := C.1
  have hb := C.2.1
  intro σ x1 s0 H locs ls hM hl h
  unfold fm_buy_34 at h
  obtain ⟨r_1, hr_1, h⟩ := bd_of h
  refine m_cVi (As := [.int s0]) (rest := []) C hM (cm_isWrong l D ca α A σ s0 r_1 hr_1) mwy_isWrong ⟨rfl, rfl⟩ ⟨Nat.le_of_ble_eq_true rfl, Nat.le_of_ble_eq_true rfl⟩ rfl rfl (Nat.le_of_ble_eq_true rfl) hl.1 dX12_buy_34 ⟨rfl, rfl⟩ (fun H locs hM => ?_)
  refine lv_if_eq (tgt := 42) hx hb dX12_buy_37 (by decide) (fun c_1 => ?_) (fun c_1 => ?_)
  · have h := br_T c_1 h
    refine lv_aload_n hx hb dX12_buy_42 rfl (lv_at hl 0 rfl) ?_
    refine lv_aload_n hx hb dX12_buy_43 rfl (lv_at hl 0 rfl) ?_
    refine lv_iload_n hx hb dX12_buy_44 rfl (lv_at hl 1 rfl) ?_
    obtain ⟨r_2, hr_2, h⟩ := bd_of h
    refine m_cVi (As := [.int x1]) (rest := [.ref (α 0)]) C hM (cm_isOwnedNow l D ca α A r_1.2 x1 r_2 hr_2) mwy_isOwnedNow ⟨rfl, rfl⟩ ⟨Nat.le_of_ble_eq_true rfl, Nat.le_of_ble_eq_true rfl⟩ rfl rfl (Nat.le_of_ble_eq_true rfl) hl.1 dX12_buy_45 ⟨rfl, rfl⟩ (fun H locs hM => ?_)
    refine lv_if_ne (tgt := 75) hx hb dX12_buy_48 (by decide) (fun c_2 => ?_) (fun c_2 => ?_)
    · have h := br_F c_2 h
      exact gm_buy_75 C hr hlk  _ _ _ _ _ hM (lv_sub hl [0, 1] rfl) h
    · have h := br_T c_2 h
      refine lv_aload_n hx hb dX12_buy_51 rfl (lv_at hl 0 rfl) ?_
      refine m_geta C hM (k := 44) (by decide) rfl dX12_buy_52 ?_
      refine lv_iload_n hx hb dX12_buy_55 rfl (lv_at hl 1 rfl) ?_
      obtain ⟨c_3, h⟩ := ko_of h
      refine m_lald C hM (k := 44) rfl c_3 dX12_buy_56 ?_
      refine lv_aload_n hx hb dX12_buy_57 rfl (lv_at hl 0 rfl) ?_
      refine lv_aload_n hx hb dX12_buy_58 rfl (lv_at hl 0 rfl) ?_
      refine m_geti C hM (k := 34) (Or.inl rfl) rfl dX12_buy_59 ?_
      obtain ⟨r_3, hr_3, h⟩ := bd_of h
      refine m_cVl (As := [.int (r_2.2.1 34)]) (rest := [.long (r_2.2.2.2.2 44 x1.toNatClampNeg), .ref (α 0)]) C hM (cm_knownAt l D ca α A r_2.2 (r_2.2.1 34) r_3 hr_3) mwy_knownAt ⟨rfl, rfl⟩ ⟨Nat.le_of_ble_eq_true rfl, Nat.le_of_ble_eq_true rfl⟩ rfl rfl (Nat.le_of_ble_eq_true rfl) hl.1 dX12_buy_62 ⟨rfl, rfl⟩ (fun H locs hM => ?_)
      refine lv_ldc2 (own := RX12) (v := (-1 : Int64)) hx hb C.2.2.2.1 (C.2.2.2.2.1 _ (wl_in (i := 2152) (by decide +kernel))) dX12_buy_65 ?_
      refine lv_lxor hx hb dX12_buy_68 ?_
      refine lv_land hx hb dX12_buy_69 ?_
      refine lv_lconst (v := (0 : Int64)) hx hb dX12_buy_70 (by decide) ?_
      refine W.lcmp hx hb dX12_buy_71 ?_
      refine lv_if_ne (tgt := 79) hx hb dX12_buy_72 (by decide) (fun c_4 => ?_) (fun c_4 => ?_)
      · have h := br_F c_4 h
        refine lv_aload_n hx hb dX12_buy_79 rfl (lv_at hl 0 rfl) ?_
        refine lv_iload_n hx hb dX12_buy_80 rfl (lv_at hl 1 rfl) ?_
        obtain ⟨r_4, hr_4, h⟩ := bd_of h
        refine m_cVi (As := [.int x1]) (rest := [.ref (α 0)]) C hM (cm_priceNow l D ca α A r_3.2 x1 r_4 hr_4) mwy_priceNow ⟨rfl, rfl⟩ ⟨Nat.le_of_ble_eq_true rfl, Nat.le_of_ble_eq_true rfl⟩ rfl rfl (Nat.le_of_ble_eq_true rfl) hl.1 dX12_buy_81 ⟨rfl, rfl⟩ (fun H locs hM => ?_)
        refine lv_aload_n hx hb dX12_buy_84 rfl (lv_at hl 0 rfl) ?_
        refine m_geti C hM (k := 46) (Or.inl rfl) rfl dX12_buy_85 ?_
        refine lv_icmp_le (tgt := 95) hx hb dX12_buy_88 (by decide) (fun c_5 => ?_) (fun c_5 => ?_)
        · have h := br_T c_5 h
          refine lv_iconst (v := (0 : Int32)) hx hb dX12_buy_95 (by decide) ?_
          exact gm_buy_96 C hr hlk  _ _ _ _ _ _ hM (lv_sub hl [0, 1] rfl) h
        · have h := br_F c_5 h
          refine lv_iconst (v := (4 : Int32)) hx hb dX12_buy_91 (by decide) ?_
          refine lv_goto (tgt := 96) hx hb dX12_buy_92 (by decide) ?_
          exact gm_buy_96 C hr hlk  _ _ _ _ _ _ hM (lv_sub hl [0, 1] rfl) h
      · have h := br_T c_4 h
        exact gm_buy_75 C hr hlk  _ _ _ _ _ hM (lv_sub hl [0, 1] rfl) h
  · have h := br_F c_1 h
    refine lv_iconst (v := (0 : Int32)) hx hb dX12_buy_40 (by decide) ?_
    exact m_ri C hM hr hlk dX12_buy_41 h
def fm_buy_29 (σ : mS) (x1 : Int32) : Option (Int32 × mS) :=
  fm_buy_34 σ x1 (2 : Int32)
set_option maxHeartbeats 4000000 in
set_option maxRecDepth 100000 in
theorem gm_buy_29 {p : Program} {l : Launch} {e : Env} {s : State} {m : MethodId} {args : Array Value} {below : List Frame} {meth : Method} {c : Code} {D : va_G} {ca : Nat → ClassId} {α : Nat → Nat} {A : Nat → Prop} {o : Int32 × mS} (C : mC p s m args c cX12_buy 3 D ca) (hr : meth.sig.returnType = some .int) (hlk : meth.locks = false) : ∀ (σ : mS) (x1 : Int32) (H : Heap) (locs : List Loc) (ls : Array Slot), mM D ca α A s.heap σ H locs → lv_has ls 3 [(0, .ref (α 0)), (1, .int x1)] → fm_buy_29 σ x1 = some o → mGI p l e rmX12_buy s m args below meth c D ca α A o H locs 29 ls [.ref (α 0)] := by
  have hx := C.1
  have hb := C.2.1
  intro σ x1 H locs ls hM hl h
  unfold fm_buy_29 at h
  refine lv_iconst (v := (2 : Int32)) hx hb dX12_buy_29 (by decide) ?_
  refine lv_goto (tgt := 34) hx hb dX12_buy_30 (by decide) ?_
  exact gm_buy_34 C hr hlk  _ _ _ _ _ _ hM (lv_sub hl [0, 1] rfl) h
def fm_buy (σ : mS) (x1 : Int32) : Option (Int32 × mS) :=
  (fm_isHint σ x1).bind fun r_1 =>
  if r_1.1 = 0 then
    fm_buy_34 r_1.2 x1 (1 : Int32)
  else
    if (r_1.2.1 20) = 0 then
      fm_buy_29 r_1.2 x1
    else
      if (r_1.2.1 33) = (80 : Int32) then
        fm_buy_29 r_1.2 x1
      else
        fm_buy_34 r_1.2 x1 (0 : Int32)
set_option maxHeartbeats 4000000 in
set_option maxRecDepth 100000 in
theorem cm_buy (l : Launch) (D : va_G) (ca : Nat → ClassId) (α : Nat → Nat) (A : Nat → Prop) (σ : mS) (x1 : Int32) (o : Int32 × mS) (h : fm_buy σ x1 = some o) : mMetI l yX12_buy cX12_buy 3 (some .int) rmX12_buy D ca α A σ [.int x1] o := by
  refine Met.ofW (cc := cX12_buy) (maxL := 3) (ret := some .int) (by decide) rfl ?_
  intro p e s m args below meth c s₁ B hml hv
  obtain ⟨rfl, hP, hK, hD0⟩ := hv
  have C : mC p s m _ c cX12_buy 3 D ca := ⟨B.exec, B.bytes, hml, findClass_of_methodNamed B.named, fun w hw => atoms_spec (ws := mWs yX12_buy cX12_buy 3 (some .int)) B.pre w (List.mem_cons_of_mem _ hw), hK⟩
  have hM : mM D ca α A s.heap σ s.heap [] := ⟨hP, hD0, va_S.rf⟩
  have hr := B.returns
  have hlk := B.notSynchronized
  have hx := C.1
  have hb := C.2.1
  have hl := lv_entry ([.ref (α 0), .int x1]) (n := 3) (Nat.le_of_ble_eq_true rfl)
  rw [lg_entry_eq]
  generalize (lg_sl ([.ref (α 0), .int x1]) ++ List.replicate (3 - (lg_sl ([.ref (α 0), .int x1])).length) Slot.unset).toArray = ls at hl ⊢
  have hl : lv_has ls 3 [(0, .ref (α 0)), (1, .int x1)] := hl
  unfold fm_buy at h
  refine lv_aload_n hx hb dX12_buy_0 rfl (lv_at hl 0 rfl) ?_
  refine lv_aload_n hx hb dX12_buy_1 rfl (lv_at hl 0 rfl) ?_
  refine lv_iload_n hx hb dX12_buy_2 rfl (lv_at hl 1 rfl) ?_
  obtain ⟨r_1, hr_1, h⟩ := bd_of h
  refine m_cVi (As := [.int x1]) (rest := [.ref (α 0)]) C hM (cm_isHint l D ca α A σ x1 r_1 hr_1) mwy_isHint ⟨rfl, rfl⟩ ⟨Nat.le_of_ble_eq_true rfl, Nat.le_of_ble_eq_true rfl⟩ rfl rfl (Nat.le_of_ble_eq_true rfl) hl.1 dX12_buy_3 ⟨rfl, rfl⟩ (fun H locs hM => ?_)
  refine lv_if_ne (tgt := 13) hx hb dX12_buy_6 (by decide) (fun c_1 => ?_) (fun c_1 => ?_)
  · have h := br_F c_1 h
    refine lv_aload_n hx hb dX12_buy_13 rfl (lv_at hl 0 rfl) ?_
    refine m_geti C hM (k := 20) (Or.inr rfl) rfl dX12_buy_14 ?_
    refine lv_if_eq (tgt := 29) hx hb dX12_buy_17 (by decide) (fun c_2 => ?_) (fun c_2 => ?_)
    · have h := br_T c_2 h
      exact gm_buy_29 C hr hlk  _ _ _ _ _ hM (lv_sub hl [0, 1] rfl) h
    · have h := br_F c_2 h
      refine lv_aload_n hx hb dX12_buy_20 rfl (lv_at hl 0 rfl) ?_
      refine m_geti C hM (k := 33) (Or.inl rfl) rfl dX12_buy_21 ?_
      refine lv_bipush (v := (80 : Int32)) hx hb dX12_buy_24 (by decide) ?_
      refine lv_icmp_ne (tgt := 33) hx hb dX12_buy_26 (by decide) (fun c_3 => ?_) (fun c_3 => ?_)
      · have h := br_F c_3 h
        refine lv_iconst (v := (0 : Int32)) hx hb dX12_buy_33 (by decide) ?_
        exact gm_buy_34 C hr hlk  _ _ _ _ _ _ hM (lv_sub hl [0, 1] rfl) h
      · have h := br_T c_3 h
        exact gm_buy_29 C hr hlk  _ _ _ _ _ hM (lv_sub hl [0, 1] rfl) h
  · have h := br_T c_1 h
    refine lv_iconst (v := (1 : Int32)) hx hb dX12_buy_9 (by decide) ?_
    refine lv_goto (tgt := 34) hx hb dX12_buy_10 (by decide) ?_
    exact gm_buy_34 C hr hlk  _ _ _ _ _ _ hM (lv_sub hl [0, 1] rfl) h
/-! isOwned(I)Z -/
abbrev rmX12_isOwned : Room := { frames := 2, cells := 0, slots := 0, locals := 47 }
def fm_isOwned_44 (σ : mS) (s0 : Int32) : Option (Int32 × mS) :=
  if s0 &&& 1 = s0 then some (s0, σ) else none
set_option maxHeartbeats 4000000 in
set_option maxRecDepth 100000 in
theorem gm_isOwned_44 {p : Program} {l : Launch} {e : Env} {s : State} {m : MethodId} {args : Array Value} {below : List Frame} {meth : Method} {c : Code} {D : va_G} {ca : Nat → ClassId} {α : Nat → Nat} {A : Nat → Prop} {o : Int32 × mS} (C : mC p s m args c cX12_isOwned 2 D ca) (hr : meth.sig.returnType = some .boolean) (hlk : meth.locks = false) : ∀ (σ : mS) (s0 : Int32) (H : Heap) (locs : List Loc) (ls : Array Slot), mM D ca α A s.heap σ H locs → lv_has ls 2 [(0, .ref (α 0))] → fm_isOwned_44 σ s0 = some o → mGI p l e rmX12_isOwned s m args below meth c D ca α A o H locs 44 ls [.int s0] := by
  have hx := C.1
  have hb := C.2.1
  intro σ s0 H locs ls hM hl h
  unfold fm_isOwned_44 at h
  exact m_rz C hM hr hlk dX12_isOwned_44 h
def fm_isOwned_43 (σ : mS) : Option (Int32 × mS) :=
  fm_isOwned_44 σ (0 : Int32)
set_option maxHeartbeats 4000000 in
set_option maxRecDepth 100000 in
theorem gm_isOwned_43 {p : Program} {l : Launch} {e : Env} {s : State} {m : MethodId} {args : Array Value} {below : List Frame} {meth : Method} {c : Code} {D : va_G} {ca : Nat → ClassId} {α : Nat → Nat} {A : Nat → Prop} {o : Int32 × mS} (C : mC p s m args c cX12_isOwned 2 D ca) (hr : meth.sig.returnType = some .boolean) (hlk : meth.locks = false) : ∀ (σ : mS) (H : Heap) (locs : List Loc) (ls : Array Slot), mM D ca α A s.heap σ H locs → lv_has ls 2 [(0, .ref (α 0))] → fm_isOwned_43 σ = some o → mGI p l e rmX12_isOwned s m args below meth c D ca α A o H locs 43 ls [] := by
  have hx := C.1
  have hb := C.2.1
  intro σ H locs ls hM hl h
  unfold fm_isOwned_43 at h
  refine lv_iconst (v := (0 : Int32)) hx hb dX12_isOwned_43 (by decide) ?_
  exact gm_isOwned_44 C hr hlk  _ _ _ _ _ hM (lv_sub hl [0] rfl) h
def fm_isOwned_25 (σ : mS) (x1 : Int32) (s0 : Int32) : Option (Int32 × mS) :=
  (fm_isWrong σ s0).bind fun r_1 =>
  if r_1.1 = 0 then
    (fm_isOwnedNow r_1.2 x1).bind fun r_2 =>
    if r_2.1 = 0 then
      fm_isOwned_43 r_2.2
    else
      fm_isOwned_44 r_2.2 (1 : Int32)
  else
    fm_isOwned_43 r_1.2
set_option maxHeartbeats 4000000 in
set_option maxRecDepth 100000 in
theorem gm_isOwned_25 {p : Program} {l : Launch} {e : Env} {s : State} {m : MethodId} {args : Array Value} {below : List Frame} {meth : Method} {c : Code} {D : va_G} {ca : Nat → ClassId} {α : Nat → Nat} {A : Nat → Prop} {o : Int32 × mS} (C : mC p s m args c cX12_isOwned 2 D ca) (hr : meth.sig.returnType = some .boolean) (hlk : meth.locks = false) : ∀ (σ : mS) (x1 : Int32) (s0 : Int32) (H : Heap) (locs : List Loc) (ls : Array Slot), mM D ca α A s.heap σ H locs → lv_has ls 2 [(0, .ref (α 0)), (1, .int x1)] → fm_isOwned_25 σ x1 s0 = some o → mGI p l e rmX12_isOwned s m args below meth c D ca α A o H locs 25 ls [.int s0, .ref (α 0)] := by
  have hx := C.1
  have hb := C.2.1
  intro σ x1 s0 H locs ls hM hl h
  unfold fm_isOwned_25 at h
  obtain ⟨r_1, hr_1, h⟩ := bd_of h
  refine m_cVi (As := [.int s0]) (rest := []) C hM (cm_isWrong l D ca α A σ s0 r_1 hr_1) mwy_isWrong ⟨rfl, rfl⟩ ⟨Nat.le_of_ble_eq_true rfl, Nat.le_of_ble_eq_true rfl⟩ rfl rfl (Nat.le_of_ble_eq_true rfl) hl.1 dX12_isOwned_25 ⟨rfl, rfl⟩ (fun H locs hM => ?_)
  refine lv_if_ne (tgt := 43) hx hb dX12_isOwned_28 (by decide) (fun c_1 => ?_) (fun c_1 => ?_)
  · have h := br_F c_1 h
    exact gm_isOwned_43 C hr hlk  _ _ _ _ hM (lv_sub hl [0] rfl) h
  · have h := br_T c_1 h
    refine lv_aload_n hx hb dX12_isOwned_31 rfl (lv_at hl 0 rfl) ?_
    refine lv_iload_n hx hb dX12_isOwned_32 rfl (lv_at hl 1 rfl) ?_
    obtain ⟨r_2, hr_2, h⟩ := bd_of h
    refine m_cVi (As := [.int x1]) (rest := []) C hM (cm_isOwnedNow l D ca α A r_1.2 x1 r_2 hr_2) mwy_isOwnedNow ⟨rfl, rfl⟩ ⟨Nat.le_of_ble_eq_true rfl, Nat.le_of_ble_eq_true rfl⟩ rfl rfl (Nat.le_of_ble_eq_true rfl) hl.1 dX12_isOwned_33 ⟨rfl, rfl⟩ (fun H locs hM => ?_)
    refine lv_if_eq (tgt := 43) hx hb dX12_isOwned_36 (by decide) (fun c_2 => ?_) (fun c_2 => ?_)
    · have h := br_T c_2 h
      exact gm_isOwned_43 C hr hlk  _ _ _ _ hM (lv_sub hl [0] rfl) h
    · have h := br_F c_2 h
      refine lv_iconst (v := (1 : Int32)) hx hb dX12_isOwned_39 (by decide) ?_
      refine lv_goto (tgt := 44) hx hb dX12_isOwned_40 (by decide) ?_
      exact gm_isOwned_44 C hr hlk  _ _ _ _ _ hM (lv_sub hl [0] rfl) h
def fm_isOwned (σ : mS) (x1 : Int32) : Option (Int32 × mS) :=
  (fm_isHint σ x1).bind fun r_1 =>
  if r_1.1 = 0 then
    fm_isOwned_25 r_1.2 x1 (1 : Int32)
  else
    if (r_1.2.1 20) = 0 then
      fm_isOwned_25 r_1.2 x1 (2 : Int32)
    else
      fm_isOwned_25 r_1.2 x1 (0 : Int32)
set_option maxHeartbeats 4000000 in
set_option maxRecDepth 100000 in
theorem cm_isOwned (l : Launch) (D : va_G) (ca : Nat → ClassId) (α : Nat → Nat) (A : Nat → Prop) (σ : mS) (x1 : Int32) (o : Int32 × mS) (h : fm_isOwned σ x1 = some o) : mMetI l yX12_isOwned cX12_isOwned 2 (some .boolean) rmX12_isOwned D ca α A σ [.int x1] o := by
  refine Met.ofW (cc := cX12_isOwned) (maxL := 2) (ret := some .boolean) (by decide) rfl ?_
  intro p e s m args below meth c s₁ B hml hv
  obtain ⟨rfl, hP, hK, hD0⟩ := hv
  have C : mC p s m _ c cX12_isOwned 2 D ca := ⟨B.exec, B.bytes, hml, findClass_of_methodNamed B.named, fun w hw => atoms_spec (ws := mWs yX12_isOwned cX12_isOwned 2 (some .boolean)) B.pre w (List.mem_cons_of_mem _ hw), hK⟩
  have hM : mM D ca α A s.heap σ s.heap [] := ⟨hP, hD0, va_S.rf⟩
  have hr := B.returns
  have hlk := B.notSynchronized
  have hx := C.1
  have hb := C.2.1
  have hl := lv_entry ([.ref (α 0), .int x1]) (n := 2) (Nat.le_of_ble_eq_true rfl)
  rw [lg_entry_eq]
  generalize (lg_sl ([.ref (α 0), .int x1]) ++ List.replicate (2 - (lg_sl ([.ref (α 0), .int x1])).length) Slot.unset).toArray = ls at hl ⊢
  have hl : lv_has ls 2 [(0, .ref (α 0)), (1, .int x1)] := hl
  unfold fm_isOwned at h
  refine lv_aload_n hx hb dX12_isOwned_0 rfl (lv_at hl 0 rfl) ?_
  refine lv_aload_n hx hb dX12_isOwned_1 rfl (lv_at hl 0 rfl) ?_
  refine lv_iload_n hx hb dX12_isOwned_2 rfl (lv_at hl 1 rfl) ?_
  obtain ⟨r_1, hr_1, h⟩ := bd_of h
  refine m_cVi (As := [.int x1]) (rest := [.ref (α 0)]) C hM (cm_isHint l D ca α A σ x1 r_1 hr_1) mwy_isHint ⟨rfl, rfl⟩ ⟨Nat.le_of_ble_eq_true rfl, Nat.le_of_ble_eq_true rfl⟩ rfl rfl (Nat.le_of_ble_eq_true rfl) hl.1 dX12_isOwned_3 ⟨rfl, rfl⟩ (fun H locs hM => ?_)
  refine lv_if_ne (tgt := 13) hx hb dX12_isOwned_6 (by decide) (fun c_1 => ?_) (fun c_1 => ?_)
  · have h := br_F c_1 h
    refine lv_aload_n hx hb dX12_isOwned_13 rfl (lv_at hl 0 rfl) ?_
    refine m_geti C hM (k := 20) (Or.inr rfl) rfl dX12_isOwned_14 ?_
    refine lv_if_ne (tgt := 24) hx hb dX12_isOwned_17 (by decide) (fun c_2 => ?_) (fun c_2 => ?_)
    · have h := br_F c_2 h
      refine lv_iconst (v := (0 : Int32)) hx hb dX12_isOwned_24 (by decide) ?_
      exact gm_isOwned_25 C hr hlk  _ _ _ _ _ _ hM (lv_sub hl [0, 1] rfl) h
    · have h := br_T c_2 h
      refine lv_iconst (v := (2 : Int32)) hx hb dX12_isOwned_20 (by decide) ?_
      refine lv_goto (tgt := 25) hx hb dX12_isOwned_21 (by decide) ?_
      exact gm_isOwned_25 C hr hlk  _ _ _ _ _ _ hM (lv_sub hl [0, 1] rfl) h
  · have h := br_T c_1 h
    refine lv_iconst (v := (1 : Int32)) hx hb dX12_isOwned_9 (by decide) ?_
    refine lv_goto (tgt := 25) hx hb dX12_isOwned_10 (by decide) ?_
    exact gm_isOwned_25 C hr hlk  _ _ _ _ _ _ hM (lv_sub hl [0, 1] rfl) h
