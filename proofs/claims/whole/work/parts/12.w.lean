/-! The line, written with exact counts of what is made. -/
def lev (σ : cS) : Nat := if cln σ 16 ((cR σ 11 0 0).getD 0) ≤ 16 then 0 else if cln σ 16 ((cR σ 11 0 0).getD 0) ≤ 34 then 1 else if cln σ 16 ((cR σ 11 0 0).getD 0) ≤ 70 then 2 else 3
theorem lev_le (σ : cS) : lev σ ≤ 3 := by
  unfold lev
  split
  · omega
  · split
    · omega
    · split <;> omega
def exA (σ : cS) (z s : Option cS) : Option cS := match z with
  | some u => if lev u = lev σ then some u else none
  | none => match s with
    | some u => if lev u = lev σ + 1 then some u else none
    | none => none
theorem exA_of {σ o : cS} {z s : Option cS} (h : exA σ z s = some o) : (z = some o ∧ lev o = lev σ) ∨ (s = some o ∧ lev o = lev σ + 1) := by
  match z, s, h with
  | some u, _, h =>
    obtain ⟨h1, h2⟩ := ok_of (show (if lev u = lev σ then some u else none) = some o from h)
    cases h2
    exact Or.inl ⟨rfl, h1⟩
  | none, some u, h =>
    obtain ⟨h1, h2⟩ := ok_of (show (if lev u = lev σ + 1 then some u else none) = some o from h)
    cases h2
    exact Or.inr ⟨rfl, h1⟩
theorem lx_X8_current {σ : cS} {o : Option Nat × cS} (h : fc_X8_current σ = some o) : lev o.2 = lev σ := by
  unfold fc_X8_current at h
  obtain ⟨r, hr, h⟩ := bd_of h
  obtain ⟨_, h⟩ := ko_of h
  cases h
  unfold fc_Jx4a65c_get_915e3 at hr
  obtain ⟨i, _, hr⟩ := bd_of hr
  obtain ⟨r2, h2, hr⟩ := bd_of hr
  obtain ⟨i3, _, hr⟩ := bd_of hr
  obtain ⟨r4, h4, hr⟩ := bd_of hr
  cases hr
  have e2 : r2.2 = σ := by
    unfold fc_O_ck at h2
    obtain ⟨_, h2⟩ := ko_of h2
    cases h2
    rfl
  have e4 : r4.2 = r2.2 := by
    unfold fc_Jx4a65c_elementData_915e3 at h4
    obtain ⟨_, _, h4⟩ := bd_of h4
    obtain ⟨_, _, h4⟩ := bd_of h4
    obtain ⟨_, h4⟩ := ko_of h4
    obtain ⟨_, h4⟩ := ko_of h4
    cases h4
    rfl
  show lev r4.2 = lev σ
  rw [e4, e2]
theorem lx_J0_charAt_5068e {σ : cS} {x0 : Option Nat} {x1 : Int32} {o : Int32 × cS} (h : fc_J0_charAt_5068e σ x0 x1 = some o) : lev o.2 = lev σ := by
  unfold fc_J0_charAt_5068e at h
  obtain ⟨i, _, h⟩ := bd_of h
  obtain ⟨r2, h2, h⟩ := bd_of h
  have e2 : r2.2 = σ := by
    unfold fc_J0_isLatin1_aae02 at h2
    rw [if_neg (by decide)] at h2
    obtain ⟨_, _, h2⟩ := bd_of h2
    rw [if_pos rfl] at h2
    unfold fc_J0_isLatin1_aae02_18 at h2
    obtain ⟨_, h2⟩ := ok_of h2
    cases h2
    rfl
  by_cases q : r2.1 = 0
  · rw [if_pos q] at h; cases h
  · rw [if_neg q] at h
    obtain ⟨i3, _, h⟩ := bd_of h
    obtain ⟨r4, h4, h⟩ := bd_of h
    obtain ⟨_, h⟩ := ok_of h
    cases h
    have e4 : r4.2 = r2.2 := by
      unfold fc_J1_charAt_3b067 at h4
      obtain ⟨_, _, h4⟩ := bd_of h4
      obtain ⟨r5, h5, h4⟩ := bd_of h4
      obtain ⟨_, _, h4⟩ := bd_of h4
      obtain ⟨_, h4⟩ := ko_of h4
      obtain ⟨_, h4⟩ := ok_of h4
      cases h4
      unfold fc_S_ck at h5
      obtain ⟨_, h5⟩ := ko_of h5
      cases h5
      rfl
    show lev r4.2 = lev σ
    rw [e4, e2]
theorem cw_X11_640 : cCallV RX11 640 (cRn 11) yJ4_append_cf468 cJ4_append_cf468 2 ((some (FieldType.object "java/lang/StringBuilder"))) 1 := ⟨⟨wl_in (i := 1759) (by decide +kernel), wl_in (i := 1760) (by decide +kernel), wl_in (i := 1761) (by decide +kernel), wl_in (i := 13) (by decide +kernel), wl_in (i := 1762) (by decide +kernel)⟩, rfl, by decide, by decide, by decide +kernel⟩
theorem cw_X11_644 : cCallV RX11 644 (cRn 0) yX11_writeWord cX11_writeWord 4 ((none : Option FieldType)) 1 := ⟨⟨wl_in (i := 1774) (by decide +kernel), wl_in (i := 1776) (by decide +kernel), wl_inp (i := 26) (by decide +kernel), wl_in (i := 1) (by decide +kernel), wl_in (i := 1777) (by decide +kernel)⟩, rfl, by decide, by decide, by decide +kernel⟩
theorem cw_X11_647 : cCallV RX11 647 (cRn 11) yJ4_append_15ec4 cJ4_append_15ec4 2 ((some (FieldType.object "java/lang/StringBuilder"))) 1 := ⟨⟨wl_in (i := 1758) (by decide +kernel), wl_in (i := 1559) (by decide +kernel), wl_in (i := 1560) (by decide +kernel), wl_in (i := 13) (by decide +kernel), wl_in (i := 1561) (by decide +kernel)⟩, rfl, by decide, by decide, by decide +kernel⟩
theorem cw_X11_650 : cCallV RX11 650 "java/lang/String" yJ0_charAt_5068e cJ0_charAt_5068e 2 ((some FieldType.char)) 1 := ⟨⟨wl_in (i := 1772) (by decide +kernel), wl_in (i := 1107) (by decide +kernel), wl_in (i := 1108) (by decide +kernel), wl_in (i := 14) (by decide +kernel), wl_in (i := 1109) (by decide +kernel)⟩, rfl, by decide, by decide, by decide +kernel⟩
theorem cw_X11_651 : cCallV RX11 651 (cRn 11) yJ4_append_bf812 cJ4_append_bf812 2 ((some (FieldType.object "java/lang/StringBuilder"))) 1 := ⟨⟨wl_in (i := 1773) (by decide +kernel), wl_in (i := 1636) (by decide +kernel), wl_in (i := 1637) (by decide +kernel), wl_in (i := 13) (by decide +kernel), wl_in (i := 1638) (by decide +kernel)⟩, rfl, by decide, by decide, by decide +kernel⟩
theorem cw_X11_637 : cCallV RX11 637 (cRn 0) yX11_writeCommand cX11_writeCommand 2 ((none : Option FieldType)) 1 := ⟨⟨wl_in (i := 1754) (by decide +kernel), wl_in (i := 1756) (by decide +kernel), wl_inp (i := 25) (by decide +kernel), wl_in (i := 1) (by decide +kernel), wl_in (i := 1757) (by decide +kernel)⟩, rfl, by decide, by decide, by decide +kernel⟩
theorem cw_X11_630 : cCallV RX11 630 (cRn 11) yJ4_setLength_d00df cJ4_setLength_d00df 2 ((none : Option FieldType)) 1 := ⟨⟨wl_in (i := 1543) (by decide +kernel), wl_in (i := 1544) (by decide +kernel), wl_in (i := 1545) (by decide +kernel), wl_in (i := 13) (by decide +kernel), wl_in (i := 1546) (by decide +kernel)⟩, rfl, by decide, by decide, by decide +kernel⟩
theorem cw_X11_481 : cCallV RX11 481 (cRn 0) yX11_writeLine cX11_writeLine 3 ((none : Option FieldType)) 0 := ⟨⟨wl_in (i := 1539) (by decide +kernel), wl_in (i := 1541) (by decide +kernel), wl_inp (i := 24) (by decide +kernel), wl_in (i := 1) (by decide +kernel), wl_in (i := 1542) (by decide +kernel)⟩, rfl, by decide, by decide, by decide +kernel⟩
theorem cw_X11_484 : cCallV RX11 484 (cRn 11) yJ4_length_8abf5 cJ4_length_8abf5 1 ((some FieldType.int)) 0 := ⟨⟨wl_in (i := 1779) (by decide +kernel), wl_in (i := 1681) (by decide +kernel), wl_in (i := 2436) (by decide +kernel), wl_in (i := 13) (by decide +kernel), wl_in (i := 1682) (by decide +kernel)⟩, rfl, by decide, by decide, by decide +kernel⟩
theorem cw_X11_486 : cCallV RX11 486 (cRn 11) yJ4_charAt_5068e cJ4_charAt_5068e 2 ((some FieldType.char)) 1 := ⟨⟨wl_in (i := 1787) (by decide +kernel), wl_in (i := 1788) (by decide +kernel), wl_in (i := 1789) (by decide +kernel), wl_in (i := 13) (by decide +kernel), wl_in (i := 1790) (by decide +kernel)⟩, rfl, by decide, by decide, by decide +kernel⟩
def fc_A_apps (σ : cS) (x1 : Option Nat) : Option cS := exA σ (fc_J4_append_15ec4Z σ x1) (fc_J4_append_15ec4S σ x1)
abbrev rc_A_apps (σ o : cS) : Room := ({ frames := 5, cells := lev o - lev σ, slots := 200 * (lev o - lev σ), locals := 113 } : Room)
theorem lx_A_apps {σ o : cS} {x1 : Option Nat} (h : fc_A_apps σ x1 = some o) : lev σ ≤ lev o := by
  rcases exA_of h with ⟨-, e⟩ | ⟨-, e⟩ <;> omega
theorem cc_A_apps (l : Launch) (D : va_G) (ca : Nat → ClassId) (A : Nat → Prop) (α : cAl) (σ : cS) (x1 : Option Nat) (o : cS) (h : fc_A_apps σ x1 = some o) : cMet true l yJ4_append_15ec4 cJ4_append_15ec4 2 ((some (FieldType.object "java/lang/StringBuilder"))) (rc_A_apps σ o) (lev o - lev σ) (200 * (lev o - lev σ)) D ca true A α σ [cr α 11 (some 0), cr α 19 x1] (fun α1 => some (cr α1 11 (some 0))) o := by
  show cMet true l yJ4_append_15ec4 cJ4_append_15ec4 2 ((some (FieldType.object "java/lang/StringBuilder"))) ({ frames := 5, cells := lev o - lev σ, slots := 200 * (lev o - lev σ), locals := 113 } : Room) (lev o - lev σ) (200 * (lev o - lev σ)) D ca true A α σ [cr α 11 (some 0), cr α 19 x1] (fun α1 => some (cr α1 11 (some 0))) o
  rcases exA_of h with ⟨hz, e⟩ | ⟨hz, e⟩
  · rw [show lev o - lev σ = 0 by omega]
    exact cc_J4_append_15ec4Z l D ca A α σ x1 o hz
  · rw [show lev o - lev σ = 1 by omega]
    exact cc_J4_append_15ec4S l D ca A α σ x1 o hz
def fc_A_appc (σ : cS) (x1 : Int32) : Option cS := exA σ (fc_J4_append_cf468Z σ x1) (fc_J4_append_cf468S σ x1)
abbrev rc_A_appc (σ o : cS) : Room := ({ frames := 5, cells := lev o - lev σ, slots := 200 * (lev o - lev σ), locals := 112 } : Room)
theorem lx_A_appc {σ o : cS} {x1 : Int32} (h : fc_A_appc σ x1 = some o) : lev σ ≤ lev o := by
  rcases exA_of h with ⟨-, e⟩ | ⟨-, e⟩ <;> omega
theorem cc_A_appc (l : Launch) (D : va_G) (ca : Nat → ClassId) (A : Nat → Prop) (α : cAl) (σ : cS) (x1 : Int32) (o : cS) (h : fc_A_appc σ x1 = some o) : cMet true l yJ4_append_cf468 cJ4_append_cf468 2 ((some (FieldType.object "java/lang/StringBuilder"))) (rc_A_appc σ o) (lev o - lev σ) (200 * (lev o - lev σ)) D ca true A α σ [cr α 11 (some 0), .int x1] (fun α1 => some (cr α1 11 (some 0))) o := by
  show cMet true l yJ4_append_cf468 cJ4_append_cf468 2 ((some (FieldType.object "java/lang/StringBuilder"))) ({ frames := 5, cells := lev o - lev σ, slots := 200 * (lev o - lev σ), locals := 112 } : Room) (lev o - lev σ) (200 * (lev o - lev σ)) D ca true A α σ [cr α 11 (some 0), .int x1] (fun α1 => some (cr α1 11 (some 0))) o
  rcases exA_of h with ⟨hz, e⟩ | ⟨hz, e⟩
  · rw [show lev o - lev σ = 0 by omega]
    exact cc_J4_append_cf468Z l D ca A α σ x1 o hz
  · rw [show lev o - lev σ = 1 by omega]
    exact cc_J4_append_cf468S l D ca A α σ x1 o hz
def fc_A_appi (σ : cS) (x1 : Int32) : Option cS := exA σ (fc_J4_append_bf812Z σ x1) (fc_J4_append_bf812S σ x1)
abbrev rc_A_appi (σ o : cS) : Room := ({ frames := 5, cells := lev o - lev σ, slots := 200 * (lev o - lev σ), locals := 114 } : Room)
theorem lx_A_appi {σ o : cS} {x1 : Int32} (h : fc_A_appi σ x1 = some o) : lev σ ≤ lev o := by
  rcases exA_of h with ⟨-, e⟩ | ⟨-, e⟩ <;> omega
theorem cc_A_appi (l : Launch) (D : va_G) (ca : Nat → ClassId) (A : Nat → Prop) (α : cAl) (σ : cS) (x1 : Int32) (o : cS) (h : fc_A_appi σ x1 = some o) : cMet true l yJ4_append_bf812 cJ4_append_bf812 2 ((some (FieldType.object "java/lang/StringBuilder"))) (rc_A_appi σ o) (lev o - lev σ) (200 * (lev o - lev σ)) D ca true A α σ [cr α 11 (some 0), .int x1] (fun α1 => some (cr α1 11 (some 0))) o := by
  show cMet true l yJ4_append_bf812 cJ4_append_bf812 2 ((some (FieldType.object "java/lang/StringBuilder"))) ({ frames := 5, cells := lev o - lev σ, slots := 200 * (lev o - lev σ), locals := 114 } : Room) (lev o - lev σ) (200 * (lev o - lev σ)) D ca true A α σ [cr α 11 (some 0), .int x1] (fun α1 => some (cr α1 11 (some 0))) o
  rcases exA_of h with ⟨hz, e⟩ | ⟨hz, e⟩
  · rw [show lev o - lev σ = 0 by omega]
    exact cc_J4_append_bf812Z l D ca A α σ x1 o hz
  · rw [show lev o - lev σ = 1 by omega]
    exact cc_J4_append_bf812S l D ca A α σ x1 o hz
def fc_A_setl (σ : cS) (x1 : Int32) : Option cS := exA σ (fc_J4_setLength_d00dfZ σ x1) (fc_J4_setLength_d00dfS σ x1)
abbrev rc_A_setl (σ o : cS) : Room := ({ frames := 5, cells := lev o - lev σ, slots := 200 * (lev o - lev σ), locals := 112 } : Room)
theorem lx_A_setl {σ o : cS} {x1 : Int32} (h : fc_A_setl σ x1 = some o) : lev σ ≤ lev o := by
  rcases exA_of h with ⟨-, e⟩ | ⟨-, e⟩ <;> omega
theorem cc_A_setl (l : Launch) (D : va_G) (ca : Nat → ClassId) (A : Nat → Prop) (α : cAl) (σ : cS) (x1 : Int32) (o : cS) (h : fc_A_setl σ x1 = some o) : cMet true l yJ4_setLength_d00df cJ4_setLength_d00df 2 ((none : Option FieldType)) (rc_A_setl σ o) (lev o - lev σ) (200 * (lev o - lev σ)) D ca true A α σ [cr α 11 (some 0), .int x1] (fun _ => none) o := by
  show cMet true l yJ4_setLength_d00df cJ4_setLength_d00df 2 ((none : Option FieldType)) ({ frames := 5, cells := lev o - lev σ, slots := 200 * (lev o - lev σ), locals := 112 } : Room) (lev o - lev σ) (200 * (lev o - lev σ)) D ca true A α σ [cr α 11 (some 0), .int x1] (fun _ => none) o
  rcases exA_of h with ⟨hz, e⟩ | ⟨hz, e⟩
  · rw [show lev o - lev σ = 0 by omega]
    exact cc_J4_setLength_d00dfZ l D ca A α σ x1 o hz
  · rw [show lev o - lev σ = 1 by omega]
    exact cc_J4_setLength_d00dfS l D ca A α σ x1 o hz
/-! Lorewick.writeWord(I)V -/
abbrev rc_X11_writeWord (σ0 o : cS) : Room := { frames := 6, cells := lev o - lev σ0, slots := 200 * (lev o - lev σ0), locals := 133 }
def fc_X11_writeWord_54 (k_13 : cS → Int32 → Int32 → Option (cS)) (σ : cS) (x1 : Int32) (x2 : Int32) : Option (cS) :=
    k_13 σ x1 (x2 + (-1 : Int32))
set_option maxHeartbeats 1000000 in
theorem lm_X11_writeWord_54 {o : cS} {k_13 : cS → Int32 → Int32 → Option (cS)} (hkm_13 : ∀ (σ : cS) (x1 : Int32) (x2 : Int32) , k_13 σ x1 x2 = some o → lev σ ≤ lev o) : ∀ (σ : cS) (x1 : Int32) (x2 : Int32) , fc_X11_writeWord_54 k_13 σ x1 x2 = some o → lev σ ≤ lev o := by
  intro σ x1 x2 h
  unfold fc_X11_writeWord_54 at h
  have hj := hkm_13 _ _ _ h
  omega
set_option maxHeartbeats 4000000 in
set_option maxRecDepth 100000 in
theorem gc_X11_writeWord_54 {p : Program} {l : Launch} {e : Env} {s : State} {m : MethodId} {args : Array Value} {below : List Frame} {meth : Method} {c : Code} {D : va_G} {ca : Nat → ClassId} {A : Nat → Prop} {σ0 : cS} {α0 : cAl} {o : cS} {k_13 : cS → Int32 → Int32 → Option (cS)} (C : cC p s m args c cX11_writeWord 4 RX11 D ca A α0) (hr : meth.sig.returnType = none) (hlk : meth.locks = false) (h17 : 0 < cn σ0 17) (hk_13 : ∀ (α : cAl) (σ : cS) (x1 : Int32) (x2 : Int32) (H : Heap) (locs : List Loc) (ls : Array Slot), cM D ca true A s.heap σ0 α0 σ α H locs → lv_has ls 4 [(0, cr α 0 (some 0)), (1, .int x1), (2, .int x2)] → k_13 σ x1 x2 = some o → lev σ0 ≤ lev σ → W p l e (rc_X11_writeWord σ0 o) s m args below meth c H locs (lev σ - lev σ0) (200 * (lev σ - lev σ0)) (MQ below (cQ true D ca true A α0 σ0 (fun _ => none) o) args s (lev o - lev σ0) (200 * (lev o - lev σ0)) A) (F0 m 13 ls [])) (hkm_13 : ∀ (σ : cS) (x1 : Int32) (x2 : Int32) , k_13 σ x1 x2 = some o → lev σ ≤ lev o) : ∀ (α : cAl) (σ : cS) (x1 : Int32) (x2 : Int32) (H : Heap) (locs : List Loc) (ls : Array Slot), cM D ca true A s.heap σ0 α0 σ α H locs → lv_has ls 4 [(0, cr α 0 (some 0)), (1, .int x1), (2, .int x2)] → fc_X11_writeWord_54 k_13 σ x1 x2 = some o → lev σ0 ≤ lev σ → W p l e (rc_X11_writeWord σ0 o) s m args below meth c H locs (lev σ - lev σ0) (200 * (lev σ - lev σ0)) (MQ below (cQ true D ca true A α0 σ0 (fun _ => none) o) args s (lev o - lev σ0) (200 * (lev o - lev σ0)) A) (F0 m 54 ls []) := by
  have hx := C.1
  have hb := C.2.1
  intro α σ x1 x2 H locs ls hM hl h hge
  unfold fc_X11_writeWord_54 at h
  refine lv_iinc (v := (x2 + (-1 : Int32))) (lv' := [(2, .int (x2 + (-1 : Int32))), (0, cr α 0 (some 0)), (1, .int x1)]) hx hb dX11_writeWord_54 hl (k := 2) rfl rfl (by decide) rfl (fun ls hl => ?_)
  refine lv_goto (tgt := 13) hx hb dX11_writeWord_57 (by decide) ?_
  exact hk_13 α _ _ _ _ _ _ hM (lv_sub hl [1, 2, 0] rfl) h (show lev σ0 ≤ lev σ by omega)
def fc_X11_writeWord_53 (k_13 : cS → Int32 → Int32 → Option (cS)) (σ : cS) (x1 : Int32) (x2 : Int32) : Option (cS) :=
    fc_X11_writeWord_54 k_13 σ x1 x2
set_option maxHeartbeats 1000000 in
theorem lm_X11_writeWord_53 {o : cS} {k_13 : cS → Int32 → Int32 → Option (cS)} (hkm_13 : ∀ (σ : cS) (x1 : Int32) (x2 : Int32) , k_13 σ x1 x2 = some o → lev σ ≤ lev o) : ∀ (σ : cS) (x1 : Int32) (x2 : Int32) , fc_X11_writeWord_53 k_13 σ x1 x2 = some o → lev σ ≤ lev o := by
  intro σ x1 x2 h
  unfold fc_X11_writeWord_53 at h
  have hj := lm_X11_writeWord_54 hkm_13 _ _ _ h
  omega
set_option maxHeartbeats 4000000 in
set_option maxRecDepth 100000 in
theorem gc_X11_writeWord_53 {p : Program} {l : Launch} {e : Env} {s : State} {m : MethodId} {args : Array Value} {below : List Frame} {meth : Method} {c : Code} {D : va_G} {ca : Nat → ClassId} {A : Nat → Prop} {σ0 : cS} {α0 : cAl} {o : cS} {k_13 : cS → Int32 → Int32 → Option (cS)} (C : cC p s m args c cX11_writeWord 4 RX11 D ca A α0) (hr : meth.sig.returnType = none) (hlk : meth.locks = false) (h17 : 0 < cn σ0 17) (hk_13 : ∀ (α : cAl) (σ : cS) (x1 : Int32) (x2 : Int32) (H : Heap) (locs : List Loc) (ls : Array Slot), cM D ca true A s.heap σ0 α0 σ α H locs → lv_has ls 4 [(0, cr α 0 (some 0)), (1, .int x1), (2, .int x2)] → k_13 σ x1 x2 = some o → lev σ0 ≤ lev σ → W p l e (rc_X11_writeWord σ0 o) s m args below meth c H locs (lev σ - lev σ0) (200 * (lev σ - lev σ0)) (MQ below (cQ true D ca true A α0 σ0 (fun _ => none) o) args s (lev o - lev σ0) (200 * (lev o - lev σ0)) A) (F0 m 13 ls [])) (hkm_13 : ∀ (σ : cS) (x1 : Int32) (x2 : Int32) , k_13 σ x1 x2 = some o → lev σ ≤ lev o) : ∀ (α : cAl) (σ : cS) (x1 : Int32) (x2 : Int32) (H : Heap) (locs : List Loc) (ls : Array Slot), cM D ca true A s.heap σ0 α0 σ α H locs → lv_has ls 4 [(0, cr α 0 (some 0)), (1, .int x1), (2, .int x2)] → fc_X11_writeWord_53 k_13 σ x1 x2 = some o → lev σ0 ≤ lev σ → W p l e (rc_X11_writeWord σ0 o) s m args below meth c H locs (lev σ - lev σ0) (200 * (lev σ - lev σ0)) (MQ below (cQ true D ca true A α0 σ0 (fun _ => none) o) args s (lev o - lev σ0) (200 * (lev o - lev σ0)) A) (F0 m 53 ls [cr α 11 (some 0)]) := by
  have hx := C.1
  have hb := C.2.1
  intro α σ x1 x2 H locs ls hM hl h hge
  unfold fc_X11_writeWord_53 at h
  refine lv_pop hx hb dX11_writeWord_53 cr_cat ?_
  exact gc_X11_writeWord_54 C hr hlk h17 hk_13 hkm_13 α _ _ _ _ _ _ hM (lv_sub hl [0, 1, 2] rfl) h (show lev σ0 ≤ lev σ by omega)
def fc_X11_writeWord_13 : Nat → cS → Int32 → Int32 → Option (cS)
  | 0, _, _, _ => none
  | n + 1, σ, x1, x2 =>
    if x2 < 0 then
      some σ
    else
      if x1 < 0 ∨ 40 ≤ x1.toNatClampNeg then none else
      if ((((cJ σ 15 0 x1.toNatClampNeg) >>> ((x2 * (5 : Int32)).toInt64 &&& 63)).toInt32) &&& (31 : Int32)) = 0 then
        fc_X11_writeWord_54 (fc_X11_writeWord_13 n) σ x1 x2
      else
        (fc_A_appc σ (((((97 : Int32) + ((((cJ σ 15 0 x1.toNatClampNeg) >>> ((x2 * (5 : Int32)).toInt64 &&& 63)).toInt32) &&& (31 : Int32))) - (1 : Int32)).toUInt32 % 65536).toInt32)).bind fun r_1 =>
        fc_X11_writeWord_53 (fc_X11_writeWord_13 n) r_1 x1 x2
set_option maxHeartbeats 1000000 in
theorem lm_X11_writeWord_13 {o : cS} : ∀ (n : Nat) (σ : cS) (x1 : Int32) (x2 : Int32) , fc_X11_writeWord_13 n σ x1 x2 = some o → lev σ ≤ lev o := by
  intro n
  induction n with
  | zero =>
    intro σ x1 x2 h
    cases h
  | succ n ih =>
    intro σ x1 x2 h
    rw [fc_X11_writeWord_13] at h
    by_cases c_1 : x2 < 0
    · have h := br_T c_1 h
      cases h
      omega
    · have h := br_F c_1 h
      obtain ⟨c_2, h⟩ := ko_of h
      by_cases c_3 : ((((cJ σ 15 0 x1.toNatClampNeg) >>> ((x2 * (5 : Int32)).toInt64 &&& 63)).toInt32) &&& (31 : Int32)) = 0
      · have h := br_T c_3 h
        have hj := lm_X11_writeWord_54 ih _ _ _ h
        omega
      · have h := br_F c_3 h
        obtain ⟨r_1, hr_1, h⟩ := bd_of h
        have hc_1 : lev σ ≤ lev r_1 := lx_A_appc hr_1
        have hj := lm_X11_writeWord_53 ih _ _ _ h
        omega
set_option maxHeartbeats 4000000 in
set_option maxRecDepth 100000 in
theorem gc_X11_writeWord_13 {p : Program} {l : Launch} {e : Env} {s : State} {m : MethodId} {args : Array Value} {below : List Frame} {meth : Method} {c : Code} {D : va_G} {ca : Nat → ClassId} {A : Nat → Prop} {σ0 : cS} {α0 : cAl} {o : cS} (C : cC p s m args c cX11_writeWord 4 RX11 D ca A α0) (hr : meth.sig.returnType = none) (hlk : meth.locks = false) (h17 : 0 < cn σ0 17) : ∀ (n : Nat) (α : cAl) (σ : cS) (x1 : Int32) (x2 : Int32) (H : Heap) (locs : List Loc) (ls : Array Slot), cM D ca true A s.heap σ0 α0 σ α H locs → lv_has ls 4 [(0, cr α 0 (some 0)), (1, .int x1), (2, .int x2)] → fc_X11_writeWord_13 n σ x1 x2 = some o → lev σ0 ≤ lev σ → W p l e (rc_X11_writeWord σ0 o) s m args below meth c H locs (lev σ - lev σ0) (200 * (lev σ - lev σ0)) (MQ below (cQ true D ca true A α0 σ0 (fun _ => none) o) args s (lev o - lev σ0) (200 * (lev o - lev σ0)) A) (F0 m 13 ls []) := by
  have hx := C.1
  have hb := C.2.1
  intro n
  induction n with
  | zero =>
    intro α σ x1 x2 H locs ls hM hl h hge
    cases h
  | succ n ih =>
    intro α σ x1 x2 H locs ls hM hl h hge
    rw [fc_X11_writeWord_13] at h
    refine lv_iload_n hx hb dX11_writeWord_13 rfl (lv_at hl 2 rfl) ?_
    refine lv_if_lt (tgt := 60) hx hb dX11_writeWord_14 (by decide) (fun c_1 => ?_) (fun c_1 => ?_)
    · have h := br_T c_1 h
      cases h
      exact c_rv C hM (fun h => by cases h) hr hlk dX11_writeWord_60 rfl
    · have h := br_F c_1 h
      refine c_aload_n (t := 0) (x := (some 0)) hx hb dX11_writeWord_17 rfl (lv_at hl 0 rfl) ?_
      refine c_getb C hM (k := 0) (f := 1) (j := 0) (t := 2) (hM.cst 0 0 rfl) (by decide) fl_X11_25 dX11_writeWord_18 ?_
      refine c_getb C hM (k := 2) (f := 0) (j := 0) (t := 15) (hM.cst 2 0 rfl) (by decide) fl_X11_106 dX11_writeWord_21 ?_
      refine lv_iload_n hx hb dX11_writeWord_24 rfl (lv_at hl 1 rfl) ?_
      obtain ⟨c_2, h⟩ := ko_of h
      refine c_lald C hM (hM.cst 15 0 rfl) (by rw [hM.ln 15 0 40 (by decide)]; exact c_2) dX11_writeWord_25 ?_
      refine lv_iload_n hx hb dX11_writeWord_26 rfl (lv_at hl 2 rfl) ?_
      refine lv_iconst (v := (5 : Int32)) hx hb dX11_writeWord_27 (by decide) ?_
      refine lv_imul hx hb dX11_writeWord_28 ?_
      refine lv_lshr (v := ((cJ σ 15 0 x1.toNatClampNeg) >>> ((x2 * (5 : Int32)).toInt64 &&& 63))) hx hb dX11_writeWord_29 rfl ?_
      refine lv_l2i (v := ((cJ σ 15 0 x1.toNatClampNeg) >>> ((x2 * (5 : Int32)).toInt64 &&& 63)).toInt32) hx hb dX11_writeWord_30 rfl ?_
      refine lv_bipush (v := (31 : Int32)) hx hb dX11_writeWord_31 (by decide) ?_
      refine lv_iand hx hb dX11_writeWord_33 ?_
      refine lv_istore_n (lv' := [(3, .int ((((cJ σ 15 0 x1.toNatClampNeg) >>> ((x2 * (5 : Int32)).toInt64 &&& 63)).toInt32) &&& (31 : Int32))), (0, cr α 0 (some 0)), (1, .int x1), (2, .int x2)]) hx hb dX11_writeWord_34 rfl hl (by decide) rfl (fun ls hl => ?_)
      refine lv_iload_n hx hb dX11_writeWord_35 rfl (lv_at hl 0 rfl) ?_
      refine lv_if_eq (tgt := 54) hx hb dX11_writeWord_36 (by decide) (fun c_3 => ?_) (fun c_3 => ?_)
      · have h := br_T c_3 h
        exact gc_X11_writeWord_54 C hr hlk h17 ih (lm_X11_writeWord_13 n) α _ _ _ _ _ _ hM (lv_sub hl [1, 2, 3] rfl) h (show lev σ0 ≤ lev σ by omega)
      · have h := br_F c_3 h
        refine c_aload_n (t := 0) (x := (some 0)) hx hb dX11_writeWord_39 rfl (lv_at hl 1 rfl) ?_
        refine c_getb C hM (k := 0) (f := 6) (j := 0) (t := 11) (hM.cst 0 0 rfl) (by decide) fl_X11_62 dX11_writeWord_40 ?_
        refine lv_bipush (v := (97 : Int32)) hx hb dX11_writeWord_43 (by decide) ?_
        refine lv_iload_n hx hb dX11_writeWord_45 rfl (lv_at hl 0 rfl) ?_
        refine lv_iadd hx hb dX11_writeWord_46 ?_
        refine lv_iconst (v := (1 : Int32)) hx hb dX11_writeWord_47 (by decide) ?_
        refine lv_isub hx hb dX11_writeWord_48 ?_
        refine lv_i2c (v := ((((97 : Int32) + ((((cJ σ 15 0 x1.toNatClampNeg) >>> ((x2 * (5 : Int32)).toInt64 &&& 63)).toInt32) &&& (31 : Int32))) - (1 : Int32)).toUInt32 % 65536).toInt32) hx hb dX11_writeWord_49 rfl ?_
        have hlv_2 := c_lvc hM 0 0 rfl
        obtain ⟨r_1, hr_1, h⟩ := bd_of h
        have hc_1 : lev σ ≤ lev r_1 := lx_A_appc hr_1
        refine c_go1 (c_rV (As := [.int (((((97 : Int32) + ((((cJ σ 15 0 x1.toNatClampNeg) >>> ((x2 * (5 : Int32)).toInt64 &&& 63)).toInt32) &&& (31 : Int32))) - (1 : Int32)).toUInt32 % 65536).toInt32)]) (rest := []) C hM h17 (hM.cst 11 0 rfl) (by decide) (cc_A_appc l D ca A α σ (((((97 : Int32) + ((((cJ σ 15 0 x1.toNatClampNeg) >>> ((x2 * (5 : Int32)).toInt64 &&& 63)).toInt32) &&& (31 : Int32))) - (1 : Int32)).toUInt32 % 65536).toInt32) _ hr_1) cw_X11_640 ⟨rfl, rfl⟩ ⟨Nat.le_of_ble_eq_true rfl, Nat.le_of_ble_eq_true rfl⟩ rfl rfl (cats_le _ (Nat.le_of_ble_eq_true rfl)) hl.1 dX11_writeWord_50 ⟨by show (lev σ - lev σ0) + (lev r_1 - lev σ) ≤ lev o - lev σ0; have hz := lm_X11_writeWord_53 (lm_X11_writeWord_13 n) _ _ _ h; omega, by show 200 * (lev σ - lev σ0) + 200 * (lev r_1 - lev σ) ≤ 200 * (lev o - lev σ0); have hz := lm_X11_writeWord_53 (lm_X11_writeWord_13 n) _ _ _ h; omega⟩) hM (fun H locs α_1 hX_1 hM => ?_)
        refine W.widen (k := lev r_1 - lev σ0) (n := 200 * (lev r_1 - lev σ0)) (by omega) (by omega) ?_
        have e_2 : cr α 0 (some 0) = cr α_1 0 (some 0) := cr_to hX_1 hlv_2
        have hl := lv_to (lv_sub hl [1, 2, 3] rfl) (show ([(0, cr α 0 (some 0)), (1, .int x1), (2, .int x2)] : List (Nat × Value)) = [(0, cr α_1 0 (some 0)), (1, .int x1), (2, .int x2)] by rw [e_2])
        refine W_st (st' := [cr α_1 11 (some 0)]) rfl ?_
        exact gc_X11_writeWord_53 C hr hlk h17 ih (lm_X11_writeWord_13 n) α_1 _ _ _ _ _ _ hM (lv_sub hl [0, 1, 2] rfl) h (show lev σ0 ≤ lev r_1 by omega)
def fc_X11_writeWord_9 (σ : cS) (x1 : Int32) : Option (cS) :=
    fc_X11_writeWord_13 3000 σ x1 (7 : Int32)
set_option maxHeartbeats 1000000 in
theorem lm_X11_writeWord_9 {o : cS} : ∀ (σ : cS) (x1 : Int32) , fc_X11_writeWord_9 σ x1 = some o → lev σ ≤ lev o := by
  intro σ x1 h
  unfold fc_X11_writeWord_9 at h
  have hj := lm_X11_writeWord_13  _ _ _ _ h
  omega
set_option maxHeartbeats 4000000 in
set_option maxRecDepth 100000 in
theorem gc_X11_writeWord_9 {p : Program} {l : Launch} {e : Env} {s : State} {m : MethodId} {args : Array Value} {below : List Frame} {meth : Method} {c : Code} {D : va_G} {ca : Nat → ClassId} {A : Nat → Prop} {σ0 : cS} {α0 : cAl} {o : cS} (C : cC p s m args c cX11_writeWord 4 RX11 D ca A α0) (hr : meth.sig.returnType = none) (hlk : meth.locks = false) (h17 : 0 < cn σ0 17) : ∀ (α : cAl) (σ : cS) (x1 : Int32) (H : Heap) (locs : List Loc) (ls : Array Slot), cM D ca true A s.heap σ0 α0 σ α H locs → lv_has ls 4 [(0, cr α 0 (some 0)), (1, .int x1)] → fc_X11_writeWord_9 σ x1 = some o → lev σ0 ≤ lev σ → W p l e (rc_X11_writeWord σ0 o) s m args below meth c H locs (lev σ - lev σ0) (200 * (lev σ - lev σ0)) (MQ below (cQ true D ca true A α0 σ0 (fun _ => none) o) args s (lev o - lev σ0) (200 * (lev o - lev σ0)) A) (F0 m 9 ls [cr α 11 (some 0)]) := by
  have hx := C.1
  have hb := C.2.1
  intro α σ x1 H locs ls hM hl h hge
  unfold fc_X11_writeWord_9 at h
  refine lv_pop hx hb dX11_writeWord_9 cr_cat ?_
  refine lv_bipush (v := (7 : Int32)) hx hb dX11_writeWord_10 (by decide) ?_
  refine lv_istore_n (lv' := [(2, .int (7 : Int32)), (0, cr α 0 (some 0)), (1, .int x1)]) hx hb dX11_writeWord_12 rfl hl (by decide) rfl (fun ls hl => ?_)
  exact gc_X11_writeWord_13 C hr hlk h17  _ α _ _ _ _ _ _ hM (lv_sub hl [1, 2, 0] rfl) h (show lev σ0 ≤ lev σ by omega)
def fc_X11_writeWord (σ : cS) (x1 : Int32) : Option (cS) :=
  (fc_A_appc σ (32 : Int32)).bind fun r_1 =>
  fc_X11_writeWord_9 r_1 x1
theorem lx_X11_writeWord {σ o : cS} {x1 : Int32} (h : fc_X11_writeWord σ x1 = some o) : lev σ ≤ lev o := by
  unfold fc_X11_writeWord at h
  obtain ⟨r_1, hr_1, h⟩ := bd_of h
  have hc_1 : lev σ ≤ lev r_1 := lx_A_appc hr_1
  have hj := lm_X11_writeWord_9  _ _ h
  omega
set_option maxHeartbeats 4000000 in
set_option maxRecDepth 100000 in
theorem cc_X11_writeWord (l : Launch) (D : va_G) (ca : Nat → ClassId) (A : Nat → Prop) (α : cAl) (σ : cS) (x1 : Int32) (o : cS) (h : fc_X11_writeWord σ x1 = some o) : cMet true l yX11_writeWord cX11_writeWord 4 (none) (rc_X11_writeWord σ o) (lev o - lev σ) (200 * (lev o - lev σ)) D ca true A α σ [cr α 0 (some 0), .int x1] (fun _ => none) o := by
  refine Met.ofW (cc := cX11_writeWord) (maxL := 4) (ret := none) (by decide) rfl ?_
  intro p e s m args below meth c s₁ B hml hv
  obtain ⟨rfl, hP, hK, hD0, hSh, hA, hG⟩ := hv
  have C : cC p s m _ c cX11_writeWord 4 RX11 D ca A α := ⟨B.exec, B.bytes, hml, findClass_of_methodNamed B.named, fun w hw => atoms_spec (ws := mWs yX11_writeWord cX11_writeWord 4 (none)) B.pre w (List.mem_cons_of_mem _ hw), hK, hG⟩
  have hM : cM D ca true A s.heap σ α σ α s.heap [] := ⟨hP, hD0, hSh, va_S.rf, hA, cX.rf⟩
  have h17 : 0 < cn σ 17 := c_17 hM
  have hr := B.returns
  have hlk := B.notSynchronized
  have hx := C.1
  have hb := C.2.1
  have hl := lv_entry ([cr α 0 (some 0), .int x1]) (n := 4) (Nat.le_of_ble_eq_true rfl)
  rw [lg_entry_eq]
  generalize (lg_sl ([cr α 0 (some 0), .int x1]) ++ List.replicate (4 - (lg_sl ([cr α 0 (some 0), .int x1])).length) Slot.unset).toArray = ls at hl ⊢
  have hl : lv_has ls 4 [(0, cr α 0 (some 0)), (1, .int x1)] := hl
  unfold fc_X11_writeWord at h
  have hge : lev σ ≤ lev σ := Nat.le_refl _
  refine W.widen (k := lev σ - lev σ) (n := 200 * (lev σ - lev σ)) (Nat.zero_le _) (Nat.zero_le _) ?_
  refine c_aload_n (t := 0) (x := (some 0)) hx hb dX11_writeWord_0 rfl (lv_at hl 0 rfl) ?_
  refine c_getb C hM (k := 0) (f := 6) (j := 0) (t := 11) (hM.cst 0 0 rfl) (by decide) fl_X11_62 dX11_writeWord_1 ?_
  refine lv_bipush (v := (32 : Int32)) hx hb dX11_writeWord_4 (by decide) ?_
  have hlv_2 := c_lvc hM 0 0 rfl
  obtain ⟨r_1, hr_1, h⟩ := bd_of h
  have hc_1 : lev σ ≤ lev r_1 := lx_A_appc hr_1
  refine c_go1 (c_rV (As := [.int (32 : Int32)]) (rest := []) C hM h17 (hM.cst 11 0 rfl) (by decide) (cc_A_appc l D ca A α σ (32 : Int32) _ hr_1) cw_X11_640 ⟨rfl, rfl⟩ ⟨Nat.le_of_ble_eq_true rfl, Nat.le_of_ble_eq_true rfl⟩ rfl rfl (cats_le _ (Nat.le_of_ble_eq_true rfl)) hl.1 dX11_writeWord_6 ⟨by show (lev σ - lev σ) + (lev r_1 - lev σ) ≤ lev o - lev σ; have hz := lm_X11_writeWord_9  _ _ h; omega, by show 200 * (lev σ - lev σ) + 200 * (lev r_1 - lev σ) ≤ 200 * (lev o - lev σ); have hz := lm_X11_writeWord_9  _ _ h; omega⟩) hM (fun H locs α_1 hX_1 hM => ?_)
  refine W.widen (k := lev r_1 - lev σ) (n := 200 * (lev r_1 - lev σ)) (by omega) (by omega) ?_
  have e_2 : cr α 0 (some 0) = cr α_1 0 (some 0) := cr_to hX_1 hlv_2
  have hl := lv_to (lv_sub hl [0, 1] rfl) (show ([(0, cr α 0 (some 0)), (1, .int x1)] : List (Nat × Value)) = [(0, cr α_1 0 (some 0)), (1, .int x1)] by rw [e_2])
  refine W_st (st' := [cr α_1 11 (some 0)]) rfl ?_
  exact gc_X11_writeWord_9 C hr hlk h17  α_1 _ _ _ _ _ hM (lv_sub hl [0, 1] rfl) h (show lev σ ≤ lev r_1 by omega)
/-! Lorewick.writeCommand(LLorewick$Command;)V -/
abbrev rc_X11_writeCommand (σ0 o : cS) : Room := { frames := 7, cells := lev o - lev σ0, slots := 200 * (lev o - lev σ0), locals := 156 }
def fc_X11_writeCommand_159 (σ : cS) : Option (cS) :=
    some σ
set_option maxHeartbeats 1000000 in
theorem lm_X11_writeCommand_159 {o : cS} : ∀ (σ : cS) , fc_X11_writeCommand_159 σ = some o → lev σ ≤ lev o := by
  intro σ h
  unfold fc_X11_writeCommand_159 at h
  cases h
  omega
set_option maxHeartbeats 4000000 in
set_option maxRecDepth 100000 in
theorem gc_X11_writeCommand_159 {p : Program} {l : Launch} {e : Env} {s : State} {m : MethodId} {args : Array Value} {below : List Frame} {meth : Method} {c : Code} {D : va_G} {ca : Nat → ClassId} {A : Nat → Prop} {σ0 : cS} {α0 : cAl} {o : cS} (C : cC p s m args c cX11_writeCommand 2 RX11 D ca A α0) (hr : meth.sig.returnType = none) (hlk : meth.locks = false) (h17 : 0 < cn σ0 17) : ∀ (α : cAl) (σ : cS) (H : Heap) (locs : List Loc) (ls : Array Slot), cM D ca true A s.heap σ0 α0 σ α H locs → lv_has ls 2 [] → fc_X11_writeCommand_159 σ = some o → lev σ0 ≤ lev σ → W p l e (rc_X11_writeCommand σ0 o) s m args below meth c H locs (lev σ - lev σ0) (200 * (lev σ - lev σ0)) (MQ below (cQ true D ca true A α0 σ0 (fun _ => none) o) args s (lev o - lev σ0) (200 * (lev o - lev σ0)) A) (F0 m 159 ls []) := by
  have hx := C.1
  have hb := C.2.1
  intro α σ H locs ls hM hl h hge
  unfold fc_X11_writeCommand_159 at h
  cases h
  exact c_rv C hM (fun h => by cases h) hr hlk dX11_writeCommand_159 rfl
def fc_X11_writeCommand_148 (σ : cS) : Option (cS) :=
    fc_X11_writeCommand_159 σ
set_option maxHeartbeats 1000000 in
theorem lm_X11_writeCommand_148 {o : cS} : ∀ (σ : cS) , fc_X11_writeCommand_148 σ = some o → lev σ ≤ lev o := by
  intro σ h
  unfold fc_X11_writeCommand_148 at h
  have hj := lm_X11_writeCommand_159  _ h
  omega
set_option maxHeartbeats 4000000 in
set_option maxRecDepth 100000 in
theorem gc_X11_writeCommand_148 {p : Program} {l : Launch} {e : Env} {s : State} {m : MethodId} {args : Array Value} {below : List Frame} {meth : Method} {c : Code} {D : va_G} {ca : Nat → ClassId} {A : Nat → Prop} {σ0 : cS} {α0 : cAl} {o : cS} (C : cC p s m args c cX11_writeCommand 2 RX11 D ca A α0) (hr : meth.sig.returnType = none) (hlk : meth.locks = false) (h17 : 0 < cn σ0 17) : ∀ (α : cAl) (σ : cS) (H : Heap) (locs : List Loc) (ls : Array Slot), cM D ca true A s.heap σ0 α0 σ α H locs → lv_has ls 2 [] → fc_X11_writeCommand_148 σ = some o → lev σ0 ≤ lev σ → W p l e (rc_X11_writeCommand σ0 o) s m args below meth c H locs (lev σ - lev σ0) (200 * (lev σ - lev σ0)) (MQ below (cQ true D ca true A α0 σ0 (fun _ => none) o) args s (lev o - lev σ0) (200 * (lev o - lev σ0)) A) (F0 m 148 ls []) := by
  have hx := C.1
  have hb := C.2.1
  intro α σ H locs ls hM hl h hge
  unfold fc_X11_writeCommand_148 at h
  refine lv_goto (tgt := 159) hx hb dX11_writeCommand_148 (by decide) ?_
  exact gc_X11_writeCommand_159 C hr hlk h17  α _ _ _ _ hM (lv_sub hl [] rfl) h (show lev σ0 ≤ lev σ by omega)
def fc_X11_writeCommand_139 (σ : cS) (x1 : Option Nat) : Option (cS) :=
    (dr σ 8 x1).bind fun i_1 =>
    (fc_X11_writeWord σ (cI σ 8 i_1 2)).bind fun r_2 =>
    fc_X11_writeCommand_148 r_2
set_option maxHeartbeats 1000000 in
theorem lm_X11_writeCommand_139 {o : cS} : ∀ (σ : cS) (x1 : Option Nat) , fc_X11_writeCommand_139 σ x1 = some o → lev σ ≤ lev o := by
  intro σ x1 h
  unfold fc_X11_writeCommand_139 at h
  obtain ⟨i_1, hd_1, h⟩ := bd_of h
  obtain ⟨r_2, hr_2, h⟩ := bd_of h
  have hc_2 : lev σ ≤ lev r_2 := lx_X11_writeWord hr_2
  have hj := lm_X11_writeCommand_148  _ h
  omega
set_option maxHeartbeats 4000000 in
set_option maxRecDepth 100000 in
theorem gc_X11_writeCommand_139 {p : Program} {l : Launch} {e : Env} {s : State} {m : MethodId} {args : Array Value} {below : List Frame} {meth : Method} {c : Code} {D : va_G} {ca : Nat → ClassId} {A : Nat → Prop} {σ0 : cS} {α0 : cAl} {o : cS} (C : cC p s m args c cX11_writeCommand 2 RX11 D ca A α0) (hr : meth.sig.returnType = none) (hlk : meth.locks = false) (h17 : 0 < cn σ0 17) : ∀ (α : cAl) (σ : cS) (x1 : Option Nat) (H : Heap) (locs : List Loc) (ls : Array Slot), cM D ca true A s.heap σ0 α0 σ α H locs → lv_has ls 2 [(0, cr α 0 (some 0)), (1, cr α 8 x1)] → fc_X11_writeCommand_139 σ x1 = some o → lev σ0 ≤ lev σ → W p l e (rc_X11_writeCommand σ0 o) s m args below meth c H locs (lev σ - lev σ0) (200 * (lev σ - lev σ0)) (MQ below (cQ true D ca true A α0 σ0 (fun _ => none) o) args s (lev o - lev σ0) (200 * (lev o - lev σ0)) A) (F0 m 139 ls [cr α 11 (some 0)]) := by
  have hx := C.1
  have hb := C.2.1
  intro α σ x1 H locs ls hM hl h hge
  unfold fc_X11_writeCommand_139 at h
  refine lv_pop hx hb dX11_writeCommand_139 cr_cat ?_
  refine c_aload_n (t := 0) (x := (some 0)) hx hb dX11_writeCommand_140 rfl (lv_at hl 0 rfl) ?_
  refine c_aload_n (t := 8) (x := x1) hx hb dX11_writeCommand_141 rfl (lv_at hl 1 rfl) ?_
  obtain ⟨i_1, hd_1, h⟩ := bd_of h
  refine c_geti C hM (k := 8) (f := 2) hd_1 rfl fl_X11_612 dX11_writeCommand_142 ?_
  obtain ⟨r_2, hr_2, h⟩ := bd_of h
  have hc_2 : lev σ ≤ lev r_2 := lx_X11_writeWord hr_2
  refine c_go1 (c_rV (As := [.int (cI σ 8 i_1 2)]) (rest := []) C hM h17 (hM.cst 0 0 rfl) (by decide) (cc_X11_writeWord l D ca A α σ (cI σ 8 i_1 2) _ hr_2) cw_X11_644 ⟨rfl, rfl⟩ ⟨Nat.le_of_ble_eq_true rfl, Nat.le_of_ble_eq_true rfl⟩ rfl rfl (cats_le _ (Nat.le_of_ble_eq_true rfl)) hl.1 dX11_writeCommand_145 ⟨by show (lev σ - lev σ0) + (lev r_2 - lev σ) ≤ lev o - lev σ0; have hz := lm_X11_writeCommand_148  _ h; omega, by show 200 * (lev σ - lev σ0) + 200 * (lev r_2 - lev σ) ≤ 200 * (lev o - lev σ0); have hz := lm_X11_writeCommand_148  _ h; omega⟩) hM (fun H locs α_1 hX_2 hM => ?_)
  refine W.widen (k := lev r_2 - lev σ0) (n := 200 * (lev r_2 - lev σ0)) (by omega) (by omega) ?_
  have hl := lv_to (lv_sub hl [] rfl) (show ([] : List (Nat × Value)) = [] by rfl)
  refine W_st (st' := []) rfl ?_
  exact gc_X11_writeCommand_148 C hr hlk h17  α_1 _ _ _ _ hM (lv_sub hl [] rfl) h (show lev σ0 ≤ lev r_2 by omega)
def fc_X11_writeCommand_129 (σ : cS) (x1 : Option Nat) : Option (cS) :=
    if ¬ (lvq σ 8 x1 = true) then none else
    (fc_A_apps σ (some 16)).bind fun r_1 =>
    fc_X11_writeCommand_139 r_1 x1
set_option maxHeartbeats 1000000 in
theorem lm_X11_writeCommand_129 {o : cS} : ∀ (σ : cS) (x1 : Option Nat) , fc_X11_writeCommand_129 σ x1 = some o → lev σ ≤ lev o := by
  intro σ x1 h
  unfold fc_X11_writeCommand_129 at h
  obtain ⟨c_1, h⟩ := ko_of h
  obtain ⟨r_1, hr_1, h⟩ := bd_of h
  have hc_1 : lev σ ≤ lev r_1 := lx_A_apps hr_1
  have hj := lm_X11_writeCommand_139  _ _ h
  omega
set_option maxHeartbeats 4000000 in
set_option maxRecDepth 100000 in
theorem gc_X11_writeCommand_129 {p : Program} {l : Launch} {e : Env} {s : State} {m : MethodId} {args : Array Value} {below : List Frame} {meth : Method} {c : Code} {D : va_G} {ca : Nat → ClassId} {A : Nat → Prop} {σ0 : cS} {α0 : cAl} {o : cS} (C : cC p s m args c cX11_writeCommand 2 RX11 D ca A α0) (hr : meth.sig.returnType = none) (hlk : meth.locks = false) (h17 : 0 < cn σ0 17) : ∀ (α : cAl) (σ : cS) (x1 : Option Nat) (H : Heap) (locs : List Loc) (ls : Array Slot), cM D ca true A s.heap σ0 α0 σ α H locs → lv_has ls 2 [(0, cr α 0 (some 0)), (1, cr α 8 x1)] → fc_X11_writeCommand_129 σ x1 = some o → lev σ0 ≤ lev σ → W p l e (rc_X11_writeCommand σ0 o) s m args below meth c H locs (lev σ - lev σ0) (200 * (lev σ - lev σ0)) (MQ below (cQ true D ca true A α0 σ0 (fun _ => none) o) args s (lev o - lev σ0) (200 * (lev o - lev σ0)) A) (F0 m 129 ls []) := by
  have hx := C.1
  have hb := C.2.1
  intro α σ x1 H locs ls hM hl h hge
  unfold fc_X11_writeCommand_129 at h
  refine c_aload_n (t := 0) (x := (some 0)) hx hb dX11_writeCommand_129 rfl (lv_at hl 0 rfl) ?_
  refine c_getb C hM (k := 0) (f := 6) (j := 0) (t := 11) (hM.cst 0 0 rfl) (by decide) fl_X11_62 dX11_writeCommand_130 ?_
  refine c_ldct (t := 16) C hM (by decide) dX11_writeCommand_133 ?_
  have hlv_2 := c_lvc hM 0 0 rfl
  obtain ⟨c_1, h⟩ := ko_of h
  have hlv_3 := (Classical.not_not.mp c_1)
  obtain ⟨r_1, hr_1, h⟩ := bd_of h
  have hc_1 : lev σ ≤ lev r_1 := lx_A_apps hr_1
  refine c_go1 (c_rV (As := [cr α 19 (some 16)]) (rest := []) C hM h17 (hM.cst 11 0 rfl) (by decide) (cc_A_apps l D ca A α σ (some 16) _ hr_1) cw_X11_647 ⟨rfl, rfl⟩ ⟨Nat.le_of_ble_eq_true rfl, Nat.le_of_ble_eq_true rfl⟩ rfl rfl (cats_le _ (Nat.le_of_ble_eq_true rfl)) hl.1 dX11_writeCommand_136 ⟨by show (lev σ - lev σ0) + (lev r_1 - lev σ) ≤ lev o - lev σ0; have hz := lm_X11_writeCommand_139  _ _ h; omega, by show 200 * (lev σ - lev σ0) + 200 * (lev r_1 - lev σ) ≤ 200 * (lev o - lev σ0); have hz := lm_X11_writeCommand_139  _ _ h; omega⟩) hM (fun H locs α_1 hX_1 hM => ?_)
  refine W.widen (k := lev r_1 - lev σ0) (n := 200 * (lev r_1 - lev σ0)) (by omega) (by omega) ?_
  have e_2 : cr α 0 (some 0) = cr α_1 0 (some 0) := cr_to hX_1 hlv_2
  have e_3 : cr α 8 x1 = cr α_1 8 x1 := cr_to hX_1 hlv_3
  have hl := lv_to (lv_sub hl [0, 1] rfl) (show ([(0, cr α 0 (some 0)), (1, cr α 8 x1)] : List (Nat × Value)) = [(0, cr α_1 0 (some 0)), (1, cr α_1 8 x1)] by rw [e_2, e_3])
  refine W_st (st' := [cr α_1 11 (some 0)]) rfl ?_
  exact gc_X11_writeCommand_139 C hr hlk h17  α_1 _ _ _ _ _ hM (lv_sub hl [0, 1] rfl) h (show lev σ0 ≤ lev r_1 by omega)
def fc_X11_writeCommand_97 (σ : cS) : Option (cS) :=
    fc_X11_writeCommand_159 σ
set_option maxHeartbeats 1000000 in
theorem lm_X11_writeCommand_97 {o : cS} : ∀ (σ : cS) , fc_X11_writeCommand_97 σ = some o → lev σ ≤ lev o := by
  intro σ h
  unfold fc_X11_writeCommand_97 at h
  have hj := lm_X11_writeCommand_159  _ h
  omega
set_option maxHeartbeats 4000000 in
set_option maxRecDepth 100000 in
theorem gc_X11_writeCommand_97 {p : Program} {l : Launch} {e : Env} {s : State} {m : MethodId} {args : Array Value} {below : List Frame} {meth : Method} {c : Code} {D : va_G} {ca : Nat → ClassId} {A : Nat → Prop} {σ0 : cS} {α0 : cAl} {o : cS} (C : cC p s m args c cX11_writeCommand 2 RX11 D ca A α0) (hr : meth.sig.returnType = none) (hlk : meth.locks = false) (h17 : 0 < cn σ0 17) : ∀ (α : cAl) (σ : cS) (H : Heap) (locs : List Loc) (ls : Array Slot), cM D ca true A s.heap σ0 α0 σ α H locs → lv_has ls 2 [] → fc_X11_writeCommand_97 σ = some o → lev σ0 ≤ lev σ → W p l e (rc_X11_writeCommand σ0 o) s m args below meth c H locs (lev σ - lev σ0) (200 * (lev σ - lev σ0)) (MQ below (cQ true D ca true A α0 σ0 (fun _ => none) o) args s (lev o - lev σ0) (200 * (lev o - lev σ0)) A) (F0 m 97 ls [cr α 11 (some 0)]) := by
  have hx := C.1
  have hb := C.2.1
  intro α σ H locs ls hM hl h hge
  unfold fc_X11_writeCommand_97 at h
  refine lv_pop hx hb dX11_writeCommand_97 cr_cat ?_
  refine lv_goto (tgt := 159) hx hb dX11_writeCommand_98 (by decide) ?_
  exact gc_X11_writeCommand_159 C hr hlk h17  α _ _ _ _ hM (lv_sub hl [] rfl) h (show lev σ0 ≤ lev σ by omega)
def fc_X11_writeCommand_94 (σ : cS) (s0 : Int32) : Option (cS) :=
    (fc_A_appc σ s0).bind fun r_1 =>
    fc_X11_writeCommand_97 r_1
set_option maxHeartbeats 1000000 in
theorem lm_X11_writeCommand_94 {o : cS} : ∀ (σ : cS) (s0 : Int32) , fc_X11_writeCommand_94 σ s0 = some o → lev σ ≤ lev o := by
  intro σ s0 h
  unfold fc_X11_writeCommand_94 at h
  obtain ⟨r_1, hr_1, h⟩ := bd_of h
  have hc_1 : lev σ ≤ lev r_1 := lx_A_appc hr_1
  have hj := lm_X11_writeCommand_97  _ h
  omega
set_option maxHeartbeats 4000000 in
set_option maxRecDepth 100000 in
theorem gc_X11_writeCommand_94 {p : Program} {l : Launch} {e : Env} {s : State} {m : MethodId} {args : Array Value} {below : List Frame} {meth : Method} {c : Code} {D : va_G} {ca : Nat → ClassId} {A : Nat → Prop} {σ0 : cS} {α0 : cAl} {o : cS} (C : cC p s m args c cX11_writeCommand 2 RX11 D ca A α0) (hr : meth.sig.returnType = none) (hlk : meth.locks = false) (h17 : 0 < cn σ0 17) : ∀ (α : cAl) (σ : cS) (s0 : Int32) (H : Heap) (locs : List Loc) (ls : Array Slot), cM D ca true A s.heap σ0 α0 σ α H locs → lv_has ls 2 [] → fc_X11_writeCommand_94 σ s0 = some o → lev σ0 ≤ lev σ → W p l e (rc_X11_writeCommand σ0 o) s m args below meth c H locs (lev σ - lev σ0) (200 * (lev σ - lev σ0)) (MQ below (cQ true D ca true A α0 σ0 (fun _ => none) o) args s (lev o - lev σ0) (200 * (lev o - lev σ0)) A) (F0 m 94 ls [.int s0, cr α 11 (some 0)]) := by
  have hx := C.1
  have hb := C.2.1
  intro α σ s0 H locs ls hM hl h hge
  unfold fc_X11_writeCommand_94 at h
  obtain ⟨r_1, hr_1, h⟩ := bd_of h
  have hc_1 : lev σ ≤ lev r_1 := lx_A_appc hr_1
  refine c_go1 (c_rV (As := [.int s0]) (rest := []) C hM h17 (hM.cst 11 0 rfl) (by decide) (cc_A_appc l D ca A α σ s0 _ hr_1) cw_X11_640 ⟨rfl, rfl⟩ ⟨Nat.le_of_ble_eq_true rfl, Nat.le_of_ble_eq_true rfl⟩ rfl rfl (cats_le _ (Nat.le_of_ble_eq_true rfl)) hl.1 dX11_writeCommand_94 ⟨by show (lev σ - lev σ0) + (lev r_1 - lev σ) ≤ lev o - lev σ0; have hz := lm_X11_writeCommand_97  _ h; omega, by show 200 * (lev σ - lev σ0) + 200 * (lev r_1 - lev σ) ≤ 200 * (lev o - lev σ0); have hz := lm_X11_writeCommand_97  _ h; omega⟩) hM (fun H locs α_1 hX_1 hM => ?_)
  refine W.widen (k := lev r_1 - lev σ0) (n := 200 * (lev r_1 - lev σ0)) (by omega) (by omega) ?_
  refine W_st (st' := [cr α_1 11 (some 0)]) rfl ?_
  exact gc_X11_writeCommand_97 C hr hlk h17  α_1 _ _ _ _ hM (lv_sub hl [] rfl) h (show lev σ0 ≤ lev r_1 by omega)
def fc_X11_writeCommand_84 (σ : cS) (x1 : Option Nat) : Option (cS) :=
    (dr σ 8 x1).bind fun i_1 =>
    (fc_J0_charAt_5068e σ (some 14) (cI σ 8 i_1 1)).bind fun r_2 =>
    fc_X11_writeCommand_94 r_2.2 r_2.1
set_option maxHeartbeats 1000000 in
theorem lm_X11_writeCommand_84 {o : cS} : ∀ (σ : cS) (x1 : Option Nat) , fc_X11_writeCommand_84 σ x1 = some o → lev σ ≤ lev o := by
  intro σ x1 h
  unfold fc_X11_writeCommand_84 at h
  obtain ⟨i_1, hd_1, h⟩ := bd_of h
  obtain ⟨r_2, hr_2, h⟩ := bd_of h
  have hs_2 : lev r_2.2 = lev σ := lx_J0_charAt_5068e hr_2
  have hj := lm_X11_writeCommand_94  _ _ h
  omega
set_option maxHeartbeats 4000000 in
set_option maxRecDepth 100000 in
theorem gc_X11_writeCommand_84 {p : Program} {l : Launch} {e : Env} {s : State} {m : MethodId} {args : Array Value} {below : List Frame} {meth : Method} {c : Code} {D : va_G} {ca : Nat → ClassId} {A : Nat → Prop} {σ0 : cS} {α0 : cAl} {o : cS} (C : cC p s m args c cX11_writeCommand 2 RX11 D ca A α0) (hr : meth.sig.returnType = none) (hlk : meth.locks = false) (h17 : 0 < cn σ0 17) : ∀ (α : cAl) (σ : cS) (x1 : Option Nat) (H : Heap) (locs : List Loc) (ls : Array Slot), cM D ca true A s.heap σ0 α0 σ α H locs → lv_has ls 2 [(1, cr α 8 x1)] → fc_X11_writeCommand_84 σ x1 = some o → lev σ0 ≤ lev σ → W p l e (rc_X11_writeCommand σ0 o) s m args below meth c H locs (lev σ - lev σ0) (200 * (lev σ - lev σ0)) (MQ below (cQ true D ca true A α0 σ0 (fun _ => none) o) args s (lev o - lev σ0) (200 * (lev o - lev σ0)) A) (F0 m 84 ls [cr α 11 (some 0)]) := by
  have hx := C.1
  have hb := C.2.1
  intro α σ x1 H locs ls hM hl h hge
  unfold fc_X11_writeCommand_84 at h
  refine c_ldct (t := 14) C hM (by decide) dX11_writeCommand_84 ?_
  refine c_aload_n (t := 8) (x := x1) hx hb dX11_writeCommand_87 rfl (lv_at hl 0 rfl) ?_
  obtain ⟨i_1, hd_1, h⟩ := bd_of h
  refine c_geti C hM (k := 8) (f := 1) hd_1 rfl fl_X11_609 dX11_writeCommand_88 ?_
  obtain ⟨r_2, hr_2, h⟩ := bd_of h
  have hs_2 : lev r_2.2 = lev σ := lx_J0_charAt_5068e hr_2
  refine c_go0 (c_rT (As := [.int (cI σ 8 i_1 1)]) (rest := [cr α 11 (some 0)]) C hM h17 (show dt (some 14) = some 14 from rfl) (cc_J0_charAt_5068e l D ca A α σ (some 14) (cI σ 8 i_1 1) _ hr_2) cw_X11_650 ⟨rfl, rfl⟩ ⟨Nat.le_of_ble_eq_true rfl, Nat.le_of_ble_eq_true rfl⟩ rfl rfl (cats_le _ (Nat.le_of_ble_eq_true rfl)) hl.1 dX11_writeCommand_91 ⟨by show (lev σ - lev σ0) + 0 ≤ lev o - lev σ0; have hz := lm_X11_writeCommand_94  _ _ h; omega, by show 200 * (lev σ - lev σ0) + 0 ≤ 200 * (lev o - lev σ0); have hz := lm_X11_writeCommand_94  _ _ h; omega⟩) hM (fun H locs hM => ?_)
  refine W.widen (k := lev r_2.2 - lev σ0) (n := 200 * (lev r_2.2 - lev σ0)) (by omega) (by omega) ?_
  refine W_st (st' := [.int r_2.1, cr α 11 (some 0)]) rfl ?_
  exact gc_X11_writeCommand_94 C hr hlk h17  α _ _ _ _ _ hM (lv_sub hl [] rfl) h (show lev σ0 ≤ lev r_2.2 by omega)
def fc_X11_writeCommand_117 (σ : cS) : Option (cS) :=
    fc_X11_writeCommand_159 σ
set_option maxHeartbeats 1000000 in
theorem lm_X11_writeCommand_117 {o : cS} : ∀ (σ : cS) , fc_X11_writeCommand_117 σ = some o → lev σ ≤ lev o := by
  intro σ h
  unfold fc_X11_writeCommand_117 at h
  have hj := lm_X11_writeCommand_159  _ h
  omega
set_option maxHeartbeats 4000000 in
set_option maxRecDepth 100000 in
theorem gc_X11_writeCommand_117 {p : Program} {l : Launch} {e : Env} {s : State} {m : MethodId} {args : Array Value} {below : List Frame} {meth : Method} {c : Code} {D : va_G} {ca : Nat → ClassId} {A : Nat → Prop} {σ0 : cS} {α0 : cAl} {o : cS} (C : cC p s m args c cX11_writeCommand 2 RX11 D ca A α0) (hr : meth.sig.returnType = none) (hlk : meth.locks = false) (h17 : 0 < cn σ0 17) : ∀ (α : cAl) (σ : cS) (H : Heap) (locs : List Loc) (ls : Array Slot), cM D ca true A s.heap σ0 α0 σ α H locs → lv_has ls 2 [] → fc_X11_writeCommand_117 σ = some o → lev σ0 ≤ lev σ → W p l e (rc_X11_writeCommand σ0 o) s m args below meth c H locs (lev σ - lev σ0) (200 * (lev σ - lev σ0)) (MQ below (cQ true D ca true A α0 σ0 (fun _ => none) o) args s (lev o - lev σ0) (200 * (lev o - lev σ0)) A) (F0 m 117 ls [cr α 11 (some 0)]) := by
  have hx := C.1
  have hb := C.2.1
  intro α σ H locs ls hM hl h hge
  unfold fc_X11_writeCommand_117 at h
  refine lv_pop hx hb dX11_writeCommand_117 cr_cat ?_
  refine lv_goto (tgt := 159) hx hb dX11_writeCommand_118 (by decide) ?_
  exact gc_X11_writeCommand_159 C hr hlk h17  α _ _ _ _ hM (lv_sub hl [] rfl) h (show lev σ0 ≤ lev σ by omega)
def fc_X11_writeCommand_110 (σ : cS) (x1 : Option Nat) : Option (cS) :=
    (dr σ 8 x1).bind fun i_1 =>
    (fc_A_appi σ (cI σ 8 i_1 1)).bind fun r_2 =>
    fc_X11_writeCommand_117 r_2
set_option maxHeartbeats 1000000 in
theorem lm_X11_writeCommand_110 {o : cS} : ∀ (σ : cS) (x1 : Option Nat) , fc_X11_writeCommand_110 σ x1 = some o → lev σ ≤ lev o := by
  intro σ x1 h
  unfold fc_X11_writeCommand_110 at h
  obtain ⟨i_1, hd_1, h⟩ := bd_of h
  obtain ⟨r_2, hr_2, h⟩ := bd_of h
  have hc_2 : lev σ ≤ lev r_2 := lx_A_appi hr_2
  have hj := lm_X11_writeCommand_117  _ h
  omega
set_option maxHeartbeats 4000000 in
set_option maxRecDepth 100000 in
theorem gc_X11_writeCommand_110 {p : Program} {l : Launch} {e : Env} {s : State} {m : MethodId} {args : Array Value} {below : List Frame} {meth : Method} {c : Code} {D : va_G} {ca : Nat → ClassId} {A : Nat → Prop} {σ0 : cS} {α0 : cAl} {o : cS} (C : cC p s m args c cX11_writeCommand 2 RX11 D ca A α0) (hr : meth.sig.returnType = none) (hlk : meth.locks = false) (h17 : 0 < cn σ0 17) : ∀ (α : cAl) (σ : cS) (x1 : Option Nat) (H : Heap) (locs : List Loc) (ls : Array Slot), cM D ca true A s.heap σ0 α0 σ α H locs → lv_has ls 2 [(1, cr α 8 x1)] → fc_X11_writeCommand_110 σ x1 = some o → lev σ0 ≤ lev σ → W p l e (rc_X11_writeCommand σ0 o) s m args below meth c H locs (lev σ - lev σ0) (200 * (lev σ - lev σ0)) (MQ below (cQ true D ca true A α0 σ0 (fun _ => none) o) args s (lev o - lev σ0) (200 * (lev o - lev σ0)) A) (F0 m 110 ls [cr α 11 (some 0)]) := by
  have hx := C.1
  have hb := C.2.1
  intro α σ x1 H locs ls hM hl h hge
  unfold fc_X11_writeCommand_110 at h
  refine c_aload_n (t := 8) (x := x1) hx hb dX11_writeCommand_110 rfl (lv_at hl 0 rfl) ?_
  obtain ⟨i_1, hd_1, h⟩ := bd_of h
  refine c_geti C hM (k := 8) (f := 1) hd_1 rfl fl_X11_609 dX11_writeCommand_111 ?_
  obtain ⟨r_2, hr_2, h⟩ := bd_of h
  have hc_2 : lev σ ≤ lev r_2 := lx_A_appi hr_2
  refine c_go1 (c_rV (As := [.int (cI σ 8 i_1 1)]) (rest := []) C hM h17 (hM.cst 11 0 rfl) (by decide) (cc_A_appi l D ca A α σ (cI σ 8 i_1 1) _ hr_2) cw_X11_651 ⟨rfl, rfl⟩ ⟨Nat.le_of_ble_eq_true rfl, Nat.le_of_ble_eq_true rfl⟩ rfl rfl (cats_le _ (Nat.le_of_ble_eq_true rfl)) hl.1 dX11_writeCommand_114 ⟨by show (lev σ - lev σ0) + (lev r_2 - lev σ) ≤ lev o - lev σ0; have hz := lm_X11_writeCommand_117  _ h; omega, by show 200 * (lev σ - lev σ0) + 200 * (lev r_2 - lev σ) ≤ 200 * (lev o - lev σ0); have hz := lm_X11_writeCommand_117  _ h; omega⟩) hM (fun H locs α_1 hX_2 hM => ?_)
  refine W.widen (k := lev r_2 - lev σ0) (n := 200 * (lev r_2 - lev σ0)) (by omega) (by omega) ?_
  have hl := lv_to (lv_sub hl [] rfl) (show ([] : List (Nat × Value)) = [] by rfl)
  refine W_st (st' := [cr α_1 11 (some 0)]) rfl ?_
  exact gc_X11_writeCommand_117 C hr hlk h17  α_1 _ _ _ _ hM (lv_sub hl [] rfl) h (show lev σ0 ≤ lev r_2 by omega)
def fc_X11_writeCommand_25 (σ : cS) (x1 : Option Nat) (s0 : Int32) : Option (cS) :=
    if ¬ (¬ (s0 < 0 ∨ 15 ≤ s0.toNatClampNeg)) then none else
    if (vM.getD s0.toNatClampNeg 0) = (8 : Int32) then
      if ¬ (lvq σ 8 x1 = true) then none else
      (fc_A_appc σ (32 : Int32)).bind fun r_1 =>
      fc_X11_writeCommand_110 r_1 x1
    else
    if (vM.getD s0.toNatClampNeg 0) = (9 : Int32) then
      if ¬ (lvq σ 8 x1 = true) then none else
      (fc_A_appc σ (32 : Int32)).bind fun r_3 =>
      fc_X11_writeCommand_110 r_3 x1
    else
    if (vM.getD s0.toNatClampNeg 0) = (10 : Int32) then
      fc_X11_writeCommand_159 σ
    else
    if (vM.getD s0.toNatClampNeg 0) = (11 : Int32) then
      fc_X11_writeCommand_159 σ
    else
    if (vM.getD s0.toNatClampNeg 0) = (12 : Int32) then
      fc_X11_writeCommand_159 σ
    else
    if (vM.getD s0.toNatClampNeg 0) = (13 : Int32) then
      if ¬ (lvq σ 8 x1 = true) then none else
      (fc_A_appc σ (32 : Int32)).bind fun r_5 =>
      fc_X11_writeCommand_84 r_5 x1
    else
    if (vM.getD s0.toNatClampNeg 0) = (14 : Int32) then
      if ¬ (lvq σ 8 x1 = true) then none else
      (fc_A_appc σ (32 : Int32)).bind fun r_7 =>
      fc_X11_writeCommand_110 r_7 x1
    else
    if (vM.getD s0.toNatClampNeg 0) = (15 : Int32) then
      (dr σ 8 x1).bind fun i_9 =>
      if ¬ (lvq σ 8 x1 = true) then none else
      (fc_X11_writeWord σ (cI σ 8 i_9 1)).bind fun r_10 =>
      fc_X11_writeCommand_129 r_10 x1
    else
      (dr σ 8 x1).bind fun i_13 =>
      (fc_X11_writeWord σ (cI σ 8 i_13 1)).bind fun r_14 =>
      fc_X11_writeCommand_159 r_14
set_option maxHeartbeats 1000000 in
theorem lm_X11_writeCommand_25 {o : cS} : ∀ (σ : cS) (x1 : Option Nat) (s0 : Int32) , fc_X11_writeCommand_25 σ x1 s0 = some o → lev σ ≤ lev o := by
  intro σ x1 s0 h
  unfold fc_X11_writeCommand_25 at h
  obtain ⟨c_1, h⟩ := ko_of h
  by_cases c_2 : (vM.getD s0.toNatClampNeg 0) = (8 : Int32)
  · have h := br_T c_2 h
    obtain ⟨c_3, h⟩ := ko_of h
    obtain ⟨r_1, hr_1, h⟩ := bd_of h
    have hc_1 : lev σ ≤ lev r_1 := lx_A_appc hr_1
    have hj := lm_X11_writeCommand_110  _ _ h
    omega
  · have h := br_F c_2 h
    by_cases c_4 : (vM.getD s0.toNatClampNeg 0) = (9 : Int32)
    · have h := br_T c_4 h
      obtain ⟨c_5, h⟩ := ko_of h
      obtain ⟨r_3, hr_3, h⟩ := bd_of h
      have hc_3 : lev σ ≤ lev r_3 := lx_A_appc hr_3
      have hj := lm_X11_writeCommand_110  _ _ h
      omega
    · have h := br_F c_4 h
      by_cases c_6 : (vM.getD s0.toNatClampNeg 0) = (10 : Int32)
      · have h := br_T c_6 h
        have hj := lm_X11_writeCommand_159  _ h
        omega
      · have h := br_F c_6 h
        by_cases c_7 : (vM.getD s0.toNatClampNeg 0) = (11 : Int32)
        · have h := br_T c_7 h
          have hj := lm_X11_writeCommand_159  _ h
          omega
        · have h := br_F c_7 h
          by_cases c_8 : (vM.getD s0.toNatClampNeg 0) = (12 : Int32)
          · have h := br_T c_8 h
            have hj := lm_X11_writeCommand_159  _ h
            omega
          · have h := br_F c_8 h
            by_cases c_9 : (vM.getD s0.toNatClampNeg 0) = (13 : Int32)
            · have h := br_T c_9 h
              obtain ⟨c_10, h⟩ := ko_of h
              obtain ⟨r_5, hr_5, h⟩ := bd_of h
              have hc_5 : lev σ ≤ lev r_5 := lx_A_appc hr_5
              have hj := lm_X11_writeCommand_84  _ _ h
              omega
            · have h := br_F c_9 h
              by_cases c_11 : (vM.getD s0.toNatClampNeg 0) = (14 : Int32)
              · have h := br_T c_11 h
                obtain ⟨c_12, h⟩ := ko_of h
                obtain ⟨r_7, hr_7, h⟩ := bd_of h
                have hc_7 : lev σ ≤ lev r_7 := lx_A_appc hr_7
                have hj := lm_X11_writeCommand_110  _ _ h
                omega
              · have h := br_F c_11 h
                by_cases c_13 : (vM.getD s0.toNatClampNeg 0) = (15 : Int32)
                · have h := br_T c_13 h
                  obtain ⟨i_9, hd_9, h⟩ := bd_of h
                  obtain ⟨c_14, h⟩ := ko_of h
                  obtain ⟨r_10, hr_10, h⟩ := bd_of h
                  have hc_10 : lev σ ≤ lev r_10 := lx_X11_writeWord hr_10
                  have hj := lm_X11_writeCommand_129  _ _ h
                  omega
                · have h := br_F c_13 h
                  obtain ⟨i_13, hd_13, h⟩ := bd_of h
                  obtain ⟨r_14, hr_14, h⟩ := bd_of h
                  have hc_14 : lev σ ≤ lev r_14 := lx_X11_writeWord hr_14
                  have hj := lm_X11_writeCommand_159  _ h
                  omega
set_option maxHeartbeats 4000000 in
set_option maxRecDepth 100000 in
theorem gc_X11_writeCommand_25 {p : Program} {l : Launch} {e : Env} {s : State} {m : MethodId} {args : Array Value} {below : List Frame} {meth : Method} {c : Code} {D : va_G} {ca : Nat → ClassId} {A : Nat → Prop} {σ0 : cS} {α0 : cAl} {o : cS} (C : cC p s m args c cX11_writeCommand 2 RX11 D ca A α0) (hr : meth.sig.returnType = none) (hlk : meth.locks = false) (h17 : 0 < cn σ0 17) : ∀ (α : cAl) (σ : cS) (x1 : Option Nat) (s0 : Int32) (H : Heap) (locs : List Loc) (ls : Array Slot), cM D ca true A s.heap σ0 α0 σ α H locs → lv_has ls 2 [(0, cr α 0 (some 0)), (1, cr α 8 x1)] → fc_X11_writeCommand_25 σ x1 s0 = some o → lev σ0 ≤ lev σ → W p l e (rc_X11_writeCommand σ0 o) s m args below meth c H locs (lev σ - lev σ0) (200 * (lev σ - lev σ0)) (MQ below (cQ true D ca true A α0 σ0 (fun _ => none) o) args s (lev o - lev σ0) (200 * (lev o - lev σ0)) A) (F0 m 25 ls [.int s0, cr α 20 (some 1)]) := by
  have hx := C.1
  have hb := C.2.1
  intro α σ x1 s0 H locs ls hM hl h hge
  unfold fc_X11_writeCommand_25 at h
  obtain ⟨c_1, h⟩ := ko_of h
  refine c_SMat C hM (Classical.not_not.mp c_1) dX11_writeCommand_25 ?_
  by_cases c_2 : (vM.getD s0.toNatClampNeg 0) = (8 : Int32)
  · have h := br_T c_2 h
    refine xr_int c_2 ?_
    refine lv_tableIn (tgt := 101) hx hb dX11_writeCommand_26 (by decide) (by decide) rfl (by decide) ?_
    refine c_aload_n (t := 0) (x := (some 0)) hx hb dX11_writeCommand_101 rfl (lv_at hl 0 rfl) ?_
    refine c_getb C hM (k := 0) (f := 6) (j := 0) (t := 11) (hM.cst 0 0 rfl) (by decide) fl_X11_62 dX11_writeCommand_102 ?_
    refine lv_bipush (v := (32 : Int32)) hx hb dX11_writeCommand_105 (by decide) ?_
    obtain ⟨c_3, h⟩ := ko_of h
    have hlv_2 := (Classical.not_not.mp c_3)
    obtain ⟨r_1, hr_1, h⟩ := bd_of h
    have hc_1 : lev σ ≤ lev r_1 := lx_A_appc hr_1
    refine c_go1 (c_rV (As := [.int (32 : Int32)]) (rest := []) C hM h17 (hM.cst 11 0 rfl) (by decide) (cc_A_appc l D ca A α σ (32 : Int32) _ hr_1) cw_X11_640 ⟨rfl, rfl⟩ ⟨Nat.le_of_ble_eq_true rfl, Nat.le_of_ble_eq_true rfl⟩ rfl rfl (cats_le _ (Nat.le_of_ble_eq_true rfl)) hl.1 dX11_writeCommand_107 ⟨by show (lev σ - lev σ0) + (lev r_1 - lev σ) ≤ lev o - lev σ0; have hz := lm_X11_writeCommand_110  _ _ h; omega, by show 200 * (lev σ - lev σ0) + 200 * (lev r_1 - lev σ) ≤ 200 * (lev o - lev σ0); have hz := lm_X11_writeCommand_110  _ _ h; omega⟩) hM (fun H locs α_1 hX_1 hM => ?_)
    refine W.widen (k := lev r_1 - lev σ0) (n := 200 * (lev r_1 - lev σ0)) (by omega) (by omega) ?_
    have e_2 : cr α 8 x1 = cr α_1 8 x1 := cr_to hX_1 hlv_2
    have hl := lv_to (lv_sub hl [1] rfl) (show ([(1, cr α 8 x1)] : List (Nat × Value)) = [(1, cr α_1 8 x1)] by rw [e_2])
    refine W_st (st' := [cr α_1 11 (some 0)]) rfl ?_
    exact gc_X11_writeCommand_110 C hr hlk h17  α_1 _ _ _ _ _ hM (lv_sub hl [0] rfl) h (show lev σ0 ≤ lev r_1 by omega)
  · have h := br_F c_2 h
    by_cases c_4 : (vM.getD s0.toNatClampNeg 0) = (9 : Int32)
    · have h := br_T c_4 h
      refine xr_int c_4 ?_
      refine lv_tableIn (tgt := 101) hx hb dX11_writeCommand_26 (by decide) (by decide) rfl (by decide) ?_
      refine c_aload_n (t := 0) (x := (some 0)) hx hb dX11_writeCommand_101 rfl (lv_at hl 0 rfl) ?_
      refine c_getb C hM (k := 0) (f := 6) (j := 0) (t := 11) (hM.cst 0 0 rfl) (by decide) fl_X11_62 dX11_writeCommand_102 ?_
      refine lv_bipush (v := (32 : Int32)) hx hb dX11_writeCommand_105 (by decide) ?_
      obtain ⟨c_5, h⟩ := ko_of h
      have hlv_4 := (Classical.not_not.mp c_5)
      obtain ⟨r_3, hr_3, h⟩ := bd_of h
      have hc_3 : lev σ ≤ lev r_3 := lx_A_appc hr_3
      refine c_go1 (c_rV (As := [.int (32 : Int32)]) (rest := []) C hM h17 (hM.cst 11 0 rfl) (by decide) (cc_A_appc l D ca A α σ (32 : Int32) _ hr_3) cw_X11_640 ⟨rfl, rfl⟩ ⟨Nat.le_of_ble_eq_true rfl, Nat.le_of_ble_eq_true rfl⟩ rfl rfl (cats_le _ (Nat.le_of_ble_eq_true rfl)) hl.1 dX11_writeCommand_107 ⟨by show (lev σ - lev σ0) + (lev r_3 - lev σ) ≤ lev o - lev σ0; have hz := lm_X11_writeCommand_110  _ _ h; omega, by show 200 * (lev σ - lev σ0) + 200 * (lev r_3 - lev σ) ≤ 200 * (lev o - lev σ0); have hz := lm_X11_writeCommand_110  _ _ h; omega⟩) hM (fun H locs α_2 hX_3 hM => ?_)
      refine W.widen (k := lev r_3 - lev σ0) (n := 200 * (lev r_3 - lev σ0)) (by omega) (by omega) ?_
      have e_4 : cr α 8 x1 = cr α_2 8 x1 := cr_to hX_3 hlv_4
      have hl := lv_to (lv_sub hl [1] rfl) (show ([(1, cr α 8 x1)] : List (Nat × Value)) = [(1, cr α_2 8 x1)] by rw [e_4])
      refine W_st (st' := [cr α_2 11 (some 0)]) rfl ?_
      exact gc_X11_writeCommand_110 C hr hlk h17  α_2 _ _ _ _ _ hM (lv_sub hl [0] rfl) h (show lev σ0 ≤ lev r_3 by omega)
    · have h := br_F c_4 h
      by_cases c_6 : (vM.getD s0.toNatClampNeg 0) = (10 : Int32)
      · have h := br_T c_6 h
        refine xr_int c_6 ?_
        refine lv_tableIn (tgt := 72) hx hb dX11_writeCommand_26 (by decide) (by decide) rfl (by decide) ?_
        refine lv_goto (tgt := 159) hx hb dX11_writeCommand_72 (by decide) ?_
        exact gc_X11_writeCommand_159 C hr hlk h17  α _ _ _ _ hM (lv_sub hl [] rfl) h (show lev σ0 ≤ lev σ by omega)
      · have h := br_F c_6 h
        by_cases c_7 : (vM.getD s0.toNatClampNeg 0) = (11 : Int32)
        · have h := br_T c_7 h
          refine xr_int c_7 ?_
          refine lv_tableIn (tgt := 72) hx hb dX11_writeCommand_26 (by decide) (by decide) rfl (by decide) ?_
          refine lv_goto (tgt := 159) hx hb dX11_writeCommand_72 (by decide) ?_
          exact gc_X11_writeCommand_159 C hr hlk h17  α _ _ _ _ hM (lv_sub hl [] rfl) h (show lev σ0 ≤ lev σ by omega)
        · have h := br_F c_7 h
          by_cases c_8 : (vM.getD s0.toNatClampNeg 0) = (12 : Int32)
          · have h := br_T c_8 h
            refine xr_int c_8 ?_
            refine lv_tableIn (tgt := 72) hx hb dX11_writeCommand_26 (by decide) (by decide) rfl (by decide) ?_
            refine lv_goto (tgt := 159) hx hb dX11_writeCommand_72 (by decide) ?_
            exact gc_X11_writeCommand_159 C hr hlk h17  α _ _ _ _ hM (lv_sub hl [] rfl) h (show lev σ0 ≤ lev σ by omega)
          · have h := br_F c_8 h
            by_cases c_9 : (vM.getD s0.toNatClampNeg 0) = (13 : Int32)
            · have h := br_T c_9 h
              refine xr_int c_9 ?_
              refine lv_tableIn (tgt := 75) hx hb dX11_writeCommand_26 (by decide) (by decide) rfl (by decide) ?_
              refine c_aload_n (t := 0) (x := (some 0)) hx hb dX11_writeCommand_75 rfl (lv_at hl 0 rfl) ?_
              refine c_getb C hM (k := 0) (f := 6) (j := 0) (t := 11) (hM.cst 0 0 rfl) (by decide) fl_X11_62 dX11_writeCommand_76 ?_
              refine lv_bipush (v := (32 : Int32)) hx hb dX11_writeCommand_79 (by decide) ?_
              obtain ⟨c_10, h⟩ := ko_of h
              have hlv_6 := (Classical.not_not.mp c_10)
              obtain ⟨r_5, hr_5, h⟩ := bd_of h
              have hc_5 : lev σ ≤ lev r_5 := lx_A_appc hr_5
              refine c_go1 (c_rV (As := [.int (32 : Int32)]) (rest := []) C hM h17 (hM.cst 11 0 rfl) (by decide) (cc_A_appc l D ca A α σ (32 : Int32) _ hr_5) cw_X11_640 ⟨rfl, rfl⟩ ⟨Nat.le_of_ble_eq_true rfl, Nat.le_of_ble_eq_true rfl⟩ rfl rfl (cats_le _ (Nat.le_of_ble_eq_true rfl)) hl.1 dX11_writeCommand_81 ⟨by show (lev σ - lev σ0) + (lev r_5 - lev σ) ≤ lev o - lev σ0; have hz := lm_X11_writeCommand_84  _ _ h; omega, by show 200 * (lev σ - lev σ0) + 200 * (lev r_5 - lev σ) ≤ 200 * (lev o - lev σ0); have hz := lm_X11_writeCommand_84  _ _ h; omega⟩) hM (fun H locs α_3 hX_5 hM => ?_)
              refine W.widen (k := lev r_5 - lev σ0) (n := 200 * (lev r_5 - lev σ0)) (by omega) (by omega) ?_
              have e_6 : cr α 8 x1 = cr α_3 8 x1 := cr_to hX_5 hlv_6
              have hl := lv_to (lv_sub hl [1] rfl) (show ([(1, cr α 8 x1)] : List (Nat × Value)) = [(1, cr α_3 8 x1)] by rw [e_6])
              refine W_st (st' := [cr α_3 11 (some 0)]) rfl ?_
              exact gc_X11_writeCommand_84 C hr hlk h17  α_3 _ _ _ _ _ hM (lv_sub hl [0] rfl) h (show lev σ0 ≤ lev r_5 by omega)
            · have h := br_F c_9 h
              by_cases c_11 : (vM.getD s0.toNatClampNeg 0) = (14 : Int32)
              · have h := br_T c_11 h
                refine xr_int c_11 ?_
                refine lv_tableIn (tgt := 101) hx hb dX11_writeCommand_26 (by decide) (by decide) rfl (by decide) ?_
                refine c_aload_n (t := 0) (x := (some 0)) hx hb dX11_writeCommand_101 rfl (lv_at hl 0 rfl) ?_
                refine c_getb C hM (k := 0) (f := 6) (j := 0) (t := 11) (hM.cst 0 0 rfl) (by decide) fl_X11_62 dX11_writeCommand_102 ?_
                refine lv_bipush (v := (32 : Int32)) hx hb dX11_writeCommand_105 (by decide) ?_
                obtain ⟨c_12, h⟩ := ko_of h
                have hlv_8 := (Classical.not_not.mp c_12)
                obtain ⟨r_7, hr_7, h⟩ := bd_of h
                have hc_7 : lev σ ≤ lev r_7 := lx_A_appc hr_7
                refine c_go1 (c_rV (As := [.int (32 : Int32)]) (rest := []) C hM h17 (hM.cst 11 0 rfl) (by decide) (cc_A_appc l D ca A α σ (32 : Int32) _ hr_7) cw_X11_640 ⟨rfl, rfl⟩ ⟨Nat.le_of_ble_eq_true rfl, Nat.le_of_ble_eq_true rfl⟩ rfl rfl (cats_le _ (Nat.le_of_ble_eq_true rfl)) hl.1 dX11_writeCommand_107 ⟨by show (lev σ - lev σ0) + (lev r_7 - lev σ) ≤ lev o - lev σ0; have hz := lm_X11_writeCommand_110  _ _ h; omega, by show 200 * (lev σ - lev σ0) + 200 * (lev r_7 - lev σ) ≤ 200 * (lev o - lev σ0); have hz := lm_X11_writeCommand_110  _ _ h; omega⟩) hM (fun H locs α_4 hX_7 hM => ?_)
                refine W.widen (k := lev r_7 - lev σ0) (n := 200 * (lev r_7 - lev σ0)) (by omega) (by omega) ?_
                have e_8 : cr α 8 x1 = cr α_4 8 x1 := cr_to hX_7 hlv_8
                have hl := lv_to (lv_sub hl [1] rfl) (show ([(1, cr α 8 x1)] : List (Nat × Value)) = [(1, cr α_4 8 x1)] by rw [e_8])
                refine W_st (st' := [cr α_4 11 (some 0)]) rfl ?_
                exact gc_X11_writeCommand_110 C hr hlk h17  α_4 _ _ _ _ _ hM (lv_sub hl [0] rfl) h (show lev σ0 ≤ lev r_7 by omega)
              · have h := br_F c_11 h
                by_cases c_13 : (vM.getD s0.toNatClampNeg 0) = (15 : Int32)
                · have h := br_T c_13 h
                  refine xr_int c_13 ?_
                  refine lv_tableIn (tgt := 121) hx hb dX11_writeCommand_26 (by decide) (by decide) rfl (by decide) ?_
                  refine c_aload_n (t := 0) (x := (some 0)) hx hb dX11_writeCommand_121 rfl (lv_at hl 0 rfl) ?_
                  refine c_aload_n (t := 8) (x := x1) hx hb dX11_writeCommand_122 rfl (lv_at hl 1 rfl) ?_
                  obtain ⟨i_9, hd_9, h⟩ := bd_of h
                  refine c_geti C hM (k := 8) (f := 1) hd_9 rfl fl_X11_609 dX11_writeCommand_123 ?_
                  have hlv_11 := c_lvc hM 0 0 rfl
                  obtain ⟨c_14, h⟩ := ko_of h
                  have hlv_12 := (Classical.not_not.mp c_14)
                  obtain ⟨r_10, hr_10, h⟩ := bd_of h
                  have hc_10 : lev σ ≤ lev r_10 := lx_X11_writeWord hr_10
                  refine c_go1 (c_rV (As := [.int (cI σ 8 i_9 1)]) (rest := []) C hM h17 (hM.cst 0 0 rfl) (by decide) (cc_X11_writeWord l D ca A α σ (cI σ 8 i_9 1) _ hr_10) cw_X11_644 ⟨rfl, rfl⟩ ⟨Nat.le_of_ble_eq_true rfl, Nat.le_of_ble_eq_true rfl⟩ rfl rfl (cats_le _ (Nat.le_of_ble_eq_true rfl)) hl.1 dX11_writeCommand_126 ⟨by show (lev σ - lev σ0) + (lev r_10 - lev σ) ≤ lev o - lev σ0; have hz := lm_X11_writeCommand_129  _ _ h; omega, by show 200 * (lev σ - lev σ0) + 200 * (lev r_10 - lev σ) ≤ 200 * (lev o - lev σ0); have hz := lm_X11_writeCommand_129  _ _ h; omega⟩) hM (fun H locs α_5 hX_10 hM => ?_)
                  refine W.widen (k := lev r_10 - lev σ0) (n := 200 * (lev r_10 - lev σ0)) (by omega) (by omega) ?_
                  have e_11 : cr α 0 (some 0) = cr α_5 0 (some 0) := cr_to hX_10 hlv_11
                  have e_12 : cr α 8 x1 = cr α_5 8 x1 := cr_to hX_10 hlv_12
                  have hl := lv_to (lv_sub hl [0, 1] rfl) (show ([(0, cr α 0 (some 0)), (1, cr α 8 x1)] : List (Nat × Value)) = [(0, cr α_5 0 (some 0)), (1, cr α_5 8 x1)] by rw [e_11, e_12])
                  refine W_st (st' := []) rfl ?_
                  exact gc_X11_writeCommand_129 C hr hlk h17  α_5 _ _ _ _ _ hM (lv_sub hl [0, 1] rfl) h (show lev σ0 ≤ lev r_10 by omega)
                · have h := br_F c_13 h
                  have c_2n : ((vM.getD s0.toNatClampNeg 0)).toInt ≠ 8 := c_ne c_2
                  have c_4n : ((vM.getD s0.toNatClampNeg 0)).toInt ≠ 9 := c_ne c_4
                  have c_6n : ((vM.getD s0.toNatClampNeg 0)).toInt ≠ 10 := c_ne c_6
                  have c_7n : ((vM.getD s0.toNatClampNeg 0)).toInt ≠ 11 := c_ne c_7
                  have c_8n : ((vM.getD s0.toNatClampNeg 0)).toInt ≠ 12 := c_ne c_8
                  have c_9n : ((vM.getD s0.toNatClampNeg 0)).toInt ≠ 13 := c_ne c_9
                  have c_11n : ((vM.getD s0.toNatClampNeg 0)).toInt ≠ 14 := c_ne c_11
                  have c_13n : ((vM.getD s0.toNatClampNeg 0)).toInt ≠ 15 := c_ne c_13
                  refine lv_tableOut (tgt := 151) hx hb dX11_writeCommand_26 (by omega) (by decide) ?_
                  refine c_aload_n (t := 0) (x := (some 0)) hx hb dX11_writeCommand_151 rfl (lv_at hl 0 rfl) ?_
                  refine c_aload_n (t := 8) (x := x1) hx hb dX11_writeCommand_152 rfl (lv_at hl 1 rfl) ?_
                  obtain ⟨i_13, hd_13, h⟩ := bd_of h
                  refine c_geti C hM (k := 8) (f := 1) hd_13 rfl fl_X11_609 dX11_writeCommand_153 ?_
                  obtain ⟨r_14, hr_14, h⟩ := bd_of h
                  have hc_14 : lev σ ≤ lev r_14 := lx_X11_writeWord hr_14
                  refine c_go1 (c_rV (As := [.int (cI σ 8 i_13 1)]) (rest := []) C hM h17 (hM.cst 0 0 rfl) (by decide) (cc_X11_writeWord l D ca A α σ (cI σ 8 i_13 1) _ hr_14) cw_X11_644 ⟨rfl, rfl⟩ ⟨Nat.le_of_ble_eq_true rfl, Nat.le_of_ble_eq_true rfl⟩ rfl rfl (cats_le _ (Nat.le_of_ble_eq_true rfl)) hl.1 dX11_writeCommand_156 ⟨by show (lev σ - lev σ0) + (lev r_14 - lev σ) ≤ lev o - lev σ0; have hz := lm_X11_writeCommand_159  _ h; omega, by show 200 * (lev σ - lev σ0) + 200 * (lev r_14 - lev σ) ≤ 200 * (lev o - lev σ0); have hz := lm_X11_writeCommand_159  _ h; omega⟩) hM (fun H locs α_6 hX_14 hM => ?_)
                  refine W.widen (k := lev r_14 - lev σ0) (n := 200 * (lev r_14 - lev σ0)) (by omega) (by omega) ?_
                  have hl := lv_to (lv_sub hl [] rfl) (show ([] : List (Nat × Value)) = [] by rfl)
                  refine W_st (st' := []) rfl ?_
                  exact gc_X11_writeCommand_159 C hr hlk h17  α_6 _ _ _ _ hM (lv_sub hl [] rfl) h (show lev σ0 ≤ lev r_14 by omega)
def fc_X11_writeCommand_14 (σ : cS) (x1 : Option Nat) : Option (cS) :=
    (dr σ 8 x1).bind fun i_1 =>
    (dv (cR σ 8 i_1 0)).bind fun i_2 =>
    fc_X11_writeCommand_25 σ x1 (nI i_2)
set_option maxHeartbeats 1000000 in
theorem lm_X11_writeCommand_14 {o : cS} : ∀ (σ : cS) (x1 : Option Nat) , fc_X11_writeCommand_14 σ x1 = some o → lev σ ≤ lev o := by
  intro σ x1 h
  unfold fc_X11_writeCommand_14 at h
  obtain ⟨i_1, hd_1, h⟩ := bd_of h
  obtain ⟨i_2, hv_2, h⟩ := bd_of h
  have hj := lm_X11_writeCommand_25  _ _ _ h
  omega
set_option maxHeartbeats 4000000 in
set_option maxRecDepth 100000 in
theorem gc_X11_writeCommand_14 {p : Program} {l : Launch} {e : Env} {s : State} {m : MethodId} {args : Array Value} {below : List Frame} {meth : Method} {c : Code} {D : va_G} {ca : Nat → ClassId} {A : Nat → Prop} {σ0 : cS} {α0 : cAl} {o : cS} (C : cC p s m args c cX11_writeCommand 2 RX11 D ca A α0) (hr : meth.sig.returnType = none) (hlk : meth.locks = false) (h17 : 0 < cn σ0 17) : ∀ (α : cAl) (σ : cS) (x1 : Option Nat) (H : Heap) (locs : List Loc) (ls : Array Slot), cM D ca true A s.heap σ0 α0 σ α H locs → lv_has ls 2 [(0, cr α 0 (some 0)), (1, cr α 8 x1)] → fc_X11_writeCommand_14 σ x1 = some o → lev σ0 ≤ lev σ → W p l e (rc_X11_writeCommand σ0 o) s m args below meth c H locs (lev σ - lev σ0) (200 * (lev σ - lev σ0)) (MQ below (cQ true D ca true A α0 σ0 (fun _ => none) o) args s (lev o - lev σ0) (200 * (lev o - lev σ0)) A) (F0 m 14 ls [cr α 11 (some 0)]) := by
  have hx := C.1
  have hb := C.2.1
  intro α σ x1 H locs ls hM hl h hge
  unfold fc_X11_writeCommand_14 at h
  refine lv_pop hx hb dX11_writeCommand_14 cr_cat ?_
  refine c_getSM C hM fl_X11_622 dX11_writeCommand_15 ?_
  refine c_aload_n (t := 8) (x := x1) hx hb dX11_writeCommand_18 rfl (lv_at hl 1 rfl) ?_
  obtain ⟨i_1, hd_1, h⟩ := bd_of h
  refine c_getrt C hM (k := 8) (f := 0) (t := 18) hd_1 (by decide) fl_X11_606 dX11_writeCommand_19 ?_
  obtain ⟨i_2, hv_2, h⟩ := bd_of h
  refine c_ordinal C hM h17 hv_2 ol_X11_627 (rest := [cr α 20 (some 1)]) (cats_le _ (Nat.le_of_ble_eq_true rfl)) (Nat.le_of_ble_eq_true rfl) (Nat.le_of_ble_eq_true rfl) ⟨by show lev σ - lev σ0 ≤ lev o - lev σ0; have hz := lm_X11_writeCommand_25  _ _ _ h; omega, by show 200 * (lev σ - lev σ0) ≤ 200 * (lev o - lev σ0); have hz := lm_X11_writeCommand_25  _ _ _ h; omega⟩ hl.1 dX11_writeCommand_22 (fun H locs hM => ?_)
  exact gc_X11_writeCommand_25 C hr hlk h17  α _ _ _ _ _ _ hM (lv_sub hl [0, 1] rfl) h (show lev σ0 ≤ lev σ by omega)
def fc_X11_writeCommand (σ : cS) (x1 : Option Nat) : Option (cS) :=
  (dr σ 8 x1).bind fun i_1 =>
  (dv (cR σ 8 i_1 0)).bind fun i_2 =>
  if ¬ (lvq σ 8 x1 = true) then none else
  (fc_A_apps σ (some (vT.getD i_2 0))).bind fun r_3 =>
  fc_X11_writeCommand_14 r_3 x1
theorem lx_X11_writeCommand {σ o : cS} {x1 : Option Nat} (h : fc_X11_writeCommand σ x1 = some o) : lev σ ≤ lev o := by
  unfold fc_X11_writeCommand at h
  obtain ⟨i_1, hd_1, h⟩ := bd_of h
  obtain ⟨i_2, hv_2, h⟩ := bd_of h
  obtain ⟨c_1, h⟩ := ko_of h
  obtain ⟨r_3, hr_3, h⟩ := bd_of h
  have hc_3 : lev σ ≤ lev r_3 := lx_A_apps hr_3
  have hj := lm_X11_writeCommand_14  _ _ h
  omega
set_option maxHeartbeats 4000000 in
set_option maxRecDepth 100000 in
theorem cc_X11_writeCommand (l : Launch) (D : va_G) (ca : Nat → ClassId) (A : Nat → Prop) (α : cAl) (σ : cS) (x1 : Option Nat) (o : cS) (h : fc_X11_writeCommand σ x1 = some o) : cMet true l yX11_writeCommand cX11_writeCommand 2 (none) (rc_X11_writeCommand σ o) (lev o - lev σ) (200 * (lev o - lev σ)) D ca true A α σ [cr α 0 (some 0), cr α 8 x1] (fun _ => none) o := by
  refine Met.ofW (cc := cX11_writeCommand) (maxL := 2) (ret := none) (by decide) rfl ?_
  intro p e s m args below meth c s₁ B hml hv
  obtain ⟨rfl, hP, hK, hD0, hSh, hA, hG⟩ := hv
  have C : cC p s m _ c cX11_writeCommand 2 RX11 D ca A α := ⟨B.exec, B.bytes, hml, findClass_of_methodNamed B.named, fun w hw => atoms_spec (ws := mWs yX11_writeCommand cX11_writeCommand 2 (none)) B.pre w (List.mem_cons_of_mem _ hw), hK, hG⟩
  have hM : cM D ca true A s.heap σ α σ α s.heap [] := ⟨hP, hD0, hSh, va_S.rf, hA, cX.rf⟩
  have h17 : 0 < cn σ 17 := c_17 hM
  have hr := B.returns
  have hlk := B.notSynchronized
  have hx := C.1
  have hb := C.2.1
  have hl := lv_entry ([cr α 0 (some 0), cr α 8 x1]) (n := 2) (by simp [lg_r, lg_i, lg_l, lg_n])
  rw [lg_entry_eq]
  generalize (lg_sl ([cr α 0 (some 0), cr α 8 x1]) ++ List.replicate (2 - (lg_sl ([cr α 0 (some 0), cr α 8 x1])).length) Slot.unset).toArray = ls at hl ⊢
  have hl : lv_has ls 2 [(0, cr α 0 (some 0)), (1, cr α 8 x1)] := (lv_to hl (by simp only [la_r, la_i, la_l, la_n]))
  unfold fc_X11_writeCommand at h
  have hge : lev σ ≤ lev σ := Nat.le_refl _
  refine W.widen (k := lev σ - lev σ) (n := 200 * (lev σ - lev σ)) (Nat.zero_le _) (Nat.zero_le _) ?_
  refine c_aload_n (t := 0) (x := (some 0)) hx hb dX11_writeCommand_0 rfl (lv_at hl 0 rfl) ?_
  refine c_getb C hM (k := 0) (f := 6) (j := 0) (t := 11) (hM.cst 0 0 rfl) (by decide) fl_X11_62 dX11_writeCommand_1 ?_
  refine c_aload_n (t := 8) (x := x1) hx hb dX11_writeCommand_4 rfl (lv_at hl 1 rfl) ?_
  obtain ⟨i_1, hd_1, h⟩ := bd_of h
  refine c_getrt C hM (k := 8) (f := 0) (t := 18) hd_1 (by decide) fl_X11_606 dX11_writeCommand_5 ?_
  obtain ⟨i_2, hv_2, h⟩ := bd_of h
  refine c_vtextd C hM hv_2 fl_X11_569 dX11_writeCommand_8 ?_
  have hlv_4 := c_lvc hM 0 0 rfl
  obtain ⟨c_1, h⟩ := ko_of h
  have hlv_5 := (Classical.not_not.mp c_1)
  obtain ⟨r_3, hr_3, h⟩ := bd_of h
  have hc_3 : lev σ ≤ lev r_3 := lx_A_apps hr_3
  refine c_go1 (c_rV (As := [cr α 19 (some (vT.getD i_2 0))]) (rest := []) C hM h17 (hM.cst 11 0 rfl) (by decide) (cc_A_apps l D ca A α σ (some (vT.getD i_2 0)) _ hr_3) cw_X11_647 ⟨rfl, rfl⟩ ⟨Nat.le_of_ble_eq_true rfl, Nat.le_of_ble_eq_true rfl⟩ rfl rfl (cats_le _ (Nat.le_of_ble_eq_true rfl)) hl.1 dX11_writeCommand_11 ⟨by show (lev σ - lev σ) + (lev r_3 - lev σ) ≤ lev o - lev σ; have hz := lm_X11_writeCommand_14  _ _ h; omega, by show 200 * (lev σ - lev σ) + 200 * (lev r_3 - lev σ) ≤ 200 * (lev o - lev σ); have hz := lm_X11_writeCommand_14  _ _ h; omega⟩) hM (fun H locs α_1 hX_3 hM => ?_)
  refine W.widen (k := lev r_3 - lev σ) (n := 200 * (lev r_3 - lev σ)) (by omega) (by omega) ?_
  have e_4 : cr α 0 (some 0) = cr α_1 0 (some 0) := cr_to hX_3 hlv_4
  have e_5 : cr α 8 x1 = cr α_1 8 x1 := cr_to hX_3 hlv_5
  have hl := lv_to (lv_sub hl [0, 1] rfl) (show ([(0, cr α 0 (some 0)), (1, cr α 8 x1)] : List (Nat × Value)) = [(0, cr α_1 0 (some 0)), (1, cr α_1 8 x1)] by rw [e_4, e_5])
  refine W_st (st' := [cr α_1 11 (some 0)]) rfl ?_
  exact gc_X11_writeCommand_14 C hr hlk h17  α_1 _ _ _ _ _ hM (lv_sub hl [0, 1] rfl) h (show lev σ ≤ lev r_3 by omega)
/-! Lorewick.writeLine()V -/
abbrev rc_X11_writeLine (σ0 o : cS) : Room := { frames := 8, cells := lev o - lev σ0, slots := 200 * (lev o - lev σ0), locals := 177 }
def fc_X11_writeLine_74 (k_36 : cS → Option Nat → Int32 → Option (cS)) (σ : cS) (x1 : Option Nat) (x2 : Int32) : Option (cS) :=
    k_36 σ x1 (x2 + (1 : Int32))
set_option maxHeartbeats 1000000 in
theorem lm_X11_writeLine_74 {o : cS} {k_36 : cS → Option Nat → Int32 → Option (cS)} (hkm_36 : ∀ (σ : cS) (x1 : Option Nat) (x2 : Int32) , k_36 σ x1 x2 = some o → lev σ ≤ lev o) : ∀ (σ : cS) (x1 : Option Nat) (x2 : Int32) , fc_X11_writeLine_74 k_36 σ x1 x2 = some o → lev σ ≤ lev o := by
  intro σ x1 x2 h
  unfold fc_X11_writeLine_74 at h
  have hj := hkm_36 _ _ _ h
  omega
set_option maxHeartbeats 4000000 in
set_option maxRecDepth 100000 in
theorem gc_X11_writeLine_74 {p : Program} {l : Launch} {e : Env} {s : State} {m : MethodId} {args : Array Value} {below : List Frame} {meth : Method} {c : Code} {D : va_G} {ca : Nat → ClassId} {A : Nat → Prop} {σ0 : cS} {α0 : cAl} {o : cS} {k_36 : cS → Option Nat → Int32 → Option (cS)} (C : cC p s m args c cX11_writeLine 3 RX11 D ca A α0) (hr : meth.sig.returnType = none) (hlk : meth.locks = false) (h17 : 0 < cn σ0 17) (hk_36 : ∀ (α : cAl) (σ : cS) (x1 : Option Nat) (x2 : Int32) (H : Heap) (locs : List Loc) (ls : Array Slot), cM D ca true A s.heap σ0 α0 σ α H locs → lv_has ls 3 [(0, cr α 0 (some 0)), (1, cr α 7 x1), (2, .int x2)] → k_36 σ x1 x2 = some o → lev σ0 ≤ lev σ → W p l e (rc_X11_writeLine σ0 o) s m args below meth c H locs (lev σ - lev σ0) (200 * (lev σ - lev σ0)) (MQ below (cQ true D ca true A α0 σ0 (fun _ => none) o) args s (lev o - lev σ0) (200 * (lev o - lev σ0)) A) (F0 m 36 ls [])) (hkm_36 : ∀ (σ : cS) (x1 : Option Nat) (x2 : Int32) , k_36 σ x1 x2 = some o → lev σ ≤ lev o) : ∀ (α : cAl) (σ : cS) (x1 : Option Nat) (x2 : Int32) (H : Heap) (locs : List Loc) (ls : Array Slot), cM D ca true A s.heap σ0 α0 σ α H locs → lv_has ls 3 [(0, cr α 0 (some 0)), (1, cr α 7 x1), (2, .int x2)] → fc_X11_writeLine_74 k_36 σ x1 x2 = some o → lev σ0 ≤ lev σ → W p l e (rc_X11_writeLine σ0 o) s m args below meth c H locs (lev σ - lev σ0) (200 * (lev σ - lev σ0)) (MQ below (cQ true D ca true A α0 σ0 (fun _ => none) o) args s (lev o - lev σ0) (200 * (lev o - lev σ0)) A) (F0 m 74 ls []) := by
  have hx := C.1
  have hb := C.2.1
  intro α σ x1 x2 H locs ls hM hl h hge
  unfold fc_X11_writeLine_74 at h
  refine lv_iinc (v := (x2 + (1 : Int32))) (lv' := [(2, .int (x2 + (1 : Int32))), (0, cr α 0 (some 0)), (1, cr α 7 x1)]) hx hb dX11_writeLine_74 hl (k := 2) rfl rfl (by decide) (by first | rfl | (simp only [List.filter, cr_cat]; rfl)) (fun ls hl => ?_)
  refine lv_goto (tgt := 36) hx hb dX11_writeLine_77 (by decide) ?_
  exact hk_36 α _ _ _ _ _ _ hM (lv_sub hl [1, 2, 0] rfl) h (show lev σ0 ≤ lev σ by omega)
def fc_X11_writeLine_36 : Nat → cS → Option Nat → Int32 → Option (cS)
  | 0, _, _, _ => none
  | n + 1, σ, x1, x2 =>
    if (cI σ 2 0 13) ≤ x2 then
      some σ
    else
      (dr σ 7 x1).bind fun i_1 =>
      (dr σ 6 (cR σ 7 i_1 3)).bind fun i_2 =>
      (dr σ 12 (cR σ 6 i_2 1)).bind fun i_3 =>
      if x2 < 0 ∨ cln σ 12 i_3 ≤ x2.toNatClampNeg then none else
      if (cI σ 12 i_3 x2.toNatClampNeg) = (100 : Int32) then
        if x2 < 0 ∨ 12 ≤ x2.toNatClampNeg then none else
        if ¬ (lvq σ 7 x1 = true) then none else
        (fc_X11_writeWord σ (cI σ 12 4 x2.toNatClampNeg)).bind fun r_4 =>
        fc_X11_writeLine_74 (fc_X11_writeLine_36 n) r_4 x1 x2
      else
        fc_X11_writeLine_74 (fc_X11_writeLine_36 n) σ x1 x2
set_option maxHeartbeats 1000000 in
theorem lm_X11_writeLine_36 {o : cS} : ∀ (n : Nat) (σ : cS) (x1 : Option Nat) (x2 : Int32) , fc_X11_writeLine_36 n σ x1 x2 = some o → lev σ ≤ lev o := by
  intro n
  induction n with
  | zero =>
    intro σ x1 x2 h
    cases h
  | succ n ih =>
    intro σ x1 x2 h
    rw [fc_X11_writeLine_36] at h
    by_cases c_1 : (cI σ 2 0 13) ≤ x2
    · have h := br_T c_1 h
      cases h
      omega
    · have h := br_F c_1 h
      obtain ⟨i_1, hd_1, h⟩ := bd_of h
      obtain ⟨i_2, hd_2, h⟩ := bd_of h
      obtain ⟨i_3, hd_3, h⟩ := bd_of h
      obtain ⟨c_2, h⟩ := ko_of h
      rcases (Classical.em ((cI σ 12 i_3 x2.toNatClampNeg) = (100 : Int32))).symm with c_3 | c_3
      · have h := br_F c_3 h
        have hj := lm_X11_writeLine_74 ih _ _ _ h
        omega
      · have h := br_T c_3 h
        obtain ⟨c_4, h⟩ := ko_of h
        obtain ⟨c_5, h⟩ := ko_of h
        obtain ⟨r_4, hr_4, h⟩ := bd_of h
        have hc_4 : lev σ ≤ lev r_4 := lx_X11_writeWord hr_4
        have hj := lm_X11_writeLine_74 ih _ _ _ h
        omega
set_option maxHeartbeats 4000000 in
set_option maxRecDepth 100000 in
theorem gc_X11_writeLine_36 {p : Program} {l : Launch} {e : Env} {s : State} {m : MethodId} {args : Array Value} {below : List Frame} {meth : Method} {c : Code} {D : va_G} {ca : Nat → ClassId} {A : Nat → Prop} {σ0 : cS} {α0 : cAl} {o : cS} (C : cC p s m args c cX11_writeLine 3 RX11 D ca A α0) (hr : meth.sig.returnType = none) (hlk : meth.locks = false) (h17 : 0 < cn σ0 17) : ∀ (n : Nat) (α : cAl) (σ : cS) (x1 : Option Nat) (x2 : Int32) (H : Heap) (locs : List Loc) (ls : Array Slot), cM D ca true A s.heap σ0 α0 σ α H locs → lv_has ls 3 [(0, cr α 0 (some 0)), (1, cr α 7 x1), (2, .int x2)] → fc_X11_writeLine_36 n σ x1 x2 = some o → lev σ0 ≤ lev σ → W p l e (rc_X11_writeLine σ0 o) s m args below meth c H locs (lev σ - lev σ0) (200 * (lev σ - lev σ0)) (MQ below (cQ true D ca true A α0 σ0 (fun _ => none) o) args s (lev o - lev σ0) (200 * (lev o - lev σ0)) A) (F0 m 36 ls []) := by
  have hx := C.1
  have hb := C.2.1
  intro n
  induction n with
  | zero =>
    intro α σ x1 x2 H locs ls hM hl h hge
    cases h
  | succ n ih =>
    intro α σ x1 x2 H locs ls hM hl h hge
    rw [fc_X11_writeLine_36] at h
    refine lv_iload_n hx hb dX11_writeLine_36 rfl (lv_at hl 2 rfl) ?_
    refine c_aload_n (t := 0) (x := (some 0)) hx hb dX11_writeLine_37 rfl (lv_at hl 0 rfl) ?_
    refine c_getb C hM (k := 0) (f := 1) (j := 0) (t := 2) (hM.cst 0 0 rfl) (by decide) fl_X11_25 dX11_writeLine_38 ?_
    refine c_geti C hM (k := 2) (f := 13) (hM.cst 2 0 rfl) rfl fl_X11_163 dX11_writeLine_41 ?_
    refine lv_icmp_ge (tgt := 80) hx hb dX11_writeLine_44 (by decide) (fun c_1 => ?_) (fun c_1 => ?_)
    · have h := br_T c_1 h
      cases h
      exact c_rv C hM (fun h => by cases h) hr hlk dX11_writeLine_80 rfl
    · have h := br_F c_1 h
      refine c_aload_n (t := 7) (x := x1) hx hb dX11_writeLine_47 rfl (lv_at hl 1 rfl) ?_
      obtain ⟨i_1, hd_1, h⟩ := bd_of h
      refine c_getrt C hM (k := 7) (f := 3) (t := 6) hd_1 (by decide) fl_X11_408 dX11_writeLine_48 ?_
      obtain ⟨i_2, hd_2, h⟩ := bd_of h
      refine c_getrt C hM (k := 6) (f := 1) (t := 12) hd_2 (by decide) fl_X11_285 dX11_writeLine_51 ?_
      refine lv_iload_n hx hb dX11_writeLine_54 rfl (lv_at hl 2 rfl) ?_
      obtain ⟨i_3, hd_3, h⟩ := bd_of h
      obtain ⟨c_2, h⟩ := ko_of h
      refine c_iald C hM hd_3 c_2 dX11_writeLine_55 ?_
      refine lv_bipush (v := (100 : Int32)) hx hb dX11_writeLine_56 (by decide) ?_
      refine lv_icmp_ne (tgt := 74) hx hb dX11_writeLine_58 (by decide) (fun c_3 => ?_) (fun c_3 => ?_)
      · have h := br_F c_3 h
        exact gc_X11_writeLine_74 C hr hlk h17 ih (lm_X11_writeLine_36 n) α _ _ _ _ _ _ hM (lv_sub hl [0, 1, 2] rfl) h (show lev σ0 ≤ lev σ by omega)
      · have h := br_T c_3 h
        refine c_aload_n (t := 0) (x := (some 0)) hx hb dX11_writeLine_61 rfl (lv_at hl 0 rfl) ?_
        refine c_aload_n (t := 0) (x := (some 0)) hx hb dX11_writeLine_62 rfl (lv_at hl 0 rfl) ?_
        refine c_getb C hM (k := 0) (f := 1) (j := 0) (t := 2) (hM.cst 0 0 rfl) (by decide) fl_X11_25 dX11_writeLine_63 ?_
        refine c_getb C hM (k := 2) (f := 7) (j := 4) (t := 12) (hM.cst 2 0 rfl) (by decide) fl_X11_168 dX11_writeLine_66 ?_
        refine lv_iload_n hx hb dX11_writeLine_69 rfl (lv_at hl 2 rfl) ?_
        obtain ⟨c_4, h⟩ := ko_of h
        refine c_iald C hM (hM.cst 12 4 rfl) (by rw [hM.ln 12 4 12 (by decide)]; exact c_4) dX11_writeLine_70 ?_
        have hlv_5 := c_lvc hM 0 0 rfl
        obtain ⟨c_5, h⟩ := ko_of h
        have hlv_6 := (Classical.not_not.mp c_5)
        obtain ⟨r_4, hr_4, h⟩ := bd_of h
        have hc_4 : lev σ ≤ lev r_4 := lx_X11_writeWord hr_4
        refine c_go1 (c_rV (As := [.int (cI σ 12 4 x2.toNatClampNeg)]) (rest := []) C hM h17 (hM.cst 0 0 rfl) (by decide) (cc_X11_writeWord l D ca A α σ (cI σ 12 4 x2.toNatClampNeg) _ hr_4) cw_X11_644 ⟨rfl, rfl⟩ ⟨Nat.le_of_ble_eq_true rfl, Nat.le_of_ble_eq_true rfl⟩ rfl rfl (cats_le _ (Nat.le_of_ble_eq_true rfl)) hl.1 dX11_writeLine_71 ⟨by show (lev σ - lev σ0) + (lev r_4 - lev σ) ≤ lev o - lev σ0; have hz := lm_X11_writeLine_74 (lm_X11_writeLine_36 n) _ _ _ h; omega, by show 200 * (lev σ - lev σ0) + 200 * (lev r_4 - lev σ) ≤ 200 * (lev o - lev σ0); have hz := lm_X11_writeLine_74 (lm_X11_writeLine_36 n) _ _ _ h; omega⟩) hM (fun H locs α_1 hX_4 hM => ?_)
        refine W.widen (k := lev r_4 - lev σ0) (n := 200 * (lev r_4 - lev σ0)) (by omega) (by omega) ?_
        have e_5 : cr α 0 (some 0) = cr α_1 0 (some 0) := cr_to hX_4 hlv_5
        have e_6 : cr α 7 x1 = cr α_1 7 x1 := cr_to hX_4 hlv_6
        have hl := lv_to (lv_sub hl [0, 1, 2] rfl) (show ([(0, cr α 0 (some 0)), (1, cr α 7 x1), (2, .int x2)] : List (Nat × Value)) = [(0, cr α_1 0 (some 0)), (1, cr α_1 7 x1), (2, .int x2)] by rw [e_5, e_6])
        refine W_st (st' := []) rfl ?_
        exact gc_X11_writeLine_74 C hr hlk h17 ih (lm_X11_writeLine_36 n) α_1 _ _ _ _ _ _ hM (lv_sub hl [0, 1, 2] rfl) h (show lev σ0 ≤ lev r_4 by omega)
def fc_X11_writeLine_33 (σ : cS) (x1 : Option Nat) : Option (cS) :=
    fc_X11_writeLine_36 3000 σ x1 (0 : Int32)
set_option maxHeartbeats 1000000 in
theorem lm_X11_writeLine_33 {o : cS} : ∀ (σ : cS) (x1 : Option Nat) , fc_X11_writeLine_33 σ x1 = some o → lev σ ≤ lev o := by
  intro σ x1 h
  unfold fc_X11_writeLine_33 at h
  have hj := lm_X11_writeLine_36  _ _ _ _ h
  omega
set_option maxHeartbeats 4000000 in
set_option maxRecDepth 100000 in
theorem gc_X11_writeLine_33 {p : Program} {l : Launch} {e : Env} {s : State} {m : MethodId} {args : Array Value} {below : List Frame} {meth : Method} {c : Code} {D : va_G} {ca : Nat → ClassId} {A : Nat → Prop} {σ0 : cS} {α0 : cAl} {o : cS} (C : cC p s m args c cX11_writeLine 3 RX11 D ca A α0) (hr : meth.sig.returnType = none) (hlk : meth.locks = false) (h17 : 0 < cn σ0 17) : ∀ (α : cAl) (σ : cS) (x1 : Option Nat) (H : Heap) (locs : List Loc) (ls : Array Slot), cM D ca true A s.heap σ0 α0 σ α H locs → lv_has ls 3 [(0, cr α 0 (some 0)), (1, cr α 7 x1)] → fc_X11_writeLine_33 σ x1 = some o → lev σ0 ≤ lev σ → W p l e (rc_X11_writeLine σ0 o) s m args below meth c H locs (lev σ - lev σ0) (200 * (lev σ - lev σ0)) (MQ below (cQ true D ca true A α0 σ0 (fun _ => none) o) args s (lev o - lev σ0) (200 * (lev o - lev σ0)) A) (F0 m 33 ls [cr α 11 (some 0)]) := by
  have hx := C.1
  have hb := C.2.1
  intro α σ x1 H locs ls hM hl h hge
  unfold fc_X11_writeLine_33 at h
  refine lv_pop hx hb dX11_writeLine_33 cr_cat ?_
  refine lv_iconst (v := (0 : Int32)) hx hb dX11_writeLine_34 (by decide) ?_
  refine lv_istore_n (lv' := [(2, .int (0 : Int32)), (0, cr α 0 (some 0)), (1, cr α 7 x1)]) hx hb dX11_writeLine_35 rfl hl (by decide) (by first | rfl | (simp only [List.filter, cr_cat]; rfl)) (fun ls hl => ?_)
  exact gc_X11_writeLine_36 C hr hlk h17  _ α _ _ _ _ _ _ hM (lv_sub hl [1, 2, 0] rfl) h (show lev σ0 ≤ lev σ by omega)
def fc_X11_writeLine_24 (σ : cS) (x1 : Option Nat) : Option (cS) :=
    if ¬ (lvq σ 7 x1 = true) then none else
    (fc_A_appc σ (58 : Int32)).bind fun r_1 =>
    fc_X11_writeLine_33 r_1 x1
set_option maxHeartbeats 1000000 in
theorem lm_X11_writeLine_24 {o : cS} : ∀ (σ : cS) (x1 : Option Nat) , fc_X11_writeLine_24 σ x1 = some o → lev σ ≤ lev o := by
  intro σ x1 h
  unfold fc_X11_writeLine_24 at h
  obtain ⟨c_1, h⟩ := ko_of h
  obtain ⟨r_1, hr_1, h⟩ := bd_of h
  have hc_1 : lev σ ≤ lev r_1 := lx_A_appc hr_1
  have hj := lm_X11_writeLine_33  _ _ h
  omega
set_option maxHeartbeats 4000000 in
set_option maxRecDepth 100000 in
theorem gc_X11_writeLine_24 {p : Program} {l : Launch} {e : Env} {s : State} {m : MethodId} {args : Array Value} {below : List Frame} {meth : Method} {c : Code} {D : va_G} {ca : Nat → ClassId} {A : Nat → Prop} {σ0 : cS} {α0 : cAl} {o : cS} (C : cC p s m args c cX11_writeLine 3 RX11 D ca A α0) (hr : meth.sig.returnType = none) (hlk : meth.locks = false) (h17 : 0 < cn σ0 17) : ∀ (α : cAl) (σ : cS) (x1 : Option Nat) (H : Heap) (locs : List Loc) (ls : Array Slot), cM D ca true A s.heap σ0 α0 σ α H locs → lv_has ls 3 [(0, cr α 0 (some 0)), (1, cr α 7 x1)] → fc_X11_writeLine_24 σ x1 = some o → lev σ0 ≤ lev σ → W p l e (rc_X11_writeLine σ0 o) s m args below meth c H locs (lev σ - lev σ0) (200 * (lev σ - lev σ0)) (MQ below (cQ true D ca true A α0 σ0 (fun _ => none) o) args s (lev o - lev σ0) (200 * (lev o - lev σ0)) A) (F0 m 24 ls []) := by
  have hx := C.1
  have hb := C.2.1
  intro α σ x1 H locs ls hM hl h hge
  unfold fc_X11_writeLine_24 at h
  refine c_aload_n (t := 0) (x := (some 0)) hx hb dX11_writeLine_24 rfl (lv_at hl 0 rfl) ?_
  refine c_getb C hM (k := 0) (f := 6) (j := 0) (t := 11) (hM.cst 0 0 rfl) (by decide) fl_X11_62 dX11_writeLine_25 ?_
  refine lv_bipush (v := (58 : Int32)) hx hb dX11_writeLine_28 (by decide) ?_
  have hlv_2 := c_lvc hM 0 0 rfl
  obtain ⟨c_1, h⟩ := ko_of h
  have hlv_3 := (Classical.not_not.mp c_1)
  obtain ⟨r_1, hr_1, h⟩ := bd_of h
  have hc_1 : lev σ ≤ lev r_1 := lx_A_appc hr_1
  refine c_go1 (c_rV (As := [.int (58 : Int32)]) (rest := []) C hM h17 (hM.cst 11 0 rfl) (by decide) (cc_A_appc l D ca A α σ (58 : Int32) _ hr_1) cw_X11_640 ⟨rfl, rfl⟩ ⟨Nat.le_of_ble_eq_true rfl, Nat.le_of_ble_eq_true rfl⟩ rfl rfl (cats_le _ (Nat.le_of_ble_eq_true rfl)) hl.1 dX11_writeLine_30 ⟨by show (lev σ - lev σ0) + (lev r_1 - lev σ) ≤ lev o - lev σ0; have hz := lm_X11_writeLine_33  _ _ h; omega, by show 200 * (lev σ - lev σ0) + 200 * (lev r_1 - lev σ) ≤ 200 * (lev o - lev σ0); have hz := lm_X11_writeLine_33  _ _ h; omega⟩) hM (fun H locs α_1 hX_1 hM => ?_)
  refine W.widen (k := lev r_1 - lev σ0) (n := 200 * (lev r_1 - lev σ0)) (by omega) (by omega) ?_
  have e_2 : cr α 0 (some 0) = cr α_1 0 (some 0) := cr_to hX_1 hlv_2
  have e_3 : cr α 7 x1 = cr α_1 7 x1 := cr_to hX_1 hlv_3
  have hl := lv_to (lv_sub hl [0, 1] rfl) (show ([(0, cr α 0 (some 0)), (1, cr α 7 x1)] : List (Nat × Value)) = [(0, cr α_1 0 (some 0)), (1, cr α_1 7 x1)] by rw [e_2, e_3])
  refine W_st (st' := [cr α_1 11 (some 0)]) rfl ?_
  exact gc_X11_writeLine_33 C hr hlk h17  α_1 _ _ _ _ _ hM (lv_sub hl [0, 1] rfl) h (show lev σ0 ≤ lev r_1 by omega)
def fc_X11_writeLine_15 (σ : cS) (s0 : Option Nat) : Option (cS) :=
    (dr σ 7 s0).bind fun i_1 =>
    if ¬ (lvq σ 7 s0 = true) then none else
    (fc_X11_writeCommand σ (cR σ 7 i_1 2)).bind fun r_2 =>
    fc_X11_writeLine_24 r_2 s0
set_option maxHeartbeats 1000000 in
theorem lm_X11_writeLine_15 {o : cS} : ∀ (σ : cS) (s0 : Option Nat) , fc_X11_writeLine_15 σ s0 = some o → lev σ ≤ lev o := by
  intro σ s0 h
  unfold fc_X11_writeLine_15 at h
  obtain ⟨i_1, hd_1, h⟩ := bd_of h
  obtain ⟨c_1, h⟩ := ko_of h
  obtain ⟨r_2, hr_2, h⟩ := bd_of h
  have hc_2 : lev σ ≤ lev r_2 := lx_X11_writeCommand hr_2
  have hj := lm_X11_writeLine_24  _ _ h
  omega
set_option maxHeartbeats 4000000 in
set_option maxRecDepth 100000 in
theorem gc_X11_writeLine_15 {p : Program} {l : Launch} {e : Env} {s : State} {m : MethodId} {args : Array Value} {below : List Frame} {meth : Method} {c : Code} {D : va_G} {ca : Nat → ClassId} {A : Nat → Prop} {σ0 : cS} {α0 : cAl} {o : cS} (C : cC p s m args c cX11_writeLine 3 RX11 D ca A α0) (hr : meth.sig.returnType = none) (hlk : meth.locks = false) (h17 : 0 < cn σ0 17) : ∀ (α : cAl) (σ : cS) (s0 : Option Nat) (H : Heap) (locs : List Loc) (ls : Array Slot), cM D ca true A s.heap σ0 α0 σ α H locs → lv_has ls 3 [(0, cr α 0 (some 0))] → fc_X11_writeLine_15 σ s0 = some o → lev σ0 ≤ lev σ → W p l e (rc_X11_writeLine σ0 o) s m args below meth c H locs (lev σ - lev σ0) (200 * (lev σ - lev σ0)) (MQ below (cQ true D ca true A α0 σ0 (fun _ => none) o) args s (lev o - lev σ0) (200 * (lev o - lev σ0)) A) (F0 m 15 ls [cr α 7 s0]) := by
  have hx := C.1
  have hb := C.2.1
  intro α σ s0 H locs ls hM hl h hge
  unfold fc_X11_writeLine_15 at h
  refine c_astore_n (t := 7) (x := s0) (lv' := [(1, cr α 7 s0), (0, cr α 0 (some 0))]) hx hb dX11_writeLine_15 rfl hl (by decide) rfl (fun ls hl => ?_)
  refine c_aload_n (t := 0) (x := (some 0)) hx hb dX11_writeLine_16 rfl (lv_at hl 1 rfl) ?_
  refine c_aload_n (t := 7) (x := s0) hx hb dX11_writeLine_17 rfl (lv_at hl 0 rfl) ?_
  obtain ⟨i_1, hd_1, h⟩ := bd_of h
  refine c_getrt C hM (k := 7) (f := 2) (t := 8) hd_1 (by decide) fl_X11_633 dX11_writeLine_18 ?_
  obtain ⟨c_1, h⟩ := ko_of h
  have hlv_3 := (Classical.not_not.mp c_1)
  have hlv_4 := c_lvc hM 0 0 rfl
  obtain ⟨r_2, hr_2, h⟩ := bd_of h
  have hc_2 : lev σ ≤ lev r_2 := lx_X11_writeCommand hr_2
  refine c_go1 (c_rV (As := [cr α 8 (cR σ 7 i_1 2)]) (rest := []) C hM h17 (hM.cst 0 0 rfl) (by decide) (cc_X11_writeCommand l D ca A α σ (cR σ 7 i_1 2) _ hr_2) cw_X11_637 ⟨rfl, rfl⟩ ⟨Nat.le_of_ble_eq_true rfl, Nat.le_of_ble_eq_true rfl⟩ rfl rfl (cats_le _ (Nat.le_of_ble_eq_true rfl)) hl.1 dX11_writeLine_21 ⟨by show (lev σ - lev σ0) + (lev r_2 - lev σ) ≤ lev o - lev σ0; have hz := lm_X11_writeLine_24  _ _ h; omega, by show 200 * (lev σ - lev σ0) + 200 * (lev r_2 - lev σ) ≤ 200 * (lev o - lev σ0); have hz := lm_X11_writeLine_24  _ _ h; omega⟩) hM (fun H locs α_1 hX_2 hM => ?_)
  refine W.widen (k := lev r_2 - lev σ0) (n := 200 * (lev r_2 - lev σ0)) (by omega) (by omega) ?_
  have e_3 : cr α 7 s0 = cr α_1 7 s0 := cr_to hX_2 hlv_3
  have e_4 : cr α 0 (some 0) = cr α_1 0 (some 0) := cr_to hX_2 hlv_4
  have hl := lv_to (lv_sub hl [0, 1] rfl) (show ([(1, cr α 7 s0), (0, cr α 0 (some 0))] : List (Nat × Value)) = [(1, cr α_1 7 s0), (0, cr α_1 0 (some 0))] by rw [e_3, e_4])
  refine W_st (st' := []) rfl ?_
  exact gc_X11_writeLine_24 C hr hlk h17  α_1 _ _ _ _ _ hM (lv_sub hl [1, 0] rfl) h (show lev σ0 ≤ lev r_2 by omega)
def fc_X11_writeLine_8 (σ : cS) : Option (cS) :=
    (fc_X8_current σ).bind fun r_1 =>
    fc_X11_writeLine_15 r_1.2 r_1.1
set_option maxHeartbeats 1000000 in
theorem lm_X11_writeLine_8 {o : cS} : ∀ (σ : cS) , fc_X11_writeLine_8 σ = some o → lev σ ≤ lev o := by
  intro σ h
  unfold fc_X11_writeLine_8 at h
  obtain ⟨r_1, hr_1, h⟩ := bd_of h
  have hs_1 : lev r_1.2 = lev σ := lx_X8_current hr_1
  have hj := lm_X11_writeLine_15  _ _ h
  omega
set_option maxHeartbeats 4000000 in
set_option maxRecDepth 100000 in
theorem gc_X11_writeLine_8 {p : Program} {l : Launch} {e : Env} {s : State} {m : MethodId} {args : Array Value} {below : List Frame} {meth : Method} {c : Code} {D : va_G} {ca : Nat → ClassId} {A : Nat → Prop} {σ0 : cS} {α0 : cAl} {o : cS} (C : cC p s m args c cX11_writeLine 3 RX11 D ca A α0) (hr : meth.sig.returnType = none) (hlk : meth.locks = false) (h17 : 0 < cn σ0 17) : ∀ (α : cAl) (σ : cS) (H : Heap) (locs : List Loc) (ls : Array Slot), cM D ca true A s.heap σ0 α0 σ α H locs → lv_has ls 3 [(0, cr α 0 (some 0))] → fc_X11_writeLine_8 σ = some o → lev σ0 ≤ lev σ → W p l e (rc_X11_writeLine σ0 o) s m args below meth c H locs (lev σ - lev σ0) (200 * (lev σ - lev σ0)) (MQ below (cQ true D ca true A α0 σ0 (fun _ => none) o) args s (lev o - lev σ0) (200 * (lev o - lev σ0)) A) (F0 m 8 ls []) := by
  have hx := C.1
  have hb := C.2.1
  intro α σ H locs ls hM hl h hge
  unfold fc_X11_writeLine_8 at h
  refine c_aload_n (t := 0) (x := (some 0)) hx hb dX11_writeLine_8 rfl (lv_at hl 0 rfl) ?_
  refine c_getb C hM (k := 0) (f := 3) (j := 0) (t := 4) (hM.cst 0 0 rfl) (by decide) fl_X11_41 dX11_writeLine_9 ?_
  obtain ⟨r_1, hr_1, h⟩ := bd_of h
  have hs_1 : lev r_1.2 = lev σ := lx_X8_current hr_1
  refine c_go0 (c_rV (As := []) (rest := []) C hM h17 (hM.cst 4 0 rfl) (by decide) (cc_X8_current l D ca A α σ _ hr_1) cw_X11_338 ⟨rfl, rfl⟩ ⟨Nat.le_of_ble_eq_true rfl, Nat.le_of_ble_eq_true rfl⟩ rfl rfl (cats_le _ (Nat.le_of_ble_eq_true rfl)) hl.1 dX11_writeLine_12 ⟨by show (lev σ - lev σ0) + 0 ≤ lev o - lev σ0; have hz := lm_X11_writeLine_15  _ _ h; omega, by show 200 * (lev σ - lev σ0) + 0 ≤ 200 * (lev o - lev σ0); have hz := lm_X11_writeLine_15  _ _ h; omega⟩) hM (fun H locs hM => ?_)
  refine W.widen (k := lev r_1.2 - lev σ0) (n := 200 * (lev r_1.2 - lev σ0)) (by omega) (by omega) ?_
  refine W_st (st' := [cr α 7 r_1.1]) rfl ?_
  exact gc_X11_writeLine_15 C hr hlk h17  α _ _ _ _ _ hM (lv_sub hl [0] rfl) h (show lev σ0 ≤ lev r_1.2 by omega)
def fc_X11_writeLine (σ : cS) : Option (cS) :=
  (fc_A_setl σ (0 : Int32)).bind fun r_1 =>
  fc_X11_writeLine_8 r_1
theorem lx_X11_writeLine {σ o : cS} (h : fc_X11_writeLine σ  = some o) : lev σ ≤ lev o := by
  unfold fc_X11_writeLine at h
  obtain ⟨r_1, hr_1, h⟩ := bd_of h
  have hc_1 : lev σ ≤ lev r_1 := lx_A_setl hr_1
  have hj := lm_X11_writeLine_8  _ h
  omega
set_option maxHeartbeats 4000000 in
set_option maxRecDepth 100000 in
theorem cc_X11_writeLine (l : Launch) (D : va_G) (ca : Nat → ClassId) (A : Nat → Prop) (α : cAl) (σ : cS) (o : cS) (h : fc_X11_writeLine σ  = some o) : cMet true l yX11_writeLine cX11_writeLine 3 (none) (rc_X11_writeLine σ o) (lev o - lev σ) (200 * (lev o - lev σ)) D ca true A α σ [cr α 0 (some 0)] (fun _ => none) o := by
  refine Met.ofW (cc := cX11_writeLine) (maxL := 3) (ret := none) (by decide) rfl ?_
  intro p e s m args below meth c s₁ B hml hv
  obtain ⟨rfl, hP, hK, hD0, hSh, hA, hG⟩ := hv
  have C : cC p s m _ c cX11_writeLine 3 RX11 D ca A α := ⟨B.exec, B.bytes, hml, findClass_of_methodNamed B.named, fun w hw => atoms_spec (ws := mWs yX11_writeLine cX11_writeLine 3 (none)) B.pre w (List.mem_cons_of_mem _ hw), hK, hG⟩
  have hM : cM D ca true A s.heap σ α σ α s.heap [] := ⟨hP, hD0, hSh, va_S.rf, hA, cX.rf⟩
  have h17 : 0 < cn σ 17 := c_17 hM
  have hr := B.returns
  have hlk := B.notSynchronized
  have hx := C.1
  have hb := C.2.1
  have hl := lv_entry ([cr α 0 (some 0)]) (n := 3) (Nat.le_of_ble_eq_true rfl)
  rw [lg_entry_eq]
  generalize (lg_sl ([cr α 0 (some 0)]) ++ List.replicate (3 - (lg_sl ([cr α 0 (some 0)])).length) Slot.unset).toArray = ls at hl ⊢
  have hl : lv_has ls 3 [(0, cr α 0 (some 0))] := hl
  unfold fc_X11_writeLine at h
  have hge : lev σ ≤ lev σ := Nat.le_refl _
  refine W.widen (k := lev σ - lev σ) (n := 200 * (lev σ - lev σ)) (Nat.zero_le _) (Nat.zero_le _) ?_
  refine c_aload_n (t := 0) (x := (some 0)) hx hb dX11_writeLine_0 rfl (lv_at hl 0 rfl) ?_
  refine c_getb C hM (k := 0) (f := 6) (j := 0) (t := 11) (hM.cst 0 0 rfl) (by decide) fl_X11_62 dX11_writeLine_1 ?_
  refine lv_iconst (v := (0 : Int32)) hx hb dX11_writeLine_4 (by decide) ?_
  have hlv_2 := c_lvc hM 0 0 rfl
  obtain ⟨r_1, hr_1, h⟩ := bd_of h
  have hc_1 : lev σ ≤ lev r_1 := lx_A_setl hr_1
  refine c_go1 (c_rV (As := [.int (0 : Int32)]) (rest := []) C hM h17 (hM.cst 11 0 rfl) (by decide) (cc_A_setl l D ca A α σ (0 : Int32) _ hr_1) cw_X11_630 ⟨rfl, rfl⟩ ⟨Nat.le_of_ble_eq_true rfl, Nat.le_of_ble_eq_true rfl⟩ rfl rfl (cats_le _ (Nat.le_of_ble_eq_true rfl)) hl.1 dX11_writeLine_5 ⟨by show (lev σ - lev σ) + (lev r_1 - lev σ) ≤ lev o - lev σ; have hz := lm_X11_writeLine_8  _ h; omega, by show 200 * (lev σ - lev σ) + 200 * (lev r_1 - lev σ) ≤ 200 * (lev o - lev σ); have hz := lm_X11_writeLine_8  _ h; omega⟩) hM (fun H locs α_1 hX_1 hM => ?_)
  refine W.widen (k := lev r_1 - lev σ) (n := 200 * (lev r_1 - lev σ)) (by omega) (by omega) ?_
  have e_2 : cr α 0 (some 0) = cr α_1 0 (some 0) := cr_to hX_1 hlv_2
  have hl := lv_to (lv_sub hl [0] rfl) (show ([(0, cr α 0 (some 0))] : List (Nat × Value)) = [(0, cr α_1 0 (some 0))] by rw [e_2])
  refine W_st (st' := []) rfl ?_
  exact gc_X11_writeLine_8 C hr hlk h17  α_1 _ _ _ _ hM (lv_sub hl [0] rfl) h (show lev σ ≤ lev r_1 by omega)
/-! Lorewick.line()I -/
abbrev rc_X11_line : Room := { frames := 9, cells := 4, slots := 606, locals := 199 }
def fc_X11_line (σ : cS) : Option ((Nat ⊕ Int32) × cS) :=
  xb (fc_X11_needPlay σ) fun v_1 u_1 =>
  (fc_X11_writeLine u_1).bind fun r_2 =>
  (fc_J4_length_8abf5 r_2).bind fun r_4 =>
  some (.inr r_4.1, r_4.2)
set_option maxHeartbeats 4000000 in
set_option maxRecDepth 100000 in
theorem cc_X11_line (l : Launch) (hst : l.stackTraces = false) (D : va_G) (ca : Nat → ClassId) (A : Nat → Prop) (α : cAl) (σ : cS) (o : (Nat ⊕ Int32) × cS) (h : fc_X11_line σ  = some o) : cMetX true l yX11_line cX11_line 1 ((some FieldType.int)) rc_X11_line 4 606 D ca true A α σ [cr α 0 (some 0)] (o.1.map id (fun (v : Int32) _ => some (.int v))) o.2 := by
  refine vx_ofW (cc := cX11_line) (maxL := 1) (ret := (some FieldType.int)) (by decide) rfl ?_
  intro p e s m args below meth c s₁ B hml hout hv
  obtain ⟨rfl, hP, hK, hD0, hSh, hA, hG⟩ := hv
  have C : cC p s m _ c cX11_line 1 RX11 D ca A α := ⟨B.exec, B.bytes, hml, findClass_of_methodNamed B.named, fun w hw => atoms_spec (ws := mWs yX11_line cX11_line 1 ((some FieldType.int))) B.pre w (List.mem_cons_of_mem _ hw), hK, hG⟩
  have hM : cM D ca true A s.heap σ α σ α s.heap [] := ⟨hP, hD0, hSh, va_S.rf, hA, cX.rf⟩
  have h17 : 0 < cn σ 17 := c_17 hM
  have hr := B.returns
  have hlk := B.notSynchronized
  have hx := C.1
  have hb := C.2.1
  have hl := lv_entry ([cr α 0 (some 0)]) (n := 1) (Nat.le_of_ble_eq_true rfl)
  rw [lg_entry_eq]
  generalize (lg_sl ([cr α 0 (some 0)]) ++ List.replicate (1 - (lg_sl ([cr α 0 (some 0)])).length) Slot.unset).toArray = ls at hl ⊢
  have hl : lv_has ls 1 [(0, cr α 0 (some 0))] := hl
  unfold fc_X11_line at h
  refine c_aload_n (t := 0) (x := (some 0)) hx hb dX11_line_0 rfl (lv_at hl 0 rfl) ?_
  obtain ⟨r_1, u_1, hr_1⟩ := xb_some h
  refine c_gox2 (T := (fun (_ : Unit) _ => none)) (T2 := (fun (v : Int32) _ => some (.int v))) h hr_1 (c_rVx (As := []) (rest := []) C hM h17 (hM.cst 0 0 rfl) (by decide) (cc_X11_needPlay l hst D ca A α σ _ hr_1) cw_X11_260 ⟨rfl, rfl⟩ ⟨Nat.le_of_ble_eq_true rfl, Nat.le_of_ble_eq_true rfl⟩ rfl rfl (cats_le _ (Nat.le_of_ble_eq_true rfl)) hl.1 dX11_line_1 ⟨Nat.le_of_ble_eq_true rfl, Nat.le_of_ble_eq_true rfl⟩) C hM (fun h => by cases h) hout hlk (Nat.le_of_ble_eq_true rfl) (Nat.le_of_ble_eq_true rfl) (fun v_1 H locs α9 hα h hX_1 hM => ?_)
  obtain rfl : α = α9 := (hα rfl).symm
  refine W_st (st' := []) rfl ?_
  refine c_aload_n (t := 0) (x := (some 0)) hx hb dX11_line_4 rfl (lv_at hl 0 rfl) ?_
  have hlv_3 := c_lvc hM 0 0 rfl
  obtain ⟨r_2, hr_2, h⟩ := bd_of h
  refine c_go1 (c_rV (As := []) (rest := []) C hM h17 (hM.cst 0 0 rfl) (by decide) (cc_X11_writeLine l D ca A α u_1 _ hr_2) cw_X11_481 ⟨rfl, rfl⟩ ⟨Nat.le_of_ble_eq_true rfl, Nat.le_of_ble_eq_true rfl⟩ rfl rfl (cats_le _ (Nat.le_of_ble_eq_true rfl)) hl.1 dX11_line_5 ⟨by show 1 + (lev r_2 - lev u_1) ≤ 4; have := lev_le r_2; omega, by show 6 + 200 * (lev r_2 - lev u_1) ≤ 606; have := lev_le r_2; omega⟩) hM (fun H locs α_1 hX_2 hM => ?_)
  refine W.widen (k := 4) (n := 606) (by have := lev_le r_2; omega) (by have := lev_le r_2; omega) ?_
  have e_3 : cr α 0 (some 0) = cr α_1 0 (some 0) := cr_to hX_2 hlv_3
  have hl := lv_to (lv_sub hl [0] rfl) (show ([(0, cr α 0 (some 0))] : List (Nat × Value)) = [(0, cr α_1 0 (some 0))] by rw [e_3])
  refine W_st (st' := []) rfl ?_
  refine c_aload_n (t := 0) (x := (some 0)) hx hb dX11_line_8 rfl (lv_at hl 0 rfl) ?_
  refine c_getb C hM (k := 0) (f := 6) (j := 0) (t := 11) (hM.cst 0 0 rfl) (by decide) fl_X11_62 dX11_line_9 ?_
  obtain ⟨r_4, hr_4, h⟩ := bd_of h
  refine c_go0 (c_rV (As := []) (rest := []) C hM h17 (hM.cst 11 0 rfl) (by decide) (cc_J4_length_8abf5 l D ca A α_1 r_2 _ hr_4) cw_X11_484 ⟨rfl, rfl⟩ ⟨Nat.le_of_ble_eq_true rfl, Nat.le_of_ble_eq_true rfl⟩ rfl rfl (cats_le _ (Nat.le_of_ble_eq_true rfl)) hl.1 dX11_line_12 ⟨Nat.le_of_ble_eq_true rfl, Nat.le_of_ble_eq_true rfl⟩) hM (fun H locs hM => ?_)
  refine W_st (st' := [.int r_4.1]) rfl ?_
  exact c_xr h (c_ri (o := (r_4.1, r_4.2)) C hM (fun h => by cases h) hr hlk dX11_line_15 rfl)
/-! Lorewick.signOf(I)C -/
abbrev rc_X11_signOf : Room := { frames := 9, cells := 5, slots := 612, locals := 199 }
def fc_X11_signOf_23 (σ : cS) : Option ((Nat ⊕ Int32) × cS) :=
    some (.inl 5, σ)
set_option maxHeartbeats 4000000 in
set_option maxRecDepth 100000 in
theorem gc_X11_signOf_23 {p : Program} {l : Launch} {e : Env} {s : State} {m : MethodId} {args : Array Value} {below : List Frame} {meth : Method} {c : Code} {D : va_G} {ca : Nat → ClassId} {A : Nat → Prop} {σ0 : cS} {α0 : cAl} {o : (Nat ⊕ Int32) × cS} (C : cC p s m args c cX11_signOf 2 RX11 D ca A α0) (hr : meth.sig.returnType = (some FieldType.char)) (hlk : meth.locks = false) (h17 : 0 < cn σ0 17) (hst : l.stackTraces = false) (hout : ∀ x ∈ c.exceptionTable.toList, False) : ∀ (α : cAl) (σ : cS) (H : Heap) (locs : List Loc) (ls : Array Slot), cM D ca true A s.heap σ0 α0 σ α H locs → lv_has ls 2 [] → fc_X11_signOf_23 σ = some o → W p l e rc_X11_signOf s m args below meth c H locs 4 606 (vx_MQ below (cQx true D ca true A α0 σ0 (o.1.map id (fun (v : Int32) _ => some (.int v))) o.2) (cXC true D ca true A α0 σ0 (o.1.map id (fun (v : Int32) _ => some (.int v))) o.2) args s 5 612 A) (F0 m 23 ls []) := by
  have hx := C.1
  have hb := C.2.1
  intro α σ H locs ls hM hl h
  unfold fc_X11_signOf_23 at h
  exact c_throw5 (text := "no such sign") C hM (fun h => by cases h) hst hout hlk (by decide +kernel) (wl_in (i := 1244) (by decide +kernel)) (wl_in (i := 39) (by decide +kernel)) dX11_signOf_23 dX11_signOf_26 dX11_signOf_27 dX11_signOf_29 dX11_signOf_32 hl.1 (Nat.le_of_ble_eq_true rfl) (Nat.le_of_ble_eq_true rfl) (Nat.le_of_ble_eq_true rfl) (Nat.le_of_ble_eq_true rfl) (Nat.le_of_ble_eq_true rfl) (Nat.le_of_ble_eq_true rfl) h
def fc_X11_signOf (σ : cS) (x1 : Int32) : Option ((Nat ⊕ Int32) × cS) :=
  xb (fc_X11_needPlay σ) fun v_1 u_1 =>
  (fc_X11_writeLine u_1).bind fun r_2 =>
  if x1 < 0 then
    fc_X11_signOf_23 r_2
  else
    (fc_J4_length_8abf5 r_2).bind fun r_4 =>
    if x1 < r_4.1 then
      (fc_J4_charAt_5068e r_4.2 x1).bind fun r_5 =>
      if ¬ (r_5.1.toUInt32.toUInt16.toUInt32.toInt32 = r_5.1) then none else
      some (.inr r_5.1, r_5.2)
    else
      fc_X11_signOf_23 r_4.2
set_option maxHeartbeats 4000000 in
set_option maxRecDepth 100000 in
theorem cc_X11_signOf (l : Launch) (hst : l.stackTraces = false) (D : va_G) (ca : Nat → ClassId) (A : Nat → Prop) (α : cAl) (σ : cS) (x1 : Int32) (o : (Nat ⊕ Int32) × cS) (h : fc_X11_signOf σ x1 = some o) : cMetX true l yX11_signOf cX11_signOf 2 ((some FieldType.char)) rc_X11_signOf 5 612 D ca true A α σ [cr α 0 (some 0), .int x1] (o.1.map id (fun (v : Int32) _ => some (.int v))) o.2 := by
  refine vx_ofW (cc := cX11_signOf) (maxL := 2) (ret := (some FieldType.char)) (by decide) rfl ?_
  intro p e s m args below meth c s₁ B hml hout hv
  obtain ⟨rfl, hP, hK, hD0, hSh, hA, hG⟩ := hv
  have C : cC p s m _ c cX11_signOf 2 RX11 D ca A α := ⟨B.exec, B.bytes, hml, findClass_of_methodNamed B.named, fun w hw => atoms_spec (ws := mWs yX11_signOf cX11_signOf 2 ((some FieldType.char))) B.pre w (List.mem_cons_of_mem _ hw), hK, hG⟩
  have hM : cM D ca true A s.heap σ α σ α s.heap [] := ⟨hP, hD0, hSh, va_S.rf, hA, cX.rf⟩
  have h17 : 0 < cn σ 17 := c_17 hM
  have hr := B.returns
  have hlk := B.notSynchronized
  have hx := C.1
  have hb := C.2.1
  have hl := lv_entry ([cr α 0 (some 0), .int x1]) (n := 2) (Nat.le_of_ble_eq_true rfl)
  rw [lg_entry_eq]
  generalize (lg_sl ([cr α 0 (some 0), .int x1]) ++ List.replicate (2 - (lg_sl ([cr α 0 (some 0), .int x1])).length) Slot.unset).toArray = ls at hl ⊢
  have hl : lv_has ls 2 [(0, cr α 0 (some 0)), (1, .int x1)] := hl
  unfold fc_X11_signOf at h
  refine c_aload_n (t := 0) (x := (some 0)) hx hb dX11_signOf_0 rfl (lv_at hl 0 rfl) ?_
  obtain ⟨r_1, u_1, hr_1⟩ := xb_some h
  refine c_gox2 (T := (fun (_ : Unit) _ => none)) (T2 := (fun (v : Int32) _ => some (.int v))) h hr_1 (c_rVx (As := []) (rest := []) C hM h17 (hM.cst 0 0 rfl) (by decide) (cc_X11_needPlay l hst D ca A α σ _ hr_1) cw_X11_260 ⟨rfl, rfl⟩ ⟨Nat.le_of_ble_eq_true rfl, Nat.le_of_ble_eq_true rfl⟩ rfl rfl (cats_le _ (Nat.le_of_ble_eq_true rfl)) hl.1 dX11_signOf_1 ⟨Nat.le_of_ble_eq_true rfl, Nat.le_of_ble_eq_true rfl⟩) C hM (fun h => by cases h) hout hlk (Nat.le_of_ble_eq_true rfl) (Nat.le_of_ble_eq_true rfl) (fun v_1 H locs α9 hα h hX_1 hM => ?_)
  obtain rfl : α = α9 := (hα rfl).symm
  refine W_st (st' := []) rfl ?_
  refine c_aload_n (t := 0) (x := (some 0)) hx hb dX11_signOf_4 rfl (lv_at hl 0 rfl) ?_
  have hlv_3 := c_lvc hM 0 0 rfl
  obtain ⟨r_2, hr_2, h⟩ := bd_of h
  refine c_go1 (c_rV (As := []) (rest := []) C hM h17 (hM.cst 0 0 rfl) (by decide) (cc_X11_writeLine l D ca A α u_1 _ hr_2) cw_X11_481 ⟨rfl, rfl⟩ ⟨Nat.le_of_ble_eq_true rfl, Nat.le_of_ble_eq_true rfl⟩ rfl rfl (cats_le _ (Nat.le_of_ble_eq_true rfl)) hl.1 dX11_signOf_5 ⟨by show 1 + (lev r_2 - lev u_1) ≤ 5; have := lev_le r_2; omega, by show 6 + 200 * (lev r_2 - lev u_1) ≤ 612; have := lev_le r_2; omega⟩) hM (fun H locs α_1 hX_2 hM => ?_)
  refine W.widen (k := 4) (n := 606) (by have := lev_le r_2; omega) (by have := lev_le r_2; omega) ?_
  have e_3 : cr α 0 (some 0) = cr α_1 0 (some 0) := cr_to hX_2 hlv_3
  have hl := lv_to (lv_sub hl [0, 1] rfl) (show ([(0, cr α 0 (some 0)), (1, .int x1)] : List (Nat × Value)) = [(0, cr α_1 0 (some 0)), (1, .int x1)] by rw [e_3])
  refine W_st (st' := []) rfl ?_
  refine lv_iload_n hx hb dX11_signOf_8 rfl (lv_at hl 1 rfl) ?_
  refine lv_if_lt (tgt := 23) hx hb dX11_signOf_9 (by decide) (fun c_1 => ?_) (fun c_1 => ?_)
  · have h := br_T c_1 h
    exact gc_X11_signOf_23 C hr hlk h17 hst hout  α_1 _ _ _ _ hM (lv_sub hl [] rfl) h
  · have h := br_F c_1 h
    refine lv_iload_n hx hb dX11_signOf_12 rfl (lv_at hl 1 rfl) ?_
    refine c_aload_n (t := 0) (x := (some 0)) hx hb dX11_signOf_13 rfl (lv_at hl 0 rfl) ?_
    refine c_getb C hM (k := 0) (f := 6) (j := 0) (t := 11) (hM.cst 0 0 rfl) (by decide) fl_X11_62 dX11_signOf_14 ?_
    obtain ⟨r_4, hr_4, h⟩ := bd_of h
    refine c_go0 (c_rV (As := []) (rest := [.int x1]) C hM h17 (hM.cst 11 0 rfl) (by decide) (cc_J4_length_8abf5 l D ca A α_1 r_2 _ hr_4) cw_X11_484 ⟨rfl, rfl⟩ ⟨Nat.le_of_ble_eq_true rfl, Nat.le_of_ble_eq_true rfl⟩ rfl rfl (cats_le _ (Nat.le_of_ble_eq_true rfl)) hl.1 dX11_signOf_17 ⟨Nat.le_of_ble_eq_true rfl, Nat.le_of_ble_eq_true rfl⟩) hM (fun H locs hM => ?_)
    refine W_st (st' := [.int r_4.1, .int x1]) rfl ?_
    refine lv_icmp_lt (tgt := 33) hx hb dX11_signOf_20 (by decide) (fun c_2 => ?_) (fun c_2 => ?_)
    · have h := br_T c_2 h
      refine c_aload_n (t := 0) (x := (some 0)) hx hb dX11_signOf_33 rfl (lv_at hl 0 rfl) ?_
      refine c_getb C hM (k := 0) (f := 6) (j := 0) (t := 11) (hM.cst 0 0 rfl) (by decide) fl_X11_62 dX11_signOf_34 ?_
      refine lv_iload_n hx hb dX11_signOf_37 rfl (lv_at hl 1 rfl) ?_
      obtain ⟨r_5, hr_5, h⟩ := bd_of h
      refine c_go0 (c_rV (As := [.int x1]) (rest := []) C hM h17 (hM.cst 11 0 rfl) (by decide) (cc_J4_charAt_5068e l D ca A α_1 r_4.2 x1 _ hr_5) cw_X11_486 ⟨rfl, rfl⟩ ⟨Nat.le_of_ble_eq_true rfl, Nat.le_of_ble_eq_true rfl⟩ rfl rfl (cats_le _ (Nat.le_of_ble_eq_true rfl)) hl.1 dX11_signOf_38 ⟨Nat.le_of_ble_eq_true rfl, Nat.le_of_ble_eq_true rfl⟩) hM (fun H locs hM => ?_)
      refine W_st (st' := [.int r_5.1]) rfl ?_
      refine W.widen (k := 5) (n := 612) (Nat.le_of_ble_eq_true rfl) (Nat.le_of_ble_eq_true rfl) ?_
      obtain ⟨c_3, h⟩ := ko_of h
      exact c_xr h (c_rc (o := (r_5.1, r_5.2)) C hM (fun h => by cases h) hr hlk dX11_signOf_41 (by rw [if_pos (Classical.not_not.mp c_3)]))
    · have h := br_F c_2 h
      exact gc_X11_signOf_23 C hr hlk h17 hst hout  α_1 _ _ _ _ hM (lv_sub hl [] rfl) h
