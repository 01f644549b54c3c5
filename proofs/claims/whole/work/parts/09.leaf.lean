/-! The library's members: what they make of the state. -/
def dt (x : Option Nat) : Option Nat := match x with
  | none => none
  | some i => if i < 17 then some i else none
theorem dt_of {x : Option Nat} {i : Nat} (h : dt x = some i) : x = some i ∧ i < 17 := by
  cases x with
  | none => cases h
  | some j =>
    unfold dt at h
    by_cases q : j < 17
    · simp only [if_pos q] at h; cases h; exact ⟨rfl, q⟩
    · simp only [if_neg q] at h; cases h
section CT9
variable {p : Program} {l : Launch} {e : Env} {R : Room} {s : State} {m : MethodId} {args : Array Value} {below : List Frame} {meth : Method} {c : Code} {H : Heap} {locs : List Loc} {cells slots : Nat} {Q : State → Prop}
variable {cc : ByteArray} {nL pc : Nat} {own : String} {ls : Array Slot} {rest st : List Value} {D : va_G} {ca : Nat → ClassId} {b : Bool} {A : Nat → Prop} {H0 : Heap} {σ0 σ : cS} {α0 α : cAl}
variable {y : MethodName} {by' : ByteArray} {maxL n index mc ms : Nat} {ret : Option FieldType} {rm : Room} {As : List Value}
theorem c_rT {Qc : Array Value → State → Outcome → State → Prop} {i : Nat} {x : Option Nat} (C : cC p s m args c cc nL own D ca A α0) (hM : cM D ca b A s.heap σ0 α0 σ α H locs) (h17 : 0 < cn σ0 17) (hd : dt x = some i) (hc : Met l y (mWs y by' maxL ret) rm (va_Pc (cr α 19 x :: As) (cPre D ca b A α σ)) Qc mc ms A) (hw : cCallV own index "java/lang/String" y by' maxL ret n) (hrm : rm.cells = mc ∧ rm.slots = ms) (hR : rm.frames + 1 ≤ R.frames ∧ 8 + (maxL + 11) + rm.locals ≤ R.locals) (hn : As.length = n) (hst : st = As.reverse ++ cr α 19 x :: rest) (hrest : (rest.map fun v => v.category).sum ≤ 8) (hls : ls.size = nL) (hdg : decode cc pc = .ok (.invokevirtual index, 3)) (hRc : cells + mc ≤ R.cells ∧ slots + ms ≤ R.slots) :
    va_Run p l e R s m args below meth c H locs cells slots mc ms (F0 m pc ls st) rest (Qc (cr α 19 x :: As).toArray) A := by
  obtain ⟨hx, hb, hml, hown, hts, hK, hG⟩ := id C
  obtain ⟨rfl, hi⟩ := dt_of hd
  have hrec : ∃ cell : Cell, H[α 19 i]? = some cell ∧ cell.vm.isStatics = false ∧ s.vm.findClass "java/lang/String" = some cell.cls := by
    rw [congrFun (hM.2.2.2.2.2.2.2 19 (by omega)) i]
    exact vk_recv hG.2.2.2.2.1.1 hi hM.2.2.2.1
  exact va_runV (As := As) (rest := rest) ⟨hx, hb, hml, hown, hts⟩ hc (cwV n hts (mws_good hw.1) rfl hrm.1 hrm.2 hw.2 hR) ⟨cPre_blind, hrec, fun U hU hW => ⟨rfl, cM_pre C hM h17 U hU hW⟩⟩ rfl hn hls hst (lv_room hrest) hdg hRc
end CT9
def fc_AL_size (σ : cS) (x0 : Option Nat) : Option (Int32 × cS) := (dr σ 10 x0).bind fun i => some (cI σ 10 i 2, σ)
def fc_AL_isEmpty (σ : cS) (x0 : Option Nat) : Option (Int32 × cS) := (dr σ 10 x0).bind fun i => some ((if cI σ 10 i 2 = 0 then 1 else 0), σ)
def fc_AL_get (σ : cS) (x0 : Option Nat) (x1 : Int32) (t : Nat) : Option (Option Nat × cS) :=
  (dr σ 10 x0).bind fun i =>
  if ¬ (0 ≤ x1 ∧ x1 < cI σ 10 i 2) then none else
  (dr σ 17 (cR σ 10 i 1)).bind fun a =>
  if ¬ (cel σ a = t ∧ x1.toNatClampNeg < cln σ 17 a) then none else
  some (cR σ 17 a x1.toNatClampNeg, σ)
/-- a row of references grown: the new one holds what the old held -/
def uG (σ : cS) (n t a : Nat) : cS := ((uN σ 17 n t).1, (uN σ 17 n t).2.1, (uN σ 17 n t).2.2.1, (uN σ 17 n t).2.2.2.1, (uN σ 17 n t).2.2.2.2.1, (fun k' i' f' => if k' = 17 ∧ i' = σ.1 17 ∧ f' < σ.2.1 17 a then σ.2.2.2.2.2 17 a f' else (uN σ 17 n t).2.2.2.2.2 k' i' f'))
/-- how long it becomes -/
def alen (n : Nat) : Nat := if n = 0 then 10 else n + n / 2
def fc_AL_add (σ : cS) (x0 x1 : Option Nat) (t : Nat) : Option (Int32 × cS) :=
  (dr σ 10 x0).bind fun i =>
  (dr σ 17 (cR σ 10 i 1)).bind fun a =>
  let z := cI σ 10 i 2
  if ¬ (0 ≤ z ∧ z.toNatClampNeg ≤ cln σ 17 a ∧ cln σ 17 a ≤ 120 ∧ cln σ 17 a ≠ 1 ∧ (cln σ 17 a = 0 → a = 0) ∧ (cln σ 17 a ≠ 0 → cel σ a = t ∧ a ≠ 0) ∧ (t = 7 ∨ t = 9) ∧ lvq σ t x1 = true ∧ x1 ≠ none) then none else
  let σ1 := uI σ 10 i 0 (cI σ 10 i 0 + 1)
  if z.toNatClampNeg < cln σ 17 a then some (1, uI (uR σ1 17 a z.toNatClampNeg x1) 10 i 2 (z + 1))
  else some (1, uI (uR (uR (uG σ1 (alen (cln σ 17 a)) t a) 10 i 1 (some (cn σ 17))) 17 (cn σ 17) z.toNatClampNeg x1) 10 i 2 (z + 1))
/-- a row of ints filled -/
def uF (σ : cS) (i : Nat) (v : Int32) : cS := (σ.1, σ.2.1, σ.2.2.1, (fun k' i' f' => if k' = 12 ∧ i' = i ∧ f' < σ.2.1 12 i then v else σ.2.2.2.1 k' i' f'), σ.2.2.2.2)
def fc_AR_fill (σ : cS) (x0 : Option Nat) (x1 : Int32) : Option cS := (dr σ 12 x0).bind fun i => if ¬ cln σ 12 i ≤ 1000 then none else some (uF σ i x1)
def bc1 (x : Int64) : Int64 := x - ((x.toUInt64 >>> (1 : UInt64)).toInt64 &&& 6148914691236517205)
def bc2 (x : Int64) : Int64 := (x &&& 3689348814741910323) + ((x.toUInt64 >>> (2 : UInt64)).toInt64 &&& 3689348814741910323)
def bc3 (x : Int64) : Int64 := (x + (x.toUInt64 >>> (4 : UInt64)).toInt64) &&& 1085102592571150095
def bc4 (k : UInt64) (x : Int64) : Int64 := x + (x.toUInt64 >>> k).toInt64
def bcount (x : Int64) : Int32 := (bc4 32 (bc4 16 (bc4 8 (bc3 (bc2 (bc1 x)))))).toInt32 &&& 127
def fc_L_bits (σ : cS) (x0 : Int64) : Option (Int32 × cS) := some (bcount x0, σ)
def fc_S_len (σ : cS) (x0 : Option Nat) : Option (Int32 × cS) := (dt x0).bind fun i => some (nI (tL.getD i 0), σ)
def fc_S_at (σ : cS) (x0 : Option Nat) (x1 : Int32) : Option (Int32 × cS) := (dt x0).bind fun i => if ¬ (0 ≤ x1 ∧ x1.toNatClampNeg < tL.getD i 0) then none else some ((tB.getD i []).getD x1.toNatClampNeg 0, σ)
def fc_S_ix (σ : cS) (x0 : Option Nat) (x1 : Int32) : Option (Int32 × cS) := (dt x0).bind fun i => some ((match (tB.getD i []).findIdx? (fun v => v == x1) with | some j => nI j | none => -1), σ)

abbrev rc_AL_size : Room := { frames := 0, cells := 0, slots := 0, locals := 0 }
theorem cc_AL_size (l : Launch) (D : va_G) (ca : Nat → ClassId) (A : Nat → Prop) (α : cAl) (σ : cS) (x0 : Option Nat) (o : Int32 × cS) (h : fc_AL_size σ x0 = some o) : cMet false l yJx4a65c_size_8abf5 cJx4a65c_size_8abf5 1 ((some FieldType.int)) rc_AL_size 0 0 D ca true A α σ [cr α 10 x0] (fun _ => some (.int o.1)) o.2 := by
  sorry
abbrev rc_AL_isEmpty : Room := { frames := 0, cells := 0, slots := 0, locals := 0 }
theorem cc_AL_isEmpty (l : Launch) (D : va_G) (ca : Nat → ClassId) (A : Nat → Prop) (α : cAl) (σ : cS) (x0 : Option Nat) (o : Int32 × cS) (h : fc_AL_isEmpty σ x0 = some o) : cMet false l yJx4a65c_isEmpty_aae02 cJx4a65c_isEmpty_aae02 1 ((some FieldType.boolean)) rc_AL_isEmpty 0 0 D ca true A α σ [cr α 10 x0] (fun _ => some (.int o.1)) o.2 := by
  sorry
abbrev rc_AL_get : Room := { frames := 6, cells := 0, slots := 0, locals := 200 }
theorem cc_AL_get (l : Launch) (D : va_G) (ca : Nat → ClassId) (A : Nat → Prop) (α : cAl) (σ : cS) (x0 : Option Nat) (x1 : Int32) (t : Nat) (o : Option Nat × cS) (h : fc_AL_get σ x0 x1 t = some o) : cMet false l yJx4a65c_get_915e3 cJx4a65c_get_915e3 2 ((some (FieldType.object "java/lang/Object"))) rc_AL_get 0 0 D ca true A α σ [cr α 10 x0, .int x1] (fun α1 => some (cr α1 t o.1)) o.2 := by
  sorry
abbrev rc_AL_add : Room := { frames := 12, cells := 1, slots := 200, locals := 400 }
theorem cc_AL_add (l : Launch) (D : va_G) (ca : Nat → ClassId) (A : Nat → Prop) (α : cAl) (σ : cS) (x0 : Option Nat) (x1 : Option Nat) (t : Nat) (o : Int32 × cS) (h : fc_AL_add σ x0 x1 t = some o) : cMet true l yJx4a65c_add_9ea2d cJx4a65c_add_9ea2d 2 ((some FieldType.boolean)) rc_AL_add 1 200 D ca true A α σ [cr α 10 x0, cr α t x1] (fun _ => some (.int o.1)) o.2 := by
  sorry
abbrev rc_AR_fill : Room := { frames := 0, cells := 0, slots := 0, locals := 0 }
theorem cc_AR_fill (l : Launch) (D : va_G) (ca : Nat → ClassId) (A : Nat → Prop) (α : cAl) (σ : cS) (x0 : Option Nat) (x1 : Int32) (o : cS) (h : fc_AR_fill σ x0 x1 = some o) : cMet false l yJ7_fill_53178 cJ7_fill_53178 4 ((none : Option FieldType)) rc_AR_fill 0 0 D ca true A α σ [cr α 12 x0, .int x1] (fun _ => none) o := by
  sorry
abbrev rc_L_bits : Room := { frames := 0, cells := 0, slots := 0, locals := 0 }
theorem cc_L_bits (l : Launch) (D : va_G) (ca : Nat → ClassId) (A : Nat → Prop) (α : cAl) (σ : cS) (x0 : Int64) (o : Int32 × cS) (h : fc_L_bits σ x0 = some o) : cMet false l yJ13_bitCount_95d88 cJ13_bitCount_95d88 2 ((some FieldType.int)) rc_L_bits 0 0 D ca true A α σ [.long x0] (fun _ => some (.int o.1)) o.2 := by
  sorry
abbrev rc_S_len : Room := { frames := 3, cells := 0, slots := 0, locals := 100 }
theorem cc_S_len (l : Launch) (D : va_G) (ca : Nat → ClassId) (A : Nat → Prop) (α : cAl) (σ : cS) (x0 : Option Nat) (o : Int32 × cS) (h : fc_S_len σ x0 = some o) : cMet false l yJ0_length_8abf5 cJ0_length_8abf5 1 ((some FieldType.int)) rc_S_len 0 0 D ca true A α σ [cr α 19 x0] (fun _ => some (.int o.1)) o.2 := by
  sorry
abbrev rc_S_at : Room := { frames := 6, cells := 0, slots := 0, locals := 200 }
theorem cc_S_at (l : Launch) (D : va_G) (ca : Nat → ClassId) (A : Nat → Prop) (α : cAl) (σ : cS) (x0 : Option Nat) (x1 : Int32) (o : Int32 × cS) (h : fc_S_at σ x0 x1 = some o) : cMet false l yJ0_charAt_5068e cJ0_charAt_5068e 2 ((some FieldType.char)) rc_S_at 0 0 D ca true A α σ [cr α 19 x0, .int x1] (fun _ => some (.int o.1)) o.2 := by
  sorry
abbrev rc_S_ix : Room := { frames := 8, cells := 0, slots := 0, locals := 300 }
theorem cc_S_ix (l : Launch) (D : va_G) (ca : Nat → ClassId) (A : Nat → Prop) (α : cAl) (σ : cS) (x0 : Option Nat) (x1 : Int32) (o : Int32 × cS) (h : fc_S_ix σ x0 x1 = some o) : cMet false l yJ0_indexOf_0f7a4 cJ0_indexOf_0f7a4 2 ((some FieldType.int)) rc_S_ix 0 0 D ca true A α σ [cr α 19 x0, .int x1] (fun _ => some (.int o.1)) o.2 := by
  sorry
