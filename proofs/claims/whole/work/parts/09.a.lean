/-! The library's statics; texts and their bytes. -/
def dt (x : Option Nat) : Option Nat := match x with
  | none => none
  | some i => if i < 17 then some i else none
theorem dt_of {x : Option Nat} {i : Nat} (h : dt x = some i) : x = some i ∧ i < 17 := by
  cases x with
  | none => cases h
  | some j =>
    unfold dt at h
    by_cases q : j < 17
    · simp only [if_pos q] at h; cases h; exact ⟨rfl, q⟩
    · simp only [if_neg q] at h; cases h
section CT9
variable {p : Program} {l : Launch} {e : Env} {R : Room} {s : State} {m : MethodId} {args : Array Value} {below : List Frame} {meth : Method} {c : Code} {H : Heap} {locs : List Loc} {cells slots : Nat} {Q : State → Prop}
variable {cc : ByteArray} {nL pc : Nat} {own : String} {ls : Array Slot} {rest st : List Value} {D : va_G} {ca : Nat → ClassId} {b : Bool} {A : Nat → Prop} {H0 : Heap} {σ0 σ : cS} {α0 α : cAl}
variable {y : MethodName} {by' : ByteArray} {maxL n index mc ms : Nat} {ret : Option FieldType} {rm : Room} {As : List Value}
theorem c_rT {Qc : Array Value → State → Outcome → State → Prop} {i : Nat} {x : Option Nat} (C : cC p s m args c cc nL own D ca A α0) (hM : cM D ca b A s.heap σ0 α0 σ α H locs) (h17 : 0 < cn σ0 17) (hd : dt x = some i) (hc : Met l y (mWs y by' maxL ret) rm (va_Pc (cr α 19 x :: As) (cPre D ca b A α σ)) Qc mc ms A) (hw : cCallV own index "java/lang/String" y by' maxL ret n) (hrm : rm.cells = mc ∧ rm.slots = ms) (hR : rm.frames + 1 ≤ R.frames ∧ 8 + (maxL + 11) + rm.locals ≤ R.locals) (hn : As.length = n) (hst : st = As.reverse ++ cr α 19 x :: rest) (hrest : (rest.map fun v => v.category).sum ≤ 8) (hls : ls.size = nL) (hdg : decode cc pc = .ok (.invokevirtual index, 3)) (hRc : cells + mc ≤ R.cells ∧ slots + ms ≤ R.slots) :
    va_Run p l e R s m args below meth c H locs cells slots mc ms (F0 m pc ls st) rest (Qc (cr α 19 x :: As).toArray) A := by
  obtain ⟨hx, hb, hml, hown, hts, hK, hG⟩ := id C
  obtain ⟨rfl, hi⟩ := dt_of hd
  have hrec : ∃ cell : Cell, H[α 19 i]? = some cell ∧ cell.vm.isStatics = false ∧ s.vm.findClass "java/lang/String" = some cell.cls := by
    rw [congrFun (hM.2.2.2.2.2.2.2 19 (by omega)) i]
    exact vk_recv hG.2.2.2.2.1.1 hi hM.2.2.2.1
  exact va_runV (As := As) (rest := rest) ⟨hx, hb, hml, hown, hts⟩ hc (cwV n hts (mws_good hw.1) rfl hrm.1 hrm.2 hw.2 hR) ⟨cPre_blind, hrec, fun U hU hW => ⟨rfl, cM_pre C hM h17 U hU hW⟩⟩ rfl hn hls hst (lv_room hrest) hdg hRc
end CT9
section CB9
variable {p : Program} {l : Launch} {e : Env} {R : Room} {s : State} {m : MethodId} {args : Array Value} {below : List Frame} {meth : Method} {c : Code} {H : Heap} {locs : List Loc} {cells slots : Nat} {Q : State → Prop}
variable {cc : ByteArray} {nL pc : Nat} {own : String} {ls : Array Slot} {rest st : List Value} {D : va_G} {ca : Nat → ClassId} {b : Bool} {A : Nat → Prop} {H0 : Heap} {σ0 σ : cS} {α0 α : cAl}
theorem c_getDE (C : cC p s m args c cc nL own D ca A α0) (hM : cM D ca b A s.heap σ0 α0 σ α H locs) (h17 : 0 < cn σ0 17) {index : Nat} (hl : Cond.fieldLink own index "java/util/ArrayList" "DEFAULTCAPACITY_EMPTY_ELEMENTDATA" "[Ljava/lang/Object;" ∈ wl) (hdg : decode cc pc = .ok (.getstatic index, 3))
    (kk : W p l e R s m args below meth c H locs cells slots Q (F0 m (pc + 3) ls (cr α 17 (some 0) :: rest))) : W p l e R s m args below meth c H locs cells slots Q (F0 m pc ls rest) := by
  obtain ⟨hx, hb, hml, hown, hts, hK, hG⟩ := C
  refine va_gets hx hb hG.2.2.2.2.2.1 hM.2.2.2.1 hown (hts _ hl) (fun x h => h) hdg ?_
  rw [← hM.2.2.2.2.2.2.1 17 0 h17]
  exact kk
theorem c_getCS (C : cC p s m args c cc nL own D ca A α0) (hM : cM D ca b A s.heap σ0 α0 σ α H locs) {index : Nat} (hl : Cond.fieldLink own index "java/lang/String" "COMPACT_STRINGS" "Z" ∈ wl) (hdg : decode cc pc = .ok (.getstatic index, 3))
    (kk : W p l e R s m args below meth c H locs cells slots Q (F0 m (pc + 3) ls (.int 1 :: rest))) : W p l e R s m args below meth c H locs cells slots Q (F0 m pc ls rest) := by
  obtain ⟨hx, hb, hml, hown, hts, hK, hG⟩ := C
  exact va_gets hx hb hG.2.2.2.2.2.2.1 hM.2.2.2.1 hown (hts _ hl) (fun x h => h) hdg kk
theorem c_sval (C : cC p s m args c cc nL own D ca A α0) (hM : cM D ca b A s.heap σ0 α0 σ α H locs) {i index : Nat} {x : Option Nat} (hd : dt x = some i) (hl : Cond.fieldLink own index "java/lang/String" "value" "[B" ∈ wl) (hdg : decode cc pc = .ok (.getfield index, 3))
    (kk : W p l e R s m args below meth c H locs cells slots Q (F0 m (pc + 3) ls (cr α 21 (some i) :: rest))) : W p l e R s m args below meth c H locs cells slots Q (F0 m pc ls (cr α 19 x :: rest)) := by
  obtain ⟨hx, hb, hml, hown, hts, hK, hG⟩ := C
  obtain ⟨rfl, hi⟩ := dt_of hd
  show W p l e R s m args below meth c H locs cells slots Q (F0 m pc ls (.ref (α 19 i) :: rest))
  rw [congrFun (hM.2.2.2.2.2.2.2 19 (by omega)) i]
  refine vk_getf hx hb (hG.2.2.2.2.1.1.1 i hi).2.2.1 hM.2.2.2.1 hown (hts _ hl) (fun x h => h) hdg ?_
  rw [← congrFun (hM.2.2.2.2.2.2.2 21 (by omega)) i]
  exact kk
theorem c_scod (C : cC p s m args c cc nL own D ca A α0) (hM : cM D ca b A s.heap σ0 α0 σ α H locs) {i index : Nat} {x : Option Nat} (hd : dt x = some i) (hl : Cond.fieldLink own index "java/lang/String" "coder" "B" ∈ wl) (hdg : decode cc pc = .ok (.getfield index, 3))
    (kk : W p l e R s m args below meth c H locs cells slots Q (F0 m (pc + 3) ls (.int 0 :: rest))) : W p l e R s m args below meth c H locs cells slots Q (F0 m pc ls (cr α 19 x :: rest)) := by
  obtain ⟨hx, hb, hml, hown, hts, hK, hG⟩ := C
  obtain ⟨rfl, hi⟩ := dt_of hd
  show W p l e R s m args below meth c H locs cells slots Q (F0 m pc ls (.ref (α 19 i) :: rest))
  rw [congrFun (hM.2.2.2.2.2.2.2 19 (by omega)) i]
  exact vk_getf hx hb (hG.2.2.2.2.1.1.1 i hi).2.1 hM.2.2.2.1 hown (hts _ hl) (fun x h => h) hdg kk
theorem c_tlen (C : cC p s m args c cc nL own D ca A α0) (hM : cM D ca b A s.heap σ0 α0 σ α H locs) {i : Nat} {x : Option Nat} (hd : dt x = some i) (hdg : decode cc pc = .ok (.arraylength, 1))
    (kk : W p l e R s m args below meth c H locs cells slots Q (F0 m (pc + 1) ls (.int (nI (tL.getD i 0)) :: rest))) : W p l e R s m args below meth c H locs cells slots Q (F0 m pc ls (cr α 21 x :: rest)) := by
  obtain ⟨hx, hb, hml, hown, hts, hK, hG⟩ := C
  obtain ⟨rfl, hi⟩ := dt_of hd
  show W p l e R s m args below meth c H locs cells slots Q (F0 m pc ls (.ref (α 21 i) :: rest))
  rw [congrFun (hM.2.2.2.2.2.2.2 21 (by omega)) i]
  exact va_tlen hx hb (hG.2.2.2.2.1.1.1 i hi).2.2.2 hM.2.2.2.1 rfl hdg kk
theorem c_tbald (C : cC p s m args c cc nL own D ca A α0) (hM : cM D ca b A s.heap σ0 α0 σ α H locs) {i : Nat} {x : Option Nat} {j : Int32} (hd : dt x = some i) (hin : vp_in j (tL.getD i 0)) (hdg : decode cc pc = .ok (.baload, 1))
    (kk : W p l e R s m args below meth c H locs cells slots Q (F0 m (pc + 1) ls (.int ((tB.getD i []).getD j.toNatClampNeg 0) :: rest))) : W p l e R s m args below meth c H locs cells slots Q (F0 m pc ls (.int j :: cr α 21 x :: rest)) := by
  obtain ⟨hx, hb, hml, hown, hts, hK, hG⟩ := C
  obtain ⟨rfl, hi⟩ := dt_of hd
  show W p l e R s m args below meth c H locs cells slots Q (F0 m pc ls (.int j :: .ref (α 21 i) :: rest))
  rw [congrFun (hM.2.2.2.2.2.2.2 21 (by omega)) i]
  exact va_tb hx hb (hG.2.2.2.2.1.1.1 i hi).2.2.2 hM.2.2.2.1 hin rfl hdg kk
/-- the rows of digits -/
theorem c_getDO (C : cC p s m args c cc nL own D ca A α0) (hM : cM D ca b A s.heap σ0 α0 σ α H locs) {index : Nat} (hl : Cond.fieldLink own index "java/lang/Integer" "DigitOnes" "[B" ∈ wl) (hdg : decode cc pc = .ok (.getstatic index, 3))
    (kk : W p l e R s m args below meth c H locs cells slots Q (F0 m (pc + 3) ls (cr α 20 (some 2) :: rest))) : W p l e R s m args below meth c H locs cells slots Q (F0 m pc ls rest) := by
  obtain ⟨hx, hb, hml, hown, hts, hK, hG⟩ := C
  refine va_gets hx hb hG.2.2.2.2.2.2.2.2.1.1 hM.2.2.2.1 hown (hts _ hl) (fun x h => h) hdg ?_
  rw [← congrFun (hM.2.2.2.2.2.2.2 20 (by omega)) 2]
  exact kk
theorem c_getDT (C : cC p s m args c cc nL own D ca A α0) (hM : cM D ca b A s.heap σ0 α0 σ α H locs) {index : Nat} (hl : Cond.fieldLink own index "java/lang/Integer" "DigitTens" "[B" ∈ wl) (hdg : decode cc pc = .ok (.getstatic index, 3))
    (kk : W p l e R s m args below meth c H locs cells slots Q (F0 m (pc + 3) ls (cr α 20 (some 3) :: rest))) : W p l e R s m args below meth c H locs cells slots Q (F0 m pc ls rest) := by
  obtain ⟨hx, hb, hml, hown, hts, hK, hG⟩ := C
  refine va_gets hx hb hG.2.2.2.2.2.2.2.2.1.2.2.1 hM.2.2.2.1 hown (hts _ hl) (fun x h => h) hdg ?_
  rw [← congrFun (hM.2.2.2.2.2.2.2 20 (by omega)) 3]
  exact kk
theorem c_DOat (C : cC p s m args c cc nL own D ca A α0) (hM : cM D ca b A s.heap σ0 α0 σ α H locs) {j : Int32} (hin : vp_in j 100) (hdg : decode cc pc = .ok (.baload, 1))
    (kk : W p l e R s m args below meth c H locs cells slots Q (F0 m (pc + 1) ls (.int (nI (48 + j.toNatClampNeg % 10)) :: rest))) : W p l e R s m args below meth c H locs cells slots Q (F0 m pc ls (.int j :: cr α 20 (some 2) :: rest)) := by
  obtain ⟨hx, hb, hml, hown, hts, hK, hG⟩ := C
  show W p l e R s m args below meth c H locs cells slots Q (F0 m pc ls (.int j :: .ref (α 20 2) :: rest))
  rw [congrFun (hM.2.2.2.2.2.2.2 20 (by omega)) 2]
  exact va_tb hx hb hG.2.2.2.2.2.2.2.2.1.2.1 hM.2.2.2.1 hin rfl hdg kk
theorem c_DTat (C : cC p s m args c cc nL own D ca A α0) (hM : cM D ca b A s.heap σ0 α0 σ α H locs) {j : Int32} (hin : vp_in j 100) (hdg : decode cc pc = .ok (.baload, 1))
    (kk : W p l e R s m args below meth c H locs cells slots Q (F0 m (pc + 1) ls (.int (nI (48 + j.toNatClampNeg / 10)) :: rest))) : W p l e R s m args below meth c H locs cells slots Q (F0 m pc ls (.int j :: cr α 20 (some 3) :: rest)) := by
  obtain ⟨hx, hb, hml, hown, hts, hK, hG⟩ := C
  show W p l e R s m args below meth c H locs cells slots Q (F0 m pc ls (.int j :: .ref (α 20 3) :: rest))
  rw [congrFun (hM.2.2.2.2.2.2.2 20 (by omega)) 3]
  exact va_tb hx hb hG.2.2.2.2.2.2.2.2.1.2.2.2 hM.2.2.2.1 hin rfl hdg kk
/-- bytes and booleans stored in an object -/
theorem c_putz (C : cC p s m args c cc nL own D ca A α0) (hM : cM D ca b A s.heap σ0 α0 σ α H locs) {k i f index : Nat} {x : Option Nat} {v : Int32} (hd : dr σ k x = some i) (hk : cK k f = 6) (hv : v &&& 1 = v) (hl : Cond.fieldLink own index (cTt k f).1 (cTt k f).2.1 (cTt k f).2.2.1 ∈ wl) (hfin : (cTt k f).2.2.2 = false ∨ ((cTt k f).1 = own ∧ meth.name = "<init>")) (hdg : decode cc pc = .ok (.putfield index, 3))
    (kk : ∀ (H1 : Heap) (locs1 : List Loc), cM D ca b A s.heap σ0 α0 (uI σ k i f v) α H1 locs1 → W p l e R s m args below meth c H1 locs1 cells slots Q (F0 m (pc + 3) ls rest)) : W p l e R s m args below meth c H locs cells slots Q (F0 m pc ls (.int v :: cr α k x :: rest)) := by
  obtain ⟨rfl, hi⟩ := dr_of hd
  have hkf := cK_lt (k := k) (f := f) (by omega)
  have hP := (hM.1 k i (by omega) hi).ob (by omega)
  rw [cE_obj hkf.1] at hP
  show W p l e R s m args below meth c H locs cells slots Q (F0 m pc ls (.int v :: .ref (α k i) :: rest))
  have ht := c_ty6 k hkf.1 f hkf.2 hk
  refine c_putO C hP hM.2.2.2.1 (hM.2.1.2 k i (by omega) hi (by omega)) hkf.1 hkf.2 hl hfin (v := .int v) (by rw [ht]; show Value.int (v &&& 1) = _; rw [hv]) (by rw [ht]; exact m_fitz hv) (by simpa using hkf.2) hdg fun H1 locs1 h1 h2 h3 => ?_
  rw [uI_o (ca := ca) hkf.1 (by omega)] at h1
  exact kk H1 locs1 ⟨hM.1.upd hM.2.1 (by omega) hi rfl h1 h2 uI_e, hM.2.1, cSh_n hM.2.2.1 rfl rfl rfl, h3, hM.2.2.2.2⟩
theorem c_putb (C : cC p s m args c cc nL own D ca A α0) (hM : cM D ca b A s.heap σ0 α0 σ α H locs) {k i f index : Nat} {x : Option Nat} {v : Int32} (hd : dr σ k x = some i) (hk : cK k f = 7) (hv : v.toInt8.toInt32 = v) (hl : Cond.fieldLink own index (cTt k f).1 (cTt k f).2.1 (cTt k f).2.2.1 ∈ wl) (hfin : (cTt k f).2.2.2 = false ∨ ((cTt k f).1 = own ∧ meth.name = "<init>")) (hdg : decode cc pc = .ok (.putfield index, 3))
    (kk : ∀ (H1 : Heap) (locs1 : List Loc), cM D ca b A s.heap σ0 α0 (uI σ k i f v) α H1 locs1 → W p l e R s m args below meth c H1 locs1 cells slots Q (F0 m (pc + 3) ls rest)) : W p l e R s m args below meth c H locs cells slots Q (F0 m pc ls (.int v :: cr α k x :: rest)) := by
  obtain ⟨rfl, hi⟩ := dr_of hd
  have hkf := cK_lt (k := k) (f := f) (by omega)
  have hP := (hM.1 k i (by omega) hi).ob (by omega)
  rw [cE_obj hkf.1] at hP
  show W p l e R s m args below meth c H locs cells slots Q (F0 m pc ls (.int v :: .ref (α k i) :: rest))
  have ht := c_ty7 k hkf.1 f hkf.2 hk
  have hfb : fits .byte (.int v) = true := by rw [← hv]; exact pk_fb v
  refine c_putO C hP hM.2.2.2.1 (hM.2.1.2 k i (by omega) hi (by omega)) hkf.1 hkf.2 hl hfin (v := .int v) (by rw [ht]; show Value.int v.toInt8.toInt32 = _; rw [hv]) (by rw [ht]; exact hfb) (by simpa using hkf.2) hdg fun H1 locs1 h1 h2 h3 => ?_
  rw [uI_o (ca := ca) hkf.1 (by omega)] at h1
  exact kk H1 locs1 ⟨hM.1.upd hM.2.1 (by omega) hi rfl h1 h2 uI_e, hM.2.1, cSh_n hM.2.2.1 rfl rfl rfl, h3, hM.2.2.2.2⟩
end CB9
section CB8
variable {p : Program} {l : Launch} {e : Env} {R : Room} {s : State} {m : MethodId} {args : Array Value} {below : List Frame} {meth : Method} {c : Code} {H : Heap} {locs : List Loc} {mc ms : Nat}
variable {cc : ByteArray} {nL pc : Nat} {own : String} {ls : Array Slot} {D : va_G} {ca : Nat → ClassId} {b : Bool} {A : Nat → Prop} {σ0 σ : cS} {α0 α : cAl} {fl : Bool}
theorem c_rb {o : Int32 × cS} {v : Int32} (C : cC p s m args c cc nL own D ca A α0) (hM : cM D ca b A s.heap σ0 α0 σ α H locs) (hfl : fl = false → α = α0) (hr : meth.sig.returnType = some .byte) (hlocks : meth.locks = false) (hd : decode cc pc = .ok (.ireturn, 1)) (h : (if v.toInt8.toInt32 = v then some (v, σ) else none) = some o) :
    W p l e R s m args below meth c H locs mc ms (MQ below (cQ fl D ca b A α0 σ0 (fun _ => some (.int o.1)) o.2) args s mc ms A) (F0 m pc ls [.int v]) := by
  obtain ⟨h1, h2⟩ := ok_of h
  cases h2
  exact W.zret (v := v) C.1 C.2.1 hr (by show Value.int v.toInt8.toInt32 = _; rw [h1]) (fun t ht hW => ⟨⟨α, hfl, rfl, c_end C hM ht hW⟩, hM.2.2.2.1.F ht⟩) hM.2.2.2.1.2.2 hd hlocks
end CB8
