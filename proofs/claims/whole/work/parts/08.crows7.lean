/-! Constructors' calls. -/
theorem c_obj1 : Cond.instanceMethod Lib.objectInit ∈ wl := wl_in (i := 50) (by decide +kernel)
theorem c_obj2 : Cond.code Lib.objectInit ⟨#[0xb1]⟩ 1 none ∈ wl := wl_in (i := 51) (by decide +kernel)
def cCallI (own : String) (index : Nat) (y : MethodName) (cc : ByteArray) (nL n : Nat) : Prop :=
  (Cond.methodLink own index y ∈ wl ∧ Cond.instanceMethod y ∈ wl ∧ Cond.initialized y.cls ∈ wl ∧ Cond.code y cc nL none ∈ wl) ∧ y.name = "<init>" ∧ y.cls ≠ "java/lang/invoke/MethodHandle" ∧ y.cls ≠ "java/lang/invoke/VarHandle" ∧ (parseMethodDescriptor y.desc).map (fun d => d.parameters.length) = some n
def cCallIN (own : String) (index : Nat) (y : MethodName) (host : String) (cc : ByteArray) (nL n : Nat) : Prop :=
  (Cond.methodLinkNest own index y host ∈ wn ∧ Cond.instanceMethod y ∈ wl ∧ Cond.initialized y.cls ∈ wl ∧ Cond.code y cc nL none ∈ wl) ∧ y.name = "<init>" ∧ y.cls ≠ "java/lang/invoke/MethodHandle" ∧ y.cls ≠ "java/lang/invoke/VarHandle" ∧ (parseMethodDescriptor y.desc).map (fun d => d.parameters.length) = some n
section CI
variable {p : Program} {l : Launch} {e : Env} {R : Room} {s : State} {m : MethodId} {args : Array Value} {below : List Frame} {meth : Method} {c : Code} {H : Heap} {locs : List Loc} {cells slots : Nat} {Q : State → Prop}
variable {cc : ByteArray} {nL pc : Nat} {own : String} {ls : Array Slot} {rest st : List Value} {D : va_G} {ca : Nat → ClassId} {b : Bool} {A : Nat → Prop} {H0 : Heap} {σ0 σ : cS} {α0 α : cAl}
variable {y : MethodName} {by' : ByteArray} {maxL n index mc ms : Nat} {rm : Room} {As : List Value}
theorem c_oinit (C : cC p s m args c cc nL own D ca A α0) {k i idx : Nat} {x : Option Nat} (hd : dr σ k x = some i) (hl : Cond.methodLink own idx Lib.objectInit ∈ wl) (hls : ls.size = nL) (hdg : decode cc pc = .ok (.invokespecial idx, 3)) (hrest : (rest.map fun v => v.category).sum ≤ 8) (hf : 1 ≤ R.frames) (hlo : 20 ≤ R.locals)
    (kk : W p l e R s m args below meth c H locs cells slots Q (F0 m (pc + 3) ls rest)) : W p l e R s m args below meth c H locs cells slots Q (F0 m pc ls (cr α k x :: rest)) := by
  obtain ⟨hx, hb, hml, hown, hts, hK, hG⟩ := id C
  obtain ⟨rfl, hi⟩ := dr_of hd
  exact W.objInit hx hb hown (hts _ hl) (hts _ c_obj1) (hts _ c_obj2) rfl (hls.trans hml.symm) rfl hdg hf (by show 2 * 0 + _ + 12 ≤ _; omega) kk
theorem c_rI {Qc : Array Value → State → Outcome → State → Prop} {k j : Nat} {x : Option Nat} (C : cC p s m args c cc nL own D ca A α0) (hM : cM D ca b A s.heap σ0 α0 σ α H locs) (h17 : 0 < cn σ0 17) (hd : dr σ k x = some j) (hc : Met l y (mWs y by' maxL none) rm (va_Pc (cr α k x :: As) (cPre D ca b A α σ)) Qc mc ms A) (hw : cCallI own index y by' maxL n) (hrm : rm.cells = mc ∧ rm.slots = ms) (hR : rm.frames + 1 ≤ R.frames ∧ 8 + (maxL + 11) + rm.locals ≤ R.locals) (hn : As.length = n) (hst : st = As.reverse ++ cr α k x :: rest) (hrest : (rest.map fun v => v.category).sum ≤ 8) (hls : ls.size = nL) (hdg : decode cc pc = .ok (.invokespecial index, 3)) (hRc : cells + mc ≤ R.cells ∧ slots + ms ≤ R.slots) :
    va_Run p l e R s m args below meth c H locs cells slots mc ms (F0 m pc ls st) rest (Qc (cr α k x :: As).toArray) A := by
  obtain ⟨hx, hb, hml, hown, hts, hK, hG⟩ := id C
  obtain ⟨rfl, hi⟩ := dr_of hd
  exact va_runI (b := α k j) (As := As) (rest := rest) ⟨hx, hb, hml, hown, hts⟩ hc (cwI n hts (mws_goodN hw.1.2.2.2) rfl hrm.1 hrm.2 (hts _ hw.1.2.2.1) (hts _ hw.1.1) (hts _ hw.1.2.1) hw.2.1 hw.2.2 hR) ⟨cPre_blind, fun U hU hW => ⟨rfl, cM_pre C hM h17 U hU hW⟩⟩ rfl hn hls hst (lv_room hrest) hdg hRc
theorem c_rIN {Qc : Array Value → State → Outcome → State → Prop} {host : String} {k j : Nat} {x : Option Nat} (C : cC p s m args c cc nL own D ca A α0) (hM : cM D ca b A s.heap σ0 α0 σ α H locs) (h17 : 0 < cn σ0 17) (hd : dr σ k x = some j) (hc : Met l y (mWs y by' maxL none) rm (va_Pc (cr α k x :: As) (cPre D ca b A α σ)) Qc mc ms A) (hw : cCallIN own index y host by' maxL n) (hrm : rm.cells = mc ∧ rm.slots = ms) (hR : rm.frames + 1 ≤ R.frames ∧ 8 + (maxL + 11) + rm.locals ≤ R.locals) (hn : As.length = n) (hst : st = As.reverse ++ cr α k x :: rest) (hrest : (rest.map fun v => v.category).sum ≤ 8) (hls : ls.size = nL) (hdg : decode cc pc = .ok (.invokespecial index, 3)) (hRc : cells + mc ≤ R.cells ∧ slots + ms ≤ R.slots) :
    va_Run p l e R s m args below meth c H locs cells slots mc ms (F0 m pc ls st) rest (Qc (cr α k x :: As).toArray) A := by
  obtain ⟨hx, hb, hml, hown, hts, hK, hG⟩ := id C
  obtain ⟨rfl, hi⟩ := dr_of hd
  exact va_runIN (b := α k j) (As := As) (rest := rest) ⟨hx, hb, hml, hown, hts⟩ hc ⟨va_cnB n hts (mws_goodN hw.1.2.2.2) rfl hrm.1 hrm.2 (hG.1.2.2.2 _ hw.1.1) (hts _ hw.1.2.2.1) hw.2.2 hR, hw.2.1, hts _ hw.1.2.1⟩ ⟨cPre_blind, fun U hU hW => ⟨rfl, cM_pre C hM h17 U hU hW⟩⟩ rfl hn hls hst (lv_room hrest) hdg hRc
end CI
