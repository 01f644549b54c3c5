/-! Calls, ends, throws. -/
/-- the exceptions, by number -/
def cEx (k : Nat) : String := match k with
  | 1 => "java/lang/IllegalArgumentException"
  | 2 => "java/lang/IllegalStateException"
  | 3 => "java/lang/UnsupportedOperationException"
  | 4 => "java/lang/IndexOutOfBoundsException"
  | 5 => "java/util/NoSuchElementException"
  | _ => "java/lang/ArithmeticException"
/-- a method's start -/
def cPre (D : va_G) (ca : Nat → ClassId) (b : Bool) (A : Nat → Prop) (α : cAl) (σ : cS) (U : State) : Prop := cP D ca α σ U.heap ∧ va_K D cCl (cTys ca) U ∧ cD A α σ ∧ cSh b σ ∧ (∀ q, U.heap.size ≤ q → A q) ∧ cG A α U U.heap
/-- the state behind it -/
def cPo (D : va_G) (ca : Nat → ClassId) (b : Bool) (A : Nat → Prop) (α : cAl) (σ : cS) (u : cS) (α1 : cAl) (t : State) : Prop := cP D ca α1 u t.heap ∧ va_K D cCl (cTys ca) t ∧ cD A α1 u ∧ cSh b u ∧ cX σ α u α1
/-- its end: fl tells whether things may have been made -/
def cQ (fl : Bool) (D : va_G) (ca : Nat → ClassId) (b : Bool) (A : Nat → Prop) (α : cAl) (σ : cS) (rv : cAl → Option Value) (u : cS) : Array Value → State → Outcome → State → Prop := fun _ st oc t => (∃ α1 : cAl, (fl = false → α1 = α) ∧ oc = .returned (rv α1) ∧ cPo D ca b A α σ u α1 t) ∧ va_F A st t
def cQx (fl : Bool) (D : va_G) (ca : Nat → ClassId) (b : Bool) (A : Nat → Prop) (α : cAl) (σ : cS) (ro : Nat ⊕ (cAl → Option Value)) (u : cS) : Array Value → State → Outcome → State → Prop := fun _ st oc t => (∃ (rv : cAl → Option Value) (α1 : cAl), ro = .inr rv ∧ (fl = false → α1 = α) ∧ oc = .returned (rv α1) ∧ cPo D ca b A α σ u α1 t) ∧ va_F A st t
def cXC (fl : Bool) (D : va_G) (ca : Nat → ClassId) (b : Bool) (A : Nat → Prop) (α : cAl) (σ : cS) (ro : Nat ⊕ (cAl → Option Value)) (u : cS) : String → State → State → Prop := fun E st t => (∃ (k : Nat) (α1 : cAl), ro = .inl k ∧ E = cEx k ∧ (fl = false → α1 = α) ∧ cPo D ca b A α σ u α1 t) ∧ va_F A st t
/-- contracts: of a method that returns; of one that may throw -/
abbrev cMet (fl : Bool) (l : Launch) (y : MethodName) (cc : ByteArray) (nL : Nat) (ret : Option FieldType) (rm : Room) (mc ms : Nat) (D : va_G) (ca : Nat → ClassId) (b : Bool) (A : Nat → Prop) (α : cAl) (σ : cS) (As : List Value) (rv : cAl → Option Value) (u : cS) : Prop :=
  Met l y (mWs y cc nL ret) rm (va_Pc As (cPre D ca b A α σ)) (cQ fl D ca b A α σ rv u) mc ms A
abbrev cMetX (fl : Bool) (l : Launch) (y : MethodName) (cc : ByteArray) (nL : Nat) (ret : Option FieldType) (rm : Room) (mc ms : Nat) (D : va_G) (ca : Nat → ClassId) (b : Bool) (A : Nat → Prop) (α : cAl) (σ : cS) (As : List Value) (ro : Nat ⊕ (cAl → Option Value)) (u : cS) : Prop :=
  vx_Met l y (mWs y cc nL ret) rm (va_Pc As (cPre D ca b A α σ)) (cQx fl D ca b A α σ ro u) (cXC fl D ca b A α σ ro u) mc ms A
theorem cPre_blind {D : va_G} {ca : Nat → ClassId} {b : Bool} {A : Nat → Prop} {α : cAl} {σ : cS} {av : List Value} : FrameBlind (va_Pc av (cPre D ca b A α σ)) := fun _ U _ _ q => ⟨q.1, q.2.1, va_K.moved (Vm.Alike.refl _) q.2.2.1, q.2.2.2.1, q.2.2.2.2.1, q.2.2.2.2.2.1, cG.warm (u := U) (State.WarmedH.refl U) q.2.2.2.2.2.2⟩
/-- one call of a method that may throw, in the one that calls it -/
def xb {β γ : Type} (x : Option ((Nat ⊕ β) × cS)) (f : β → cS → Option ((Nat ⊕ γ) × cS)) : Option ((Nat ⊕ γ) × cS) := match x with
  | none => none
  | some (.inl k, u) => some (.inl k, u)
  | some (.inr v, u) => f v u
theorem xb_of {β γ : Type} {x : Option ((Nat ⊕ β) × cS)} {f : β → cS → Option ((Nat ⊕ γ) × cS)} {o : (Nat ⊕ γ) × cS} (h : xb x f = some o) : ∃ (r : Nat ⊕ β) (u : cS), x = some (r, u) ∧ ((∃ k, r = .inl k ∧ o = (.inl k, u)) ∨ ∃ v, r = .inr v ∧ f v u = some o) := by
  match x, h with
  | some (.inl k, u), h => exact ⟨_, _, rfl, Or.inl ⟨k, rfl, (Option.some.inj h).symm⟩⟩
  | some (.inr v, u), h => exact ⟨_, _, rfl, Or.inr ⟨v, rfl, h⟩⟩
def cCallV (own : String) (index : Nat) (C : String) (y : MethodName) (cc : ByteArray) (nL : Nat) (ret : Option FieldType) (n : Nat) : Prop :=
  (Cond.methodLink own index y ∈ wl ∧ Cond.instanceMethod y ∈ wl ∧ Cond.selects C y y ∈ wl ∧ Cond.initialized C ∈ wl ∧ Cond.code y cc nL ret ∈ wl) ∧ y.cls = C ∧ y.cls ≠ "java/lang/invoke/MethodHandle" ∧ y.cls ≠ "java/lang/invoke/VarHandle" ∧ (parseMethodDescriptor y.desc).map (fun d => d.parameters.length) = some n
def cCallS (own : String) (index : Nat) (y : MethodName) (cc : ByteArray) (nL : Nat) (ret : Option FieldType) (n : Nat) : Prop := mCallS own index y cc nL ret n
section CC
variable {p : Program} {l : Launch} {e : Env} {R : Room} {s : State} {m : MethodId} {args : Array Value} {below : List Frame} {meth : Method} {c : Code} {H : Heap} {locs : List Loc} {cells slots : Nat} {Q : State → Prop}
variable {cc : ByteArray} {nL pc : Nat} {own : String} {ls : Array Slot} {rest st : List Value} {D : va_G} {ca : Nat → ClassId} {b : Bool} {A : Nat → Prop} {H0 : Heap} {σ0 σ : cS} {α0 α : cAl}
variable {y : MethodName} {by' : ByteArray} {maxL n index mc ms : Nat} {ret : Option FieldType} {rm : Room} {As : List Value} {fl : Bool}
theorem cM_pre (C : cC p s m args c cc nL own D ca A α0) (hM : cM D ca b A s.heap σ0 α0 σ α H locs) (h17 : 0 < cn σ0 17) : ∀ U : State, U.heap = H → s.WarmedH U.vm → cPre D ca b A α σ U := fun U hU hW => by
  obtain ⟨hP, hD, hSh, hS, hA, hX⟩ := hM
  refine ⟨by rw [hU]; exact hP, va_K.moved hW.alike C.2.2.2.2.2.1, hD, hSh, fun q hq => hA q (Nat.le_trans hS.1 (by rw [← hU]; exact hq)), ?_⟩
  rw [hU]
  exact (cG.warm hW (C.2.2.2.2.2.2.kept hS.2.1)).to hX.2.2 (hX.2.1 17 0 h17)
/-- the call's run -/
theorem c_rV {Qc : Array Value → State → Outcome → State → Prop} {k i : Nat} {x : Option Nat} (C : cC p s m args c cc nL own D ca A α0) (hM : cM D ca b A s.heap σ0 α0 σ α H locs) (h17 : 0 < cn σ0 17) (hd : dr σ k x = some i) (hk : k < 12) (hc : Met l y (mWs y by' maxL ret) rm (va_Pc (cr α k x :: As) (cPre D ca b A α σ)) Qc mc ms A) (hw : cCallV own index (cRn k) y by' maxL ret n) (hrm : rm.cells = mc ∧ rm.slots = ms) (hR : rm.frames + 1 ≤ R.frames ∧ 8 + (maxL + 11) + rm.locals ≤ R.locals) (hn : As.length = n) (hst : st = As.reverse ++ cr α k x :: rest) (hrest : (rest.map fun v => v.category).sum ≤ 8) (hls : ls.size = nL) (hdg : decode cc pc = .ok (.invokevirtual index, 3)) (hRc : cells + mc ≤ R.cells ∧ slots + ms ≤ R.slots) :
    va_Run p l e R s m args below meth c H locs cells slots mc ms (F0 m pc ls st) rest (Qc (cr α k x :: As).toArray) A := by
  obtain ⟨hx, hb, hml, hown, hts, hK, hG⟩ := id C
  obtain ⟨rfl, hi⟩ := dr_of hd
  have hP := hM.1.one (k := k) (by omega) hi
  rw [cE_obj hk] at hP
  exact va_runV (As := As) (rest := rest) ⟨hx, hb, hml, hown, hts⟩ hc (cwV n hts (mws_good hw.1) rfl hrm.1 hrm.2 hw.2 hR) ⟨cPre_blind, va_recv hK hP (cCl_at k hk) (q0 := 0) rfl, fun U hU hW => ⟨rfl, cM_pre C hM h17 U hU hW⟩⟩ rfl hn hls hst (lv_room hrest) hdg hRc
theorem c_rS {Qc : Array Value → State → Outcome → State → Prop} (C : cC p s m args c cc nL own D ca A α0) (hM : cM D ca b A s.heap σ0 α0 σ α H locs) (h17 : 0 < cn σ0 17) (hc : Met l y (mWs y by' maxL ret) rm (va_Pc As (cPre D ca b A α σ)) Qc mc ms A) (hw : mCallS own index y by' maxL ret n) (hrm : rm.cells = mc ∧ rm.slots = ms) (hR : rm.frames + 1 ≤ R.frames ∧ 8 + (maxL + 11) + rm.locals ≤ R.locals) (hn : As.length = n) (hst : st = As.reverse ++ rest) (hrest : (rest.map fun v => v.category).sum ≤ 8) (hls : ls.size = nL) (hdg : decode cc pc = .ok (.invokestatic index, 3)) (hRc : cells + mc ≤ R.cells ∧ slots + ms ≤ R.slots) :
    va_Run p l e R s m args below meth c H locs cells slots mc ms (F0 m pc ls st) rest (Qc As.toArray) A := by
  obtain ⟨hx, hb, hml, hown, hts, hK, hG⟩ := id C
  exact va_runS (As := As) (rest := rest) ⟨hx, hb, hml, hown, hts⟩ hc (va_cwS n hts (mws_goodS hw.1) rfl hrm.1 hrm.2 hw.2 hR) ⟨cPre_blind, fun U hU hW => ⟨rfl, cM_pre C hM h17 U hU hW⟩⟩ rfl hn hls hst (lv_room hrest) hdg hRc
theorem c_rVx {Qc : Array Value → State → Outcome → State → Prop} {XC : String → State → State → Prop} {k i : Nat} {x : Option Nat} (C : cC p s m args c cc nL own D ca A α0) (hM : cM D ca b A s.heap σ0 α0 σ α H locs) (h17 : 0 < cn σ0 17) (hd : dr σ k x = some i) (hk : k < 12) (hc : vx_Met l y (mWs y by' maxL ret) rm (va_Pc (cr α k x :: As) (cPre D ca b A α σ)) Qc XC mc ms A) (hw : cCallV own index (cRn k) y by' maxL ret n) (hrm : rm.cells = mc ∧ rm.slots = ms) (hR : rm.frames + 1 ≤ R.frames ∧ 8 + (maxL + 11) + rm.locals ≤ R.locals) (hn : As.length = n) (hst : st = As.reverse ++ cr α k x :: rest) (hrest : (rest.map fun v => v.category).sum ≤ 8) (hls : ls.size = nL) (hdg : decode cc pc = .ok (.invokevirtual index, 3)) (hRc : cells + mc ≤ R.cells ∧ slots + ms ≤ R.slots) :
    vx_Run p l e R s m args below meth c H locs cells slots mc ms (F0 m pc ls st) rest (Qc (cr α k x :: As).toArray) XC A := by
  obtain ⟨hx, hb, hml, hown, hts, hK, hG⟩ := id C
  obtain ⟨rfl, hi⟩ := dr_of hd
  have hP := hM.1.one (k := k) (by omega) hi
  rw [cE_obj hk] at hP
  exact vx_runV (As := As) (rest := rest) ⟨hx, hb, hml, hown, hts⟩ hc (cwV n hts (mws_good hw.1) rfl hrm.1 hrm.2 hw.2 hR) ⟨cPre_blind, va_recv hK hP (cCl_at k hk) (q0 := 0) rfl, fun U hU hW => ⟨rfl, cM_pre C hM h17 U hU hW⟩⟩ rfl hn hls hst (lv_room hrest) hdg hRc
theorem cM_post {H1 : Heap} {locs1 : List Loc} {u : cS} {α1 : cAl} {t : State} (hM : cM D ca b A H0 σ0 α0 σ α H locs) (h : cPo D ca b A α σ u α1 t) (ht : t.heap = H1) (hS : va_S A H0 H1 locs1) : cM D ca b A H0 σ0 α0 u α1 H1 locs1 := ⟨by rw [← ht]; exact h.1, h.2.2.1, h.2.2.2.1, hS, hM.2.2.2.2.1, hM.2.2.2.2.2.tr h.2.2.2.2⟩
/-- going on behind a call that returns -/
theorem c_run {Qa : State → Outcome → State → Prop} (hr : va_Run p l e R s m args below meth c H locs cells slots mc ms (F0 m pc ls st) rest Qa A) (hS : va_S A H0 H locs) (hF : ∀ st oc t, Qa st oc t → va_F A st t)
    (kk : ∀ (v : Option Value) (st₀ t : State) (H1 : Heap) (locs1 : List Loc), t.heap = H1 → Qa st₀ (.returned v) t → va_S A H0 H1 locs1 → W p l e R s m args below meth c H1 locs1 (cells + mc) (slots + ms) Q (F0 m (pc + 3) ls (v.toList ++ rest))) : W p l e R s m args below meth c H locs cells slots Q (F0 m pc ls st) := by
  intro T hT X
  obtain ⟨v, st₀, t, T', L, h0, X', hL, e1, e2, hq, stp⟩ := hr T hT X
  obtain ⟨hz, hk⟩ := hF _ _ _ hq
  rw [h0] at hz hk
  obtain ⟨t2, a1, b1⟩ := kk v st₀ t T'.heap (locs ++ L) e1.symm hq
    ⟨Nat.le_trans hS.1 (by rw [e1]; exact hz), fun q h1 h2 => by rw [e1, hk q (Nat.lt_of_lt_of_le h1 hS.1) h2]; exact hS.2.1 q h1 h2, fun q hq => by
      rcases List.mem_append.mp hq with h | h
      · exact hS.2.2 q h
      · exact hL q h⟩ T' rfl X'
  exact ⟨t2, stp t2 a1, b1⟩
theorem c_go0 {rv : cAl → Option Value} {u : cS} {av : Array Value} (hr : va_Run p l e R s m args below meth c H locs cells slots mc ms (F0 m pc ls st) rest (cQ false D ca b A α σ rv u av) A) (hM : cM D ca b A H0 σ0 α0 σ α H locs)
    (kk : ∀ (H1 : Heap) (locs1 : List Loc), cM D ca b A H0 σ0 α0 u α H1 locs1 → W p l e R s m args below meth c H1 locs1 (cells + mc) (slots + ms) Q (F0 m (pc + 3) ls ((rv α).toList ++ rest))) : W p l e R s m args below meth c H locs cells slots Q (F0 m pc ls st) := by
  refine c_run hr hM.2.2.2.1 (fun _ _ _ h => h.2) fun v st₀ t H1 locs1 ht hq hS => ?_
  obtain ⟨⟨α1, h1, h2, h3⟩, -⟩ := hq
  cases h1 rfl
  cases h2
  exact kk H1 locs1 (cM_post hM h3 ht hS)
theorem c_go1 {rv : cAl → Option Value} {u : cS} {av : Array Value} (hr : va_Run p l e R s m args below meth c H locs cells slots mc ms (F0 m pc ls st) rest (cQ fl D ca b A α σ rv u av) A) (hM : cM D ca b A H0 σ0 α0 σ α H locs)
    (kk : ∀ (H1 : Heap) (locs1 : List Loc) (α1 : cAl), cX σ α u α1 → cM D ca b A H0 σ0 α0 u α1 H1 locs1 → W p l e R s m args below meth c H1 locs1 (cells + mc) (slots + ms) Q (F0 m (pc + 3) ls ((rv α1).toList ++ rest))) : W p l e R s m args below meth c H locs cells slots Q (F0 m pc ls st) := by
  refine c_run hr hM.2.2.2.1 (fun _ _ _ h => h.2) fun v st₀ t H1 locs1 ht hq hS => ?_
  obtain ⟨⟨α1, h1, h2, h3⟩, -⟩ := hq
  cases h2
  exact kk H1 locs1 α1 h3.2.2.2.2 (cM_post hM h3 ht hS)
/-- behind one that may throw, in a method that may throw -/
theorem c_runX {Qa : State → Outcome → State → Prop} {XC : String → State → State → Prop} (hr : vx_Run p l e R s m args below meth c H locs cells slots mc ms (F0 m pc ls st) rest Qa XC A) (hS : va_S A H0 H locs) (hF : ∀ st oc t, Qa st oc t → va_F A st t) (hFX : ∀ E st t, XC E st t → va_F A st t)
    (kx : ∀ (E : String) (ce : Cell) (q9 : Addr) (st₀ t : State) (H1 : Heap) (locs1 : List Loc), t.heap = H1 → s.vm.Alike t.vm → XC E st₀ t → va_S A H0 H1 locs1 → H1[q9]? = some ce → ce.vm = .none → s.vm.findClass E = some ce.cls → vx_W p l e R s m args below meth c H1 locs1 (cells + mc) (slots + ms) Q (F0 m pc ls rest) q9)
    (kk : ∀ (v : Option Value) (st₀ t : State) (H1 : Heap) (locs1 : List Loc), t.heap = H1 → Qa st₀ (.returned v) t → va_S A H0 H1 locs1 → W p l e R s m args below meth c H1 locs1 (cells + mc) (slots + ms) Q (F0 m (pc + 3) ls (v.toList ++ rest))) : W p l e R s m args below meth c H locs cells slots Q (F0 m pc ls st) := by
  intro T hT X
  rcases hr T hT X with ⟨v, st₀, t, T', L, h0, X', hL, e1, e2, hq, stp⟩ | ⟨q, st₀, t, T', L, E, ce, h0, X', hL, e1, e2, hq, hce, hcv, hcl, stp⟩
  · obtain ⟨k1, k2, k3⟩ := vx_keep h0 e1 hS (fun _ _ h => h) (fun _ h => h) hL (hF _ _ _ hq)
    obtain ⟨t2, a1, b1⟩ := kk v st₀ t T'.heap (locs ++ L) e1.symm hq k3 T' rfl X'
    exact ⟨t2, stp t2 a1, b1⟩
  · obtain ⟨k1, k2, k3⟩ := vx_keep h0 e1 hS (fun _ _ h => h) (fun _ h => h) hL (hFX _ _ _ hq)
    obtain ⟨t2, a1, b1⟩ := kx E ce q st₀ t T'.heap (locs ++ L) e1.symm (by rw [← e2]; exact X'.warmed.alike) hq k3 (by rw [e1]; exact hce) hcv hcl T' rfl X'
    exact ⟨t2, stp.trans a1, b1⟩
/-- a method's ends -/
theorem c_end {t : State} {u : cS} (C : cC p s m args c cc nL own D ca A α0) (hM : cM D ca b A s.heap σ0 α0 u α H locs) (ht : t.heap = H) (hW : s.WarmedH t.vm) : cPo D ca b A α0 σ0 u α t := ⟨by rw [ht]; exact hM.1, va_K.moved hW.alike C.2.2.2.2.2.1, hM.2.1, hM.2.2.1, hM.2.2.2.2.2⟩
theorem c_gox {β γ : Type} {ro : Nat ⊕ β} {u : cS} {T : β → cAl → Option Value} {T2 : γ → cAl → Option Value} {f : β → cS → Option ((Nat ⊕ γ) × cS)} {o : (Nat ⊕ γ) × cS} {av : Array Value} {fl2 : Bool} {mc2 ms2 : Nat}
    (hr : vx_Run p l e R s m args below meth c H locs cells slots mc ms (F0 m pc ls st) rest (cQx fl D ca b A α σ (ro.map id T) u av) (cXC fl D ca b A α σ (ro.map id T) u) A) (C : cC p s m args c cc nL own D ca A α0) (hM : cM D ca b A s.heap σ0 α0 σ α H locs) (hfl : fl2 = false → fl = false ∧ α = α0)
    (hor : (∃ k, ro = .inl k ∧ o = (.inl k, u)) ∨ ∃ v, ro = .inr v ∧ f v u = some o) (hout : ∀ x ∈ c.exceptionTable.toList, False) (hlocks : meth.locks = false) (hmc : cells + mc ≤ mc2) (hms : slots + ms ≤ ms2)
    (kk : ∀ (v : β) (H1 : Heap) (locs1 : List Loc) (α1 : cAl), (fl = false → α1 = α) → f v u = some o → cX σ α u α1 → cM D ca b A s.heap σ0 α0 u α1 H1 locs1 → W p l e R s m args below meth c H1 locs1 (cells + mc) (slots + ms) (vx_MQ below (cQx fl2 D ca b A α0 σ0 (o.1.map id T2) o.2) (cXC fl2 D ca b A α0 σ0 (o.1.map id T2) o.2) args s mc2 ms2 A) (F0 m (pc + 3) ls ((T v α1).toList ++ rest))) :
    W p l e R s m args below meth c H locs cells slots (vx_MQ below (cQx fl2 D ca b A α0 σ0 (o.1.map id T2) o.2) (cXC fl2 D ca b A α0 σ0 (o.1.map id T2) o.2) args s mc2 ms2 A) (F0 m pc ls st) := by
  refine c_runX hr hM.2.2.2.1 (fun _ _ _ h => h.2) (fun _ _ _ h => h.2) (fun E ce q9 st₀ t H1 locs1 ht hvm hx hS h1 h2 h3 => ?_) (fun v st₀ t H1 locs1 ht hq hS => ?_)
  · obtain ⟨⟨k, α1, e1, rfl, e3, e4⟩, -⟩ := hx
    have hM1 := cM_post hM e4 ht hS
    rcases hor with ⟨k', rfl, rfl⟩ | ⟨v, rfl, -⟩
    · cases e1
      exact vx_out (fun x hx => (hout x hx).elim) hlocks h1 h2 h3 (fun t2 ht2 hvm2 => ⟨⟨_, α1, rfl, rfl, fun h => (e3 (hfl h).1).trans (hfl h).2, ⟨by rw [ht2]; exact hM1.1, va_K.moved hvm2 C.2.2.2.2.2.1, hM1.2.1, hM1.2.2.1, hM1.2.2.2.2.2⟩⟩, hS.F ht2⟩) hS.2.2 hmc hms
    · cases e1
  · obtain ⟨⟨rv, α1, e1, e2, e3, e4⟩, -⟩ := hq
    rcases hor with ⟨k', rfl, -⟩ | ⟨v2, rfl, hf⟩
    · cases e1
    · cases e1
      cases e3
      exact kk v2 H1 locs1 α1 e2 hf e4.2.2.2.2 (cM_post hM e4 ht hS)
end CC
section CE
variable {p : Program} {l : Launch} {e : Env} {R : Room} {s : State} {m : MethodId} {args : Array Value} {below : List Frame} {meth : Method} {c : Code} {H : Heap} {locs : List Loc} {mc ms : Nat}
variable {cc : ByteArray} {nL pc : Nat} {own : String} {ls : Array Slot} {D : va_G} {ca : Nat → ClassId} {b : Bool} {A : Nat → Prop} {σ0 σ : cS} {α0 α : cAl} {fl : Bool}
theorem c_ri {o : Int32 × cS} {v : Int32} (C : cC p s m args c cc nL own D ca A α0) (hM : cM D ca b A s.heap σ0 α0 σ α H locs) (hfl : fl = false → α = α0) (hr : meth.sig.returnType = some .int) (hlocks : meth.locks = false) (hd : decode cc pc = .ok (.ireturn, 1)) (h : some (v, σ) = some o) :
    W p l e R s m args below meth c H locs mc ms (MQ below (cQ fl D ca b A α0 σ0 (fun _ => some (.int o.1)) o.2) args s mc ms A) (F0 m pc ls [.int v]) := by
  cases h
  exact W.iret (v := v) C.1 C.2.1 hr (fun t ht hW => ⟨⟨α, hfl, rfl, c_end C hM ht hW⟩, hM.2.2.2.1.F ht⟩) hM.2.2.2.1.2.2 hd hlocks
theorem c_rz {o : Int32 × cS} {v : Int32} (C : cC p s m args c cc nL own D ca A α0) (hM : cM D ca b A s.heap σ0 α0 σ α H locs) (hfl : fl = false → α = α0) (hr : meth.sig.returnType = some .boolean) (hlocks : meth.locks = false) (hd : decode cc pc = .ok (.ireturn, 1)) (h : (if v &&& 1 = v then some (v, σ) else none) = some o) :
    W p l e R s m args below meth c H locs mc ms (MQ below (cQ fl D ca b A α0 σ0 (fun _ => some (.int o.1)) o.2) args s mc ms A) (F0 m pc ls [.int v]) := by
  obtain ⟨h1, h2⟩ := ok_of h
  cases h2
  exact W.zret (v := v) C.1 C.2.1 hr (by show Value.int (v &&& 1) = _; rw [h1]) (fun t ht hW => ⟨⟨α, hfl, rfl, c_end C hM ht hW⟩, hM.2.2.2.1.F ht⟩) hM.2.2.2.1.2.2 hd hlocks
theorem c_rc {o : Int32 × cS} {v : Int32} (C : cC p s m args c cc nL own D ca A α0) (hM : cM D ca b A s.heap σ0 α0 σ α H locs) (hfl : fl = false → α = α0) (hr : meth.sig.returnType = some .char) (hlocks : meth.locks = false) (hd : decode cc pc = .ok (.ireturn, 1)) (h : (if v.toUInt32.toUInt16.toUInt32.toInt32 = v then some (v, σ) else none) = some o) :
    W p l e R s m args below meth c H locs mc ms (MQ below (cQ fl D ca b A α0 σ0 (fun _ => some (.int o.1)) o.2) args s mc ms A) (F0 m pc ls [.int v]) := by
  obtain ⟨h1, h2⟩ := ok_of h
  cases h2
  exact W.zret (v := v) C.1 C.2.1 hr (by show Value.int v.toUInt32.toUInt16.toUInt32.toInt32 = _; rw [h1]) (fun t ht hW => ⟨⟨α, hfl, rfl, c_end C hM ht hW⟩, hM.2.2.2.1.F ht⟩) hM.2.2.2.1.2.2 hd hlocks
theorem c_rl {o : Int64 × cS} {v : Int64} (C : cC p s m args c cc nL own D ca A α0) (hM : cM D ca b A s.heap σ0 α0 σ α H locs) (hfl : fl = false → α = α0) (hr : meth.sig.returnType = some .long) (hlocks : meth.locks = false) (hd : decode cc pc = .ok (.lreturn, 1)) (h : some (v, σ) = some o) :
    W p l e R s m args below meth c H locs mc ms (MQ below (cQ fl D ca b A α0 σ0 (fun _ => some (.long o.1)) o.2) args s mc ms A) (F0 m pc ls [.long v]) := by
  cases h
  exact W.lret (v := v) C.1 C.2.1 hr (fun t ht hW => ⟨⟨α, hfl, rfl, c_end C hM ht hW⟩, hM.2.2.2.1.F ht⟩) hM.2.2.2.1.2.2 hd hlocks
theorem c_rf {o : UInt32 × cS} {v : UInt32} (C : cC p s m args c cc nL own D ca A α0) (hM : cM D ca b A s.heap σ0 α0 σ α H locs) (hfl : fl = false → α = α0) (hr : meth.sig.returnType = some .float) (hlocks : meth.locks = false) (hd : decode cc pc = .ok (.freturn, 1)) (h : some (v, σ) = some o) :
    W p l e R s m args below meth c H locs mc ms (MQ below (cQ fl D ca b A α0 σ0 (fun _ => some (.float o.1)) o.2) args s mc ms A) (F0 m pc ls [.float v]) := by
  cases h
  exact W.fret (v := v) C.1 C.2.1 hr (fun t ht hW => ⟨⟨α, hfl, rfl, c_end C hM ht hW⟩, hM.2.2.2.1.F ht⟩) hM.2.2.2.1.2.2 hd hlocks
theorem c_rd {o : UInt64 × cS} {v : UInt64} (C : cC p s m args c cc nL own D ca A α0) (hM : cM D ca b A s.heap σ0 α0 σ α H locs) (hfl : fl = false → α = α0) (hr : meth.sig.returnType = some .double) (hlocks : meth.locks = false) (hd : decode cc pc = .ok (.dreturn, 1)) (h : some (v, σ) = some o) :
    W p l e R s m args below meth c H locs mc ms (MQ below (cQ fl D ca b A α0 σ0 (fun _ => some (.double o.1)) o.2) args s mc ms A) (F0 m pc ls [.double v]) := by
  cases h
  exact W.dret (v := v) C.1 C.2.1 hr (fun t ht hW => ⟨⟨α, hfl, rfl, c_end C hM ht hW⟩, hM.2.2.2.1.F ht⟩) hM.2.2.2.1.2.2 hd hlocks
theorem c_rv {o : cS} (C : cC p s m args c cc nL own D ca A α0) (hM : cM D ca b A s.heap σ0 α0 σ α H locs) (hfl : fl = false → α = α0) (hr : meth.sig.returnType = none) (hlocks : meth.locks = false) (hd : decode cc pc = .ok (.return_, 1)) (h : some σ = some o) :
    W p l e R s m args below meth c H locs mc ms (MQ below (cQ fl D ca b A α0 σ0 (fun _ => none) o) args s mc ms A) (F0 m pc ls []) := by
  cases h
  exact W.vret C.1 C.2.1 hr (fun t ht hW => ⟨⟨α, hfl, rfl, c_end C hM ht hW⟩, hM.2.2.2.1.F ht⟩) hM.2.2.2.1.2.2 hd hlocks
theorem c_ra {o : Option Nat × cS} {k : Nat} {v : Option Nat} {rt : FieldType} (C : cC p s m args c cc nL own D ca A α0) (hM : cM D ca b A s.heap σ0 α0 σ α H locs) (hfl : fl = false → α = α0) (hr : meth.sig.returnType = some rt) (hrt : c_isR rt = true) (hlocks : meth.locks = false) (hd : decode cc pc = .ok (.areturn, 1)) (h : some (v, σ) = some o) :
    W p l e R s m args below meth c H locs mc ms (MQ below (cQ fl D ca b A α0 σ0 (fun α1 => some (cr α1 k o.1)) o.2) args s mc ms A) (F0 m pc ls [cr α k v]) := by
  cases h
  exact W.aret C.1 C.2.1 hr (by cases rt <;> first | exact Or.inl ⟨_, rfl⟩ | exact Or.inr ⟨_, rfl⟩ | exact absurd hrt (by simp [c_isR])) (va_rf_or _) (fun t ht hW => ⟨⟨α, hfl, rfl, c_end C hM ht hW⟩, hM.2.2.2.1.F ht⟩) hM.2.2.2.1.2.2 hd hlocks
theorem W.mono {Qc Qc' : Array Value → State → Outcome → State → Prop} {g : JFrame} (hm : ∀ o t, Qc args s o t → Qc' args s o t) (k : W p l e R s m args below meth c H locs mc ms (MQ below Qc args s mc ms A) g) : W p l e R s m args below meth c H locs mc ms (MQ below Qc' args s mc ms A) g := by
  intro T hT X
  obtain ⟨t, a1, o, b1, b2, b3, b4⟩ := k T hT X
  exact ⟨t, a1, o, b1, b2, hm _ _ b3, b4⟩
/-- the end of a method that may throw, and doesn't -/
theorem c_xr {γ : Type} {T : γ → cAl → Option Value} {o : (Nat ⊕ γ) × cS} {v : γ} {g : JFrame} (h : some (Sum.inr v, σ) = some o) (k : W p l e R s m args below meth c H locs mc ms (MQ below (cQ fl D ca b A α0 σ0 (T v) σ) args s mc ms A) g) : W p l e R s m args below meth c H locs mc ms (vx_MQ below (cQx fl D ca b A α0 σ0 (o.1.map id T) o.2) (cXC fl D ca b A α0 σ0 (o.1.map id T) o.2) args s mc ms A) g := by
  cases h
  exact vx_ret (W.mono (fun _ _ hq => ⟨hq.1.elim fun α1 hh => ⟨T v, α1, rfl, hh.1, hh.2.1, hh.2.2⟩, hq.2⟩) k)
end CE
