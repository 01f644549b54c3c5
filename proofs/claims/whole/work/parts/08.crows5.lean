section CS5
variable {p : Program} {l : Launch} {e : Env} {R : Room} {s : State} {m : MethodId} {args : Array Value} {below : List Frame} {meth : Method} {c : Code} {H : Heap} {locs : List Loc} {cells slots : Nat} {Q : State → Prop}
variable {cc : ByteArray} {nL pc : Nat} {own : String} {ls : Array Slot} {rest st : List Value} {D : va_G} {ca : Nat → ClassId} {b : Bool} {A : Nat → Prop} {H0 : Heap} {σ0 σ : cS} {α0 α : cAl}
variable {y : MethodName} {by' : ByteArray} {maxL n index mc ms : Nat} {ret : Option FieldType} {rm : Room} {As : List Value}
/-- what a call of a nest mate's private method asks -/
def cCallN (own : String) (index : Nat) (y : MethodName) (host : String) (cc : ByteArray) (nL : Nat) (ret : Option FieldType) (n : Nat) : Prop :=
  (Cond.methodLinkNest own index y host ∈ wn ∧ Cond.initialized y.cls ∈ wl ∧ Cond.code y cc nL ret ∈ wl) ∧ y.cls ≠ "java/lang/invoke/MethodHandle" ∧ y.cls ≠ "java/lang/invoke/VarHandle" ∧ (parseMethodDescriptor y.desc).map (fun d => d.parameters.length) = some n
theorem mws_goodN {y : MethodName} {cc : ByteArray} {nL : Nat} {ret : Option FieldType} (h : Cond.code y cc nL ret ∈ wl) : GoodIn wl (mWs y cc nL ret) := fun w hw => by
  have hm : w ∈ wl := by
    rcases List.mem_cons.mp hw with rfl | hw
    · exact h
    · exact hw
  exact ⟨hm, good_of_word (wl_good w hm)⟩
theorem c_rSN {Qc : Array Value → State → Outcome → State → Prop} {host : String} (C : cC p s m args c cc nL own D ca A α0) (hM : cM D ca b A s.heap σ0 α0 σ α H locs) (h17 : 0 < cn σ0 17) (hc : Met l y (mWs y by' maxL ret) rm (va_Pc As (cPre D ca b A α σ)) Qc mc ms A) (hw : cCallN own index y host by' maxL ret n) (hs : Cond.static y ∈ wl) (hrm : rm.cells = mc ∧ rm.slots = ms) (hR : rm.frames + 1 ≤ R.frames ∧ 8 + (maxL + 11) + rm.locals ≤ R.locals) (hn : As.length = n) (hst : st = As.reverse ++ rest) (hrest : (rest.map fun v => v.category).sum ≤ 8) (hls : ls.size = nL) (hdg : decode cc pc = .ok (.invokestatic index, 3)) (hRc : cells + mc ≤ R.cells ∧ slots + ms ≤ R.slots) :
    va_Run p l e R s m args below meth c H locs cells slots mc ms (F0 m pc ls st) rest (Qc As.toArray) A := by
  obtain ⟨hx, hb, hml, hown, hts, hK, hG⟩ := id C
  exact va_runSN (As := As) (rest := rest) ⟨hx, hb, hml, hown, hts⟩ hc ⟨va_cnB n hts (mws_goodN hw.1.2.2) rfl hrm.1 hrm.2 (hG.1.2.2.2 _ hw.1.1) (hts _ hw.1.2.1) hw.2 hR, hts _ hs, trivial⟩ ⟨cPre_blind, fun U hU hW => ⟨rfl, cM_pre C hM h17 U hU hW⟩⟩ rfl hn hls hst (lv_room hrest) hdg hRc
/-- a cast to the object's own class -/
theorem c_castk (C : cC p s m args c cc nL own D ca A α0) (hM : cM D ca b A H0 σ0 α0 σ α H locs) {k : Nat} {x : Option Nat} (hv : lvq σ k x = true) (hk : k < 12) (hl : Cond.classLink own index (cRn k) ∈ wl) (hdg : decode cc pc = .ok (.checkcast index, 3))
    (kk : W p l e R s m args below meth c H locs cells slots Q (F0 m (pc + 3) ls (cr α k x :: rest))) : W p l e R s m args below meth c H locs cells slots Q (F0 m pc ls (cr α k x :: rest)) := by
  obtain ⟨hx, hb, hml, hown, hts, hK, hG⟩ := id C
  cases x with
  | none => exact lv_castN hx hb hdg kk
  | some i =>
    have hP := hM.1.one (k := k) (by omega) (of_decide_eq_true hv)
    rw [cE_obj hk] at hP
    exact va_castS hx hb hown (hts _ hl) (hK.1 k _ (cCl_at k hk)).2 (va_recv hK hP (cCl_at k hk) (q0 := 0) rfl) hdg kk
theorem cM.ln (hM : cM D ca true A H0 σ0 α0 σ α H locs) (k i n : Nat) (h : (k, i, n) ∈ cLns) : cln σ k i = n := (hM.2.2.1.1 rfl).2.2 _ h
theorem c_lvc (hM : cM D ca true A H0 σ0 α0 σ α H locs) (k j : Nat) (h : (decide (k < 18) && decide (j < cLb.getD k 0)) = true) : lvq σ k (some j) = true := decide_eq_true (dr_of (hM.cst k j h)).2
theorem c_17 (hM : cM D ca true A H0 σ0 α0 σ α H locs) : 0 < cn σ 17 := Nat.lt_of_lt_of_le (by decide) ((hM.2.2.1.1 rfl).2.1 17 (by omega))
theorem c_ne {x v : Int32} (h : ¬ x = v) : x.toInt ≠ v.toInt := fun q => h (Int32.toInt_inj.mp q)
end CS5
