/-! Verbs by a guard; calls behind which the stack is written out. -/
section CV
variable {p : Program} {l : Launch} {e : Env} {R : Room} {s : State} {m : MethodId} {args : Array Value} {below : List Frame} {meth : Method} {c : Code} {H : Heap} {locs : List Loc} {cells slots : Nat} {Q : State → Prop}
variable {cc : ByteArray} {nL pc : Nat} {own : String} {ls : Array Slot} {rest st : List Value} {D : va_G} {ca : Nat → ClassId} {b : Bool} {A : Nat → Prop} {H0 : Heap} {σ0 σ : cS} {α0 α : cAl}
theorem c_vtextd (C : cC p s m args c cc nL own D ca A α0) (hM : cM D ca b A s.heap σ0 α0 σ α H locs) {i index : Nat} {x : Option Nat} (hd : dv x = some i) (hl : Cond.fieldLink own index "Lorewick$Verb" "text" "Ljava/lang/String;" ∈ wl) (hdg : decode cc pc = .ok (.getfield index, 3))
    (kk : W p l e R s m args below meth c H locs cells slots Q (F0 m (pc + 3) ls (cr α 19 (some (vT.getD i 0)) :: rest))) : W p l e R s m args below meth c H locs cells slots Q (F0 m pc ls (cr α 18 x :: rest)) := by
  obtain ⟨rfl, hi⟩ := dv_of hd
  exact c_vtext C hM hi hl hdg kk
theorem c_vpartsd (C : cC p s m args c cc nL own D ca A α0) (hM : cM D ca b A s.heap σ0 α0 σ α H locs) {i index : Nat} {x : Option Nat} (hd : dv x = some i) (hl : Cond.fieldLink own index "Lorewick$Verb" "parts" "I" ∈ wl) (hdg : decode cc pc = .ok (.getfield index, 3))
    (kk : W p l e R s m args below meth c H locs cells slots Q (F0 m (pc + 3) ls (.int (vP.getD i 0) :: rest))) : W p l e R s m args below meth c H locs cells slots Q (F0 m pc ls (cr α 18 x :: rest)) := by
  obtain ⟨rfl, hi⟩ := dv_of hd
  exact c_vparts C hM hi hl hdg kk
theorem c_vnounsd (C : cC p s m args c cc nL own D ca A α0) (hM : cM D ca b A s.heap σ0 α0 σ α H locs) {i index : Nat} {x : Option Nat} (hd : dv x = some i) (hl : Cond.fieldLink own index "Lorewick$Verb" "nouns" "I" ∈ wl) (hdg : decode cc pc = .ok (.getfield index, 3))
    (kk : W p l e R s m args below meth c H locs cells slots Q (F0 m (pc + 3) ls (.int (vQ.getD i 0) :: rest))) : W p l e R s m args below meth c H locs cells slots Q (F0 m pc ls (cr α 18 x :: rest)) := by
  obtain ⟨rfl, hi⟩ := dv_of hd
  exact c_vnouns C hM hi hl hdg kk
theorem lvv_of {x : Option Nat} {i : Nat} (hd : dv x = some i) : lvv x = true := by
  obtain ⟨rfl, hi⟩ := dv_of hd
  exact decide_eq_true hi
theorem xr_int {x : Int32} {v : Int32} (hc : x = v) (k : W p l e R s m args below meth c H locs cells slots Q (F0 m pc ls (.int v :: rest))) : W p l e R s m args below meth c H locs cells slots Q (F0 m pc ls (.int x :: rest)) := hc ▸ k
end CV
