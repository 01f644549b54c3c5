/-! Verbs by a guard; calls behind which the stack is written out. -/
section CV
variable {p : Program} {l : Launch} {e : Env} {R : Room} {s : State} {m : MethodId} {args : Array Value} {below : List Frame} {meth : Method} {c : Code} {H : Heap} {locs : List Loc} {cells slots : Nat} {Q : State → Prop}
variable {cc : ByteArray} {nL pc : Nat} {own : String} {ls : Array Slot} {rest st : List Value} {D : va_G} {ca : Nat → ClassId} {b : Bool} {A : Nat → Prop} {H0 : Heap} {σ0 σ : cS} {α0 α : cAl}
theorem c_vtextd (C : cC p s m args c cc nL own D ca A α0) (hM : cM D ca b A s.heap σ0 α0 σ α H locs) {i index : Nat} {x : Option Nat} (hd : dv x = some i) (hl : Cond.fieldLink own index "Lorewick$Verb" "text" "Ljava/lang/String;" ∈ wl) (hdg : decode cc pc = .ok (.getfield index, 3))
    (kk : W p l e R s m args below meth c H locs cells slots Q (F0 m (pc + 3) ls (cr α 19 (some (vT.getD i 0)) :: rest))) : W p l e R s m args below meth c H locs cells slots Q (F0 m pc ls (cr α 18 x :: rest)) := by
  obtain ⟨rfl, hi⟩ := dv_of hd
  exact c_vtext C hM hi hl hdg kk
theorem c_vpartsd (C : cC p s m args c cc nL own D ca A α0) (hM : cM D ca b A s.heap σ0 α0 σ α H locs) {i index : Nat} {x : Option Nat} (hd : dv x = some i) (hl : Cond.fieldLink own index "Lorewick$Verb" "parts" "I" ∈ wl) (hdg : decode cc pc = .ok (.getfield index, 3))
    (kk : W p l e R s m args below meth c H locs cells slots Q (F0 m (pc + 3) ls (.int (vP.getD i 0) :: rest))) : W p l e R s m args below meth c H locs cells slots Q (F0 m pc ls (cr α 18 x :: rest)) := by
  obtain ⟨rfl, hi⟩ := dv_of hd
  exact c_vparts C hM hi hl hdg kk
theorem c_vnounsd (C : cC p s m args c cc nL own D ca A α0) (hM : cM D ca b A s.heap σ0 α0 σ α H locs) {i index : Nat} {x : Option Nat} (hd : dv x = some i) (hl : Cond.fieldLink own index "Lorewick$Verb" "nouns" "I" ∈ wl) (hdg : decode cc pc = .ok (.getfield index, 3))
    (kk : W p l e R s m args below meth c H locs cells slots Q (F0 m (pc + 3) ls (.int (vQ.getD i 0) :: rest))) : W p l e R s m args below meth c H locs cells slots Q (F0 m pc ls (cr α 18 x :: rest)) := by
  obtain ⟨rfl, hi⟩ := dv_of hd
  exact c_vnouns C hM hi hl hdg kk
theorem lvv_of {x : Option Nat} {i : Nat} (hd : dv x = some i) : lvv x = true := by
  obtain ⟨rfl, hi⟩ := dv_of hd
  exact decide_eq_true hi
theorem xr_int {x : Int32} {v : Int32} (hc : x = v) (k : W p l e R s m args below meth c H locs cells slots Q (F0 m pc ls (.int v :: rest))) : W p l e R s m args below meth c H locs cells slots Q (F0 m pc ls (.int x :: rest)) := hc ▸ k
end CV
theorem xb_some {β γ : Type} {x : Option ((Nat ⊕ β) × cS)} {f : β → cS → Option ((Nat ⊕ γ) × cS)} {o : (Nat ⊕ γ) × cS} (h : xb x f = some o) : ∃ (r : Nat ⊕ β) (u : cS), x = some (r, u) := by
  obtain ⟨r, u, h1, -⟩ := xb_of h
  exact ⟨r, u, h1⟩
section CG2
variable {p : Program} {l : Launch} {e : Env} {R : Room} {s : State} {m : MethodId} {args : Array Value} {below : List Frame} {meth : Method} {c : Code} {H : Heap} {locs : List Loc} {cells slots mc ms pc nL : Nat}
variable {cc : ByteArray} {own : String} {ls : Array Slot} {rest st : List Value} {D : va_G} {ca : Nat → ClassId} {b : Bool} {A : Nat → Prop} {σ0 σ : cS} {α0 α : cAl} {fl : Bool}
theorem c_gox2 {β γ : Type} {x : Option ((Nat ⊕ β) × cS)} {ro : Nat ⊕ β} {u : cS} {T : β → cAl → Option Value} {T2 : γ → cAl → Option Value} {f : β → cS → Option ((Nat ⊕ γ) × cS)} {o : (Nat ⊕ γ) × cS} {av : Array Value} {fl2 : Bool} {mc2 ms2 : Nat}
    (h : xb x f = some o) (hxx : x = some (ro, u)) (hr : vx_Run p l e R s m args below meth c H locs cells slots mc ms (F0 m pc ls st) rest (cQx fl D ca b A α σ (ro.map id T) u av) (cXC fl D ca b A α σ (ro.map id T) u) A) (C : cC p s m args c cc nL own D ca A α0) (hM : cM D ca b A s.heap σ0 α0 σ α H locs) (hfl : fl2 = false → fl = false ∧ α = α0)
    (hout : ∀ x ∈ c.exceptionTable.toList, False) (hlocks : meth.locks = false) (hmc : cells + mc ≤ mc2) (hms : slots + ms ≤ ms2)
    (kk : ∀ (v : β) (H1 : Heap) (locs1 : List Loc) (α1 : cAl), (fl = false → α1 = α) → f v u = some o → cX σ α u α1 → cM D ca b A s.heap σ0 α0 u α1 H1 locs1 → W p l e R s m args below meth c H1 locs1 (cells + mc) (slots + ms) (vx_MQ below (cQx fl2 D ca b A α0 σ0 (o.1.map id T2) o.2) (cXC fl2 D ca b A α0 σ0 (o.1.map id T2) o.2) args s mc2 ms2 A) (F0 m (pc + 3) ls ((T v α1).toList ++ rest))) :
    W p l e R s m args below meth c H locs cells slots (vx_MQ below (cQx fl2 D ca b A α0 σ0 (o.1.map id T2) o.2) (cXC fl2 D ca b A α0 σ0 (o.1.map id T2) o.2) args s mc2 ms2 A) (F0 m pc ls st) := by
  obtain ⟨r', u', e1, e2⟩ := xb_of h
  have e3 := Option.some.inj (hxx.symm.trans e1)
  cases e3
  exact c_gox hr C hM hfl e2 hout hlocks hmc hms kk
end CG2
