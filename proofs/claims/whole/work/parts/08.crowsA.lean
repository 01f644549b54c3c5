/-! NoSuchElementException: its constructor hands on by another number. -/
section CT
variable {p : Program} {l : Launch} {e : Env} {R : Room} {s : State} {m : MethodId} {args : Array Value} {below : List Frame} {meth : Method} {c : Code} {H : Heap} {locs : List Loc} {cells slots mc ms : Nat}
variable {cc : ByteArray} {nL pc : Nat} {ls : Array Slot} {rest : List Value} {D : va_G} {ca : Nat → ClassId} {b : Bool} {A : Nat → Prop} {σ0 σ : cS} {α0 α : cAl} {fl : Bool}
theorem c_throw5 {γ : Type} {T : γ → cAl → Option Value} {o : (Nat ⊕ γ) × cS} {ik is ic : Nat} {text : String} (C : cC p s m args c cc nL "Lorewick" D ca A α0) (hM : cM D ca b A s.heap σ0 α0 σ α H locs) (hfl : fl = false → α = α0) (hst : l.stackTraces = false) (hout : ∀ x ∈ c.exceptionTable.toList, False) (hlocks : meth.locks = false)
    (hq : (is, text) ∈ cMsg) (hk : Cond.classLink "Lorewick" ik (cEx 5) ∈ wl) (hini : Cond.initialized (cEx 5) ∈ wl) (hic : Cond.methodLink "Lorewick" ic ⟨"java/util/NoSuchElementException", "<init>", "(Ljava/lang/String;)V"⟩ ∈ wl)
    (d0 : decode cc pc = .ok (.new ik, 3)) (d3 : decode cc (pc + 3) = .ok (.dup, 1)) (d4 : decode cc (pc + 4) = .ok (.ldc is, 2)) (d6 : decode cc (pc + 6) = .ok (.invokespecial ic, 3)) (d9 : decode cc (pc + 9) = .ok (.athrow, 1))
    (hsize : ls.size = nL) (hRf : 5 < R.frames) (hRl : (rest.map fun v => v.category).sum + 82 ≤ R.locals) (hRc : cells + 1 ≤ R.cells) (hRs : slots + 6 ≤ R.slots) (hc : cells + 1 ≤ mc) (hs : slots + 6 ≤ ms) (h : some (Sum.inl 5, σ) = some o) :
    W p l e R s m args below meth c H locs cells slots (vx_MQ below (cQx fl D ca b A α0 σ0 (o.1.map id T) o.2) (cXC fl D ca b A α0 σ0 (o.1.map id T) o.2) args s mc ms A) (F0 m pc ls rest) := by
  sorry
theorem c_throwW5 {γ : Type} {T : γ → cAl → Option Value} {o : (Nat ⊕ γ) × cS} {ik is ic : Nat} {text : String} (C : cC p s m args c cc nL "Lorewick" D ca A α0) (hM : cM D ca b A s.heap σ0 α0 σ α H locs) (hfl : fl = false → α = α0) (hst : l.stackTraces = false) (hout : ∀ x ∈ c.exceptionTable.toList, False) (hlocks : meth.locks = false)
    (hq : (is, text) ∈ cMsg) (hk : Cond.classLink "Lorewick" ik (cEx 5) ∈ wl) (hini : Cond.initialized (cEx 5) ∈ wl) (hic : Cond.methodLink "Lorewick" ic ⟨"java/util/NoSuchElementException", "<init>", "(Ljava/lang/String;)V"⟩ ∈ wl)
    (d0 : decode cc pc = .ok (.new ik, 3)) (d3 : decode cc (pc + 3) = .ok (.dup, 1)) (d4 : decode cc (pc + 4) = .ok (.ldc_w is, 3)) (d6 : decode cc (pc + 7) = .ok (.invokespecial ic, 3)) (d9 : decode cc (pc + 10) = .ok (.athrow, 1))
    (hsize : ls.size = nL) (hRf : 5 < R.frames) (hRl : (rest.map fun v => v.category).sum + 82 ≤ R.locals) (hRc : cells + 1 ≤ R.cells) (hRs : slots + 6 ≤ R.slots) (hc : cells + 1 ≤ mc) (hs : slots + 6 ≤ ms) (h : some (Sum.inl 5, σ) = some o) :
    W p l e R s m args below meth c H locs cells slots (vx_MQ below (cQx fl D ca b A α0 σ0 (o.1.map id T) o.2) (cXC fl D ca b A α0 σ0 (o.1.map id T) o.2) args s mc ms A) (F0 m pc ls rest) := by
  sorry
end CT
