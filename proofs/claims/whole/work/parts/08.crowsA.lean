/-! NoSuchElementException: its constructor hands on by another number. -/
theorem c_atL {L : List Cond} {args : Array Value} {s : State} (hts : ∀ w ∈ wl, w.before args s = true) (hn : ∀ w ∈ wn, va_Nw w s) (h : L.all (fun w => decide (w ∈ lw_tbl) && (goodWord w || c_isN w)) = true) : ∀ w ∈ L, w.before args s = true := by
  intro w hw
  have h1 := List.all_eq_true.mp h w hw
  simp only [Bool.and_eq_true, decide_eq_true_eq, Bool.or_eq_true] at h1
  rcases h1.2 with g | g
  · exact hts w (wl_tbl h1.1 g)
  · have g2 := hn w (List.mem_filter.mpr ⟨h1.1, g⟩)
    cases w <;> first | exact va_tabs rfl rfl g2 | exact absurd g (by simp [c_isN])
theorem cx_at5 : (at5 "Lorewick" 324 (cEx 5) cNm).all (fun w => decide (w ∈ lw_tbl) && (goodWord w || c_isN w)) = true := by decide +kernel
theorem cx_ot5 : (at5 "Lorewick" 324 (cEx 5) cNm).all vx_ot = true := by decide +kernel
section CT
variable {p : Program} {l : Launch} {e : Env} {R : Room} {s : State} {m : MethodId} {args : Array Value} {below : List Frame} {meth : Method} {c : Code} {H : Heap} {locs : List Loc} {cells slots mc ms : Nat}
variable {cc : ByteArray} {nL pc : Nat} {ls : Array Slot} {rest : List Value} {D : va_G} {ca : Nat → ClassId} {b : Bool} {A : Nat → Prop} {σ0 σ : cS} {α0 α : cAl} {fl : Bool}
theorem c_throw5 {γ : Type} {T : γ → cAl → Option Value} {o : (Nat ⊕ γ) × cS} {ik is : Nat} {text : String} (C : cC p s m args c cc nL "Lorewick" D ca A α0) (hM : cM D ca b A s.heap σ0 α0 σ α H locs) (hfl : fl = false → α = α0) (hst : l.stackTraces = false) (hout : ∀ x ∈ c.exceptionTable.toList, False) (hlocks : meth.locks = false)
    (hq : (is, text) ∈ cMsg) (hk : Cond.classLink "Lorewick" ik (cEx 5) ∈ wl) (hini : Cond.initialized (cEx 5) ∈ wl)
    (d0 : decode cc pc = .ok (.new ik, 3)) (d3 : decode cc (pc + 3) = .ok (.dup, 1)) (d4 : decode cc (pc + 4) = .ok (.ldc is, 2)) (d6 : decode cc (pc + 6) = .ok (.invokespecial 324, 3)) (d9 : decode cc (pc + 9) = .ok (.athrow, 1))
    (hsize : ls.size = nL) (hRf : 5 < R.frames) (hRl : (rest.map fun v => v.category).sum + 82 ≤ R.locals) (hRc : cells + 1 ≤ R.cells) (hRs : slots + 6 ≤ R.slots) (hc : cells + 1 ≤ mc) (hs : slots + 6 ≤ ms) (h : some (Sum.inl 5, σ) = some o) :
    W p l e R s m args below meth c H locs cells slots (vx_MQ below (cQx fl D ca b A α0 σ0 (o.1.map id T) o.2) (cXC fl D ca b A α0 σ0 (o.1.map id T) o.2) args s mc ms A) (F0 m pc ls rest) := by
  cases h
  obtain ⟨hx, hb, hml, hown, hts, hK, hG⟩ := id C
  obtain ⟨sa, hsa⟩ := hG.1.2.2.1 _ hq
  refine c_make5 (names := cNm) hx hb hst hown (show Bundle.fit (cEx 5) = true by decide) (by decide) (hts _ hk) (hts _ hini) hsa (c_atL hts hG.1.2.2.2 cx_at5) (List.forall_mem_cons.mpr ⟨by show vx_ot _ = true; unfold vx_ot; rw [wl_good _ hk, Bool.or_true], List.forall_mem_cons.mpr ⟨by show vx_ot _ = true; unfold vx_ot; rw [wl_good _ hini, Bool.or_true], List.all_eq_true.mp cx_ot5⟩⟩) hG.1.1 hG.1.2.1 hM.2.2.2.1 (hsize.trans hml.symm) d0 d3 d4 d6 hRf hRl hRc hRs fun q ce H1 h1 h2 h3 hz hq2 hS => ?_
  exact vx_athrow hx hb d9 (vx_out (fun x hx => (hout x hx).elim) hlocks h1 h2 h3 (fun t ht hvm => ⟨⟨5, α, rfl, rfl, hfl, ⟨fun k' i' hk' hi' => (hM.1 k' i' hk' hi').kept (by rw [ht]; exact hq2 _ (hM.1 k' i' hk' hi').lt), va_K.moved hvm hK, hM.2.1, hM.2.2.1, hM.2.2.2.2.2⟩⟩, hS.F ht⟩) hS.2.2 hc hs)
theorem c_throwW5 {γ : Type} {T : γ → cAl → Option Value} {o : (Nat ⊕ γ) × cS} {ik is : Nat} {text : String} (C : cC p s m args c cc nL "Lorewick" D ca A α0) (hM : cM D ca b A s.heap σ0 α0 σ α H locs) (hfl : fl = false → α = α0) (hst : l.stackTraces = false) (hout : ∀ x ∈ c.exceptionTable.toList, False) (hlocks : meth.locks = false)
    (hq : (is, text) ∈ cMsg) (hk : Cond.classLink "Lorewick" ik (cEx 5) ∈ wl) (hini : Cond.initialized (cEx 5) ∈ wl)
    (d0 : decode cc pc = .ok (.new ik, 3)) (d3 : decode cc (pc + 3) = .ok (.dup, 1)) (d4 : decode cc (pc + 4) = .ok (.ldc_w is, 3)) (d6 : decode cc (pc + 7) = .ok (.invokespecial 324, 3)) (d9 : decode cc (pc + 10) = .ok (.athrow, 1))
    (hsize : ls.size = nL) (hRf : 5 < R.frames) (hRl : (rest.map fun v => v.category).sum + 82 ≤ R.locals) (hRc : cells + 1 ≤ R.cells) (hRs : slots + 6 ≤ R.slots) (hc : cells + 1 ≤ mc) (hs : slots + 6 ≤ ms) (h : some (Sum.inl 5, σ) = some o) :
    W p l e R s m args below meth c H locs cells slots (vx_MQ below (cQx fl D ca b A α0 σ0 (o.1.map id T) o.2) (cXC fl D ca b A α0 σ0 (o.1.map id T) o.2) args s mc ms A) (F0 m pc ls rest) := by
  cases h
  obtain ⟨hx, hb, hml, hown, hts, hK, hG⟩ := id C
  obtain ⟨sa, hsa⟩ := hG.1.2.2.1 _ hq
  refine c_make5W (names := cNm) hx hb hst hown (show Bundle.fit (cEx 5) = true by decide) (by decide) (hts _ hk) (hts _ hini) hsa (c_atL hts hG.1.2.2.2 cx_at5) (List.forall_mem_cons.mpr ⟨by show vx_ot _ = true; unfold vx_ot; rw [wl_good _ hk, Bool.or_true], List.forall_mem_cons.mpr ⟨by show vx_ot _ = true; unfold vx_ot; rw [wl_good _ hini, Bool.or_true], List.all_eq_true.mp cx_ot5⟩⟩) hG.1.1 hG.1.2.1 hM.2.2.2.1 (hsize.trans hml.symm) d0 d3 d4 d6 hRf hRl hRc hRs fun q ce H1 h1 h2 h3 hz hq2 hS => ?_
  exact vx_athrow hx hb d9 (vx_out (fun x hx => (hout x hx).elim) hlocks h1 h2 h3 (fun t ht hvm => ⟨⟨5, α, rfl, rfl, hfl, ⟨fun k' i' hk' hi' => (hM.1 k' i' hk' hi').kept (by rw [ht]; exact hq2 _ (hM.1 k' i' hk' hi').lt), va_K.moved hvm hK, hM.2.1, hM.2.2.1, hM.2.2.2.2.2⟩⟩, hS.F ht⟩) hS.2.2 hc hs)
end CT
