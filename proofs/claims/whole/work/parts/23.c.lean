/-! The law's body: what is read from the script; an outcome used. -/
/-- an outcome against the reference's: what the law sees -/
theorem Agr.use {ex : List Nat} {r : Nat ⊕ Int32} {v th : Int32} (h : Agr ex r v th) (h4 : ex.length ≤ 4) : ∃ j, (∀ c, r = .inl c → ex[j]? = some c) ∧ th = nI (lK j r) ∧ ((lK j r = 0 ∧ r = .inr v) ∨ (0 < lK j r ∧ lK j r < 100)) := by
  cases r with
  | inr x =>
    obtain ⟨h1, h2⟩ := h
    exact ⟨0, (fun c hc => by cases hc), h1, Or.inl ⟨rfl, by rw [h2]⟩⟩
  | inl c =>
    obtain ⟨j, h1, h2⟩ := h
    have := (List.getElem?_eq_some_iff.mp h1).1
    exact ⟨j, (fun c' hc => by cases hc; exact h1), h2, Or.inr ⟨Nat.succ_pos _, by show j + 1 < 100; omega⟩⟩
theorem AlkT.use {β : Type} {ex : List Nat} {P : β → Prop} {f : Option ((Nat ⊕ β) × cS)} {m : Option (β × mS)} (h : AlkT ex P f m) (h4 : ex.length ≤ 4) : ∃ g' r σ' v τ' j, f = some (r, σ') ∧ m = some (v, τ') ∧ (∀ c, r = .inl c → ex[j]? = some c) ∧ τ'.1 0 = nI (lK j r) ∧ ((lK j r = 0 ∧ r = .inr v ∧ P v) ∨ (0 < lK j r ∧ lK j r < 100)) ∧ Rel g' σ' τ' := by
  obtain ⟨g', r, σ', v, τ', h1, h2, h3, h5⟩ := h
  cases r with
  | inr x =>
    obtain ⟨a1, a2, a3⟩ := h3
    subst a2
    exact ⟨g', _, σ', _, τ', 0, h1, h2, (fun c hc => by cases hc), a1, Or.inl ⟨rfl, rfl, a3⟩, h5⟩
  | inl c =>
    obtain ⟨j, a1, a2⟩ := h3
    have := (List.getElem?_eq_some_iff.mp a1).1
    exact ⟨g', _, σ', v, τ', j, h1, h2, (fun c' hc => by cases hc; exact a1), a2, Or.inr ⟨Nat.succ_pos _, by show j + 1 < 100; omega⟩, h5⟩
section C23
variable {p : Program} {l : Launch} {e : Env} {R : Room} {s : State} {m : MethodId} {args : Array Value} {below : List Frame} {meth : Method} {c : Code} {H : Heap} {locs : List Loc} {cells slots mc ms : Nat} {Q : State → Prop}
variable {pc b L : Nat} {xs : Nat → Int32} {ls : Array Slot} {rest st : List Value} {D Dm : va_G} {ca cm : Nat → ClassId} {cO cOd : ClassId} {α0 α : cAl} {lo hm hi bo bd : Nat} {μ : Nat → Nat} {σ u : cS} {τ : mS} {f f' : Nat → Int64} {fd fd' : Nat → UInt64}
variable {lv : List (Nat × Value)} {i k : Nat}
theorem l_arg0 (X : lX p s m c b L xs D Dm ca cm cO cOd α0 lo hm hi bo bd) (hS : va_S (fun q => s.heap.size ≤ q) s.heap H locs) (hL : L ≤ 2560) (hk : i < L) (h0 : ls[0]? = some (.val (.ref b))) (h5 : ls[5]? = some (.val (.int (nI i)))) (d0 : decode code pc = .ok (.aload_n 0, 1)) (d1 : decode code (pc + 1) = .ok (.iload 5, 2)) (d2 : decode code (pc + 3) = .ok (.iaload, 1))
    (kk : W p l e R s m #[Value.ref b] below meth c H locs cells slots Q (F0 m (pc + 4) ls (.int (xs i) :: rest))) : W p l e R s m #[Value.ref b] below meth c H locs cells slots Q (F0 m pc ls rest) := by
  obtain ⟨⟨hx, hb, -⟩, ⟨hX, hbl⟩, -⟩ := X
  refine lv_aload_n hx hb d0 rfl h0 ?_
  refine lv_iload hx hb d1 h5 ?_
  refine va_sld hx hb hX hbl (Nat.not_le.mpr hbl) hS (vp_in_nI hk (by omega)) d2 ?_
  rw [nI_clamp (show i < 2 ^ 31 by omega)]
  exact kk
theorem l_arg (X : lX p s m c b L xs D Dm ca cm cO cOd α0 lo hm hi bo bd) (hS : va_S (fun q => s.heap.size ≤ q) s.heap H locs) (hL : L ≤ 2560) {k' : Int} (hk : i + k < L) (hkk : Int32.ofInt k' = nI k) (h0 : ls[0]? = some (.val (.ref b))) (h5 : ls[5]? = some (.val (.int (nI i)))) (d0 : decode code pc = .ok (.aload_n 0, 1)) (d1 : decode code (pc + 1) = .ok (.iload 5, 2)) (d2 : decode code (pc + 3) = .ok (.iconst k', 1)) (d3 : decode code (pc + 4) = .ok (.iadd, 1)) (d4 : decode code (pc + 5) = .ok (.iaload, 1))
    (kk : W p l e R s m #[Value.ref b] below meth c H locs cells slots Q (F0 m (pc + 6) ls (.int (xs (i + k)) :: rest))) : W p l e R s m #[Value.ref b] below meth c H locs cells slots Q (F0 m pc ls rest) := by
  obtain ⟨⟨hx, hb, -⟩, ⟨hX, hbl⟩, -⟩ := X
  refine lv_aload_n hx hb d0 rfl h0 ?_
  refine lv_iload hx hb d1 h5 ?_
  refine lv_iconst (v := nI k) hx hb d2 hkk ?_
  refine lv_iadd hx hb d3 ?_
  refine W_st (st' := .int (nI (i + k)) :: .ref b :: rest) (by rw [jAdd]) ?_
  refine va_sld hx hb hX hbl (Nat.not_le.mpr hbl) hS (vp_in_nI hk (by omega)) d4 ?_
  rw [nI_clamp (show i + k < 2 ^ 31 by omega)]
  exact kk
theorem l_char (x : Int32) : ∃ c, c < 65536 ∧ (x.toUInt32 % 65536).toInt32 = nI c := by
  refine ⟨(x.toUInt32 % 65536).toNat, ?_, ?_⟩
  · rw [UInt32.toNat_mod]
    show _ % 65536 < 65536
    exact Nat.mod_lt _ (by decide)
  · refine Int32.toBitVec_inj.mp (BitVec.eq_of_toNat_eq ?_)
    show (x.toUInt32 % 65536).toNat = (BitVec.ofInt 32 ((x.toUInt32 % 65536).toNat : Int)).toNat
    rw [BitVec.toNat_ofInt]
    have := (x.toUInt32 % 65536).toNat_lt
    omega
theorem l_bool (hx : p.tables.exec = Jvm.exec) (hb : c.code = code) {x : Int32} (d0 : decode code pc = .ok (.ifCond .eq 7, 3)) (d1 : decode code (pc + 3) = .ok (.iconst 1, 1)) (d2 : decode code (pc + 4) = .ok (.goto 4, 3)) (d3 : decode code (pc + 7) = .ok (.iconst 0, 1))
    (kk : W p l e R s m args below meth c H locs cells slots Q (F0 m (pc + 8) ls (.int (bI (decide (x ≠ 0))) :: rest))) : W p l e R s m args below meth c H locs cells slots Q (F0 m pc ls (.int x :: rest)) := by
  refine lv_if_eq (tgt := pc + 7) hx hb d0 (by omega) (fun q => ?_) (fun q => ?_)
  · refine lv_iconst (v := 0) hx hb d3 (by decide) ?_
    rw [show decide (x ≠ 0) = false from decide_eq_false (fun z => z q)] at kk
    exact kk
  · refine lv_iconst (v := 1) hx hb d1 (by decide) ?_
    refine lv_goto (tgt := pc + 8) hx hb d2 (by omega) ?_
    rw [show decide (x ≠ 0) = true from decide_eq_true q] at kk
    exact kk
theorem l_nbo (X : lX p s m c b L xs D Dm ca cm cO cOd α0 lo hm hi bo bd) : ¬ lA s.heap.size lo hi bo ∧ ¬ lA s.heap.size lo hi bd := by
  obtain ⟨-, -, -, -, -, hreg, -⟩ := X
  unfold lA
  omega
theorem l_n17 (X : lX p s m c b L xs D Dm ca cm cO cOd α0 lo hm hi bo bd) (J : lJ s D Dm ca cm cO cOd α0 lo hm hi bo bd μ σ τ α f fd H locs) : α 17 0 ≠ bo ∧ α 17 0 ≠ bd := by
  obtain ⟨-, -, -, -, -, hreg, h17⟩ := X
  have := J.1.2.2.2.2.1
  omega
theorem vp01 : vp_in (0 : Int32) 1 := vp_in_nI (show 0 < 1 by omega) (by omega)
theorem nz_k {k : Nat} (h0 : 0 < k) (h1 : k < 100) : nI k ≠ 0 := fun z => by
  have := (jEq (b := 0) (by omega) (by omega)).mp z
  omega
end C23
