/-! The law's own methods: the call of the class, the store, the end. -/
/-- what a method of the law answers -/
def lK {β : Type} (j : Nat) (r : Nat ⊕ β) : Nat := match r with
  | .inr _ => 0
  | .inl _ => j + 1
/-- what lies in its array behind it -/
def lV {β γ : Type} (f : β → γ) (v : γ) (r : Nat ⊕ β) : γ := match r with
  | .inr x => f x
  | .inl _ => v
section M22
variable {p : Program} {l : Launch} {e : Env} {R : Room} {s : State} {m : MethodId} {args : Array Value} {below : List Frame} {meth : Method} {c : Code} {H : Heap} {locs : List Loc} {cells slots mc ms : Nat} {Q : State → Prop}
variable {cc : ByteArray} {nL pc : Nat} {ls : Array Slot} {rest st : List Value} {D : va_G} {ca : Nat → ClassId} {A : Nat → Prop} {σ : cS} {α : cAl}
variable {y : MethodName} {by' : ByteArray} {maxL n index : Nat} {ret : Option FieldType} {rm : Room} {As : List Value} {fl : Bool} {bo : Nat} {cO : ClassId}
theorem W_pc {pc pc' : Nat} (h : pc = pc') (k : W p l e R s m args below meth c H locs cells slots Q (F0 m pc' ls st)) : W p l e R s m args below meth c H locs cells slots Q (F0 m pc ls st) := h ▸ k
theorem l_call {β : Type} {tv : β → Value} {o : (Nat ⊕ β) × cS} (C : cC p s m args c cc nL RV D ca A α) (hM : cM D ca true A s.heap σ α σ α s.heap [])
    (hc : cMetX fl l y by' maxL ret rm mc ms D ca true A α σ (cr α 0 (some 0) :: As) (o.1.map id (fun (v : β) _ => some (tv v))) o.2) (hw : cCallV RV index (cRn 0) y by' maxL ret n) (hrm : rm.cells = mc ∧ rm.slots = ms) (hR : rm.frames + 1 ≤ R.frames ∧ 8 + (maxL + 11) + rm.locals ≤ R.locals) (hn : As.length = n) (hst : st = As.reverse ++ cr α 0 (some 0) :: rest) (hrest : (rest.map fun v => v.category).sum ≤ 8) (hls : ls.size = nL) (hdg : decode cc pc = .ok (.invokevirtual index, 3)) (hRc : mc ≤ R.cells ∧ ms ≤ R.slots)
    (kx : ∀ (k : Nat) (q : Addr) (ce : Cell) (H1 : Heap) (locs1 : List Loc) (α1 : cAl), o.1 = .inl k → (fl = false → α1 = α) → cM D ca true A s.heap σ α o.2 α1 H1 locs1 → H1[q]? = some ce → ce.vm = .none → s.vm.findClass (cEx k) = some ce.cls → vx_W p l e R s m args below meth c H1 locs1 mc ms Q (F0 m pc ls rest) q)
    (kk : ∀ (v : β) (H1 : Heap) (locs1 : List Loc) (α1 : cAl), o.1 = .inr v → (fl = false → α1 = α) → cM D ca true A s.heap σ α o.2 α1 H1 locs1 → W p l e R s m args below meth c H1 locs1 mc ms Q (F0 m (pc + 3) ls (tv v :: rest))) :
    W p l e R s m args below meth c s.heap [] 0 0 Q (F0 m pc ls st) := by
  obtain ⟨ro, u⟩ := o
  refine c_runX (c_rVx (As := As) (rest := rest) C hM (c_17 hM) (hM.cst 0 0 rfl) (by decide) hc hw hrm hR hn hst hrest hls hdg ⟨by omega, by omega⟩) hM.2.2.2.1 (fun _ _ _ h => h.2) (fun _ _ _ h => h.2) (fun E ce q9 st₀ t H1 locs1 ht hvm hx hS h1 h2 h3 => ?_) (fun v st₀ t H1 locs1 ht hq hS => ?_)
  · obtain ⟨⟨k, α1, e1, rfl, e3, e4⟩, -⟩ := hx
    rw [Nat.zero_add, Nat.zero_add]
    cases ro with
    | inl k' =>
      cases e1
      exact kx k' q9 ce H1 locs1 α1 rfl e3 (cM_post hM e4 ht hS) h1 h2 h3
    | inr v => cases e1
  · obtain ⟨⟨rv, α1, e1, e2, e3, e4⟩, -⟩ := hq
    rw [Nat.zero_add, Nat.zero_add]
    cases ro with
    | inl k' => cases e1
    | inr v2 =>
      cases e1
      cases e3
      exact kk v2 H1 locs1 α1 rfl e2 (cM_post hM e4 ht hS)
/-- the array's cell is none of the class's, nor touched by it -/
theorem l_out {O : va_W} {u : cS} {α1 : cAl} (hO : va_P D [] O s.heap) (hbo : ∀ q ∈ O, ¬ A q.1) (hM : cM D ca true A s.heap σ α u α1 H locs) : va_P D [] O H := fun k q hk => by
  have h := hO k q hk
  exact h.kept (hM.2.2.2.1.2.1 _ h.lt (hbo q (List.mem_of_getElem? hk)))
theorem l_apart {u : cS} {α1 : cAl} (hbo : ¬ A bo) (hb17 : α 17 0 ≠ bo) (h17 : 0 < cn σ 17) (hM : cM D ca true A s.heap σ α u α1 H locs) : ∀ k i, k < 18 → i < cn u k → α1 k i ≠ bo := by
  intro k i hk hi e
  by_cases z : k = 17 ∧ i = 0
  · obtain ⟨rfl, rfl⟩ := z
    rw [hM.2.2.2.2.2.2.1 17 0 h17] at e
    exact hb17 e
  · exact hbo (e ▸ hM.2.1.2 k i hk hi z)
theorem va_S.wk {A A' : Nat → Prop} {H0 H : Heap} {locs : List Loc} (h : va_S A H0 H locs) (hA : ∀ q, A q → A' q) : va_S A' H0 H locs := ⟨h.1, fun q h1 h2 => h.2.1 q h1 (fun z => h2 (hA q z)), fun z hz => hA _ (h.2.2 z hz)⟩
theorem l_storeJ {u : cS} {α1 : cAl} {f : Nat → Int64} {x : Int64} (C : cC p s m args c cc nL RV D ca A α) (hM : cM D ca true A s.heap σ α u α1 H locs) (h17 : 0 < cn σ 17) (hO : va_P D [] (lO bo cO f) s.heap) (hKO : va_K D [] [(cO, .long)] s) (hbo : ¬ A bo) (hb17 : α 17 0 ≠ bo) (hdg : decode cc pc = .ok (.lastore, 1))
    (kk : ∀ (H1 : Heap) (locs1 : List Loc), cP D ca α1 u H1 → va_P D [] (lO bo cO (vp_updL f 0 x)) H1 → va_S (fun q => A q ∨ q = bo) s.heap H1 locs1 → W p l e R s m args below meth c H1 locs1 cells slots Q (F0 m (pc + 1) ls rest)) : W p l e R s m args below meth c H locs cells slots Q (F0 m pc ls (.long x :: .int 0 :: .ref bo :: rest)) := by
  have hO1 := l_out hO (fun q hq => by rw [List.mem_singleton] at hq; rw [hq]; exact hbo) hM
  have hne := l_apart hbo hb17 h17 hM
  refine W.last C.1 C.2.1 (hO1 0 _ rfl) ((hKO.2 0 _ rfl).1 _ (fun j => .long (f j))) (fun q => by cases q) (by show ¬ ((0 : Int32) < 0 ∨ (arrV _ _ _).slots.size ≤ _); rw [arrV_size]; show ¬ ((0 : Int32) < 0 ∨ 1 ≤ (0 : Int32).toNatClampNeg); decide) rfl rfl hdg fun H1 e1 z oq => ?_
  refine kk H1 _ (fun k i hk hi => (hM.1 k i hk hi).kept (oq _ (hne k i hk hi))) (fun k q hk => ?_) ((hM.2.2.2.1.wk (fun q h => Or.inl h)).put z oq (Or.inr rfl))
  match k, hk with
  | 0, hk =>
    cases hk
    show H1[bo]? = some (vp_cell _ _)
    rw [e1, vp_cell_l, vp_cell_l, arrV_store]
    congr 2
    funext q
    by_cases hq : q = (0 : Int32).toNatClampNeg
    · subst hq; simp [updV, vp_updL]
    · have hq0 : ¬ q = 0 := hq
      simp [updV, vp_updL, hq0]
theorem l_storeD {u : cS} {α1 : cAl} {f : Nat → UInt64} {x : UInt64} (C : cC p s m args c cc nL RV D ca A α) (hM : cM D ca true A s.heap σ α u α1 H locs) (h17 : 0 < cn σ 17) (hO : va_P D [] (lOd bo cO f) s.heap) (hKO : va_K D [] [(cO, .double)] s) (hbo : ¬ A bo) (hb17 : α 17 0 ≠ bo) (hdg : decode cc pc = .ok (.dastore, 1))
    (kk : ∀ (H1 : Heap) (locs1 : List Loc), cP D ca α1 u H1 → va_P D [] (lOd bo cO (vf_upd f 0 x)) H1 → va_S (fun q => A q ∨ q = bo) s.heap H1 locs1 → W p l e R s m args below meth c H1 locs1 cells slots Q (F0 m (pc + 1) ls rest)) : W p l e R s m args below meth c H locs cells slots Q (F0 m pc ls (.double x :: .int 0 :: .ref bo :: rest)) := by
  have hO1 := l_out hO (fun q hq => by rw [List.mem_singleton] at hq; rw [hq]; exact hbo) hM
  have hne := l_apart hbo hb17 h17 hM
  refine W.dast C.1 C.2.1 (hO1 0 _ rfl) ((hKO.2 0 _ rfl).1 _ (fun j => .double (f j))) (fun q => by cases q) (by show ¬ ((0 : Int32) < 0 ∨ (arrV _ _ _).slots.size ≤ _); rw [arrV_size]; show ¬ ((0 : Int32) < 0 ∨ 1 ≤ (0 : Int32).toNatClampNeg); decide) rfl rfl hdg fun H1 e1 z oq => ?_
  refine kk H1 _ (fun k i hk hi => (hM.1 k i hk hi).kept (oq _ (hne k i hk hi))) (fun k q hk => ?_) ((hM.2.2.2.1.wk (fun q h => Or.inl h)).put z oq (Or.inr rfl))
  match k, hk with
  | 0, hk =>
    cases hk
    show H1[bo]? = some (vp_cell _ _)
    rw [e1, vp_cell_d, vp_cell_d, arrV_store]
    congr 2
    funext q
    by_cases hq : q = (0 : Int32).toNatClampNeg
    · subst hq; simp [updV, vf_upd]
    · have hq0 : ¬ q = 0 := hq
      simp [updV, vf_upd, hq0]
theorem l_end {A' : Nat → Prop} {u u0 : cS} {α1 : cAl} {O O' : va_W} {k k' : Nat} (C : cC p s m args c cc nL RV D ca A α) (hfl : fl = false → α1 = α) (hM : cM D ca true A s.heap σ α u α1 H locs) {H2 : Heap} {locs2 : List Loc} (hP : cP D ca α1 u H2) (hO : va_P D [] O H2) (hS : va_S A' s.heap H2 locs2) (hr : meth.sig.returnType = some .int) (hlk : meth.locks = false) (hu : u = u0) (hk : k = k') (hOO : O = O') (hd : decode cc pc = .ok (.ireturn, 1)) :
    W p l e R s m args below meth c H2 locs2 mc ms (MQ below (lQ fl D ca A A' α σ k' u0 O') args s mc ms A') (F0 m pc ls [.int (nI k)]) := by
  subst hu; subst hk; subst hOO
  exact W.iret (v := nI k) C.1 C.2.1 hr (fun t ht hW => ⟨⟨α1, hfl, rfl, ⟨by rw [ht]; exact hP, va_K.moved hW.alike C.2.2.2.2.2.1, hM.2.1, hM.2.2.1, hM.2.2.2.2.2⟩, by rw [ht]; exact hO⟩, hS.F ht⟩) hS.2.2 hd hlk
end M22
