/-! The law's body: the two worlds in one heap. -/
/-- the class's cells, the reference's cells -/
def lA (sz lo hi : Nat) : Nat → Prop := fun q => sz ≤ q ∧ ¬ (lo ≤ q ∧ q < hi)
def lB (lo hm : Nat) : Nat → Prop := fun q => lo ≤ q ∧ q < hm
def lCallS (index : Nat) (y : MethodName) (cc : ByteArray) (nL : Nat) (hh : List (Nat × Nat × Nat × Nat)) (n : Nat) : Prop :=
  (Cond.methodLink RV index y ∈ wl ∧ Cond.static y ∈ wl ∧ Cond.initialized y.cls ∈ wl ∧ Cond.codeWith y cc nL (some .int) hh ∈ wl) ∧ y.cls ≠ "java/lang/invoke/MethodHandle" ∧ y.cls ≠ "java/lang/invoke/VarHandle" ∧ (parseMethodDescriptor y.desc).map (fun d => d.parameters.length) = some n
theorem lws_good {index : Nat} {y : MethodName} {cc : ByteArray} {nL : Nat} {hh : List (Nat × Nat × Nat × Nat)} (h : Cond.methodLink RV index y ∈ wl ∧ Cond.static y ∈ wl ∧ Cond.initialized y.cls ∈ wl ∧ Cond.codeWith y cc nL (some .int) hh ∈ wl) : GoodIn wl (va_wsS RV index y (lWs y cc nL hh)) := by
  intro w hw
  have hm : w ∈ wl := by
    simp only [va_wsS, lWs, List.cons_append, List.nil_append, List.mem_cons] at hw
    rcases hw with rfl | rfl | rfl | rfl | hw
    · exact h.1
    · exact h.2.1
    · exact h.2.2.1
    · exact h.2.2.2
    · exact hw
  exact ⟨hm, good_of_word (wl_good w hm)⟩
/-- what stays -/
def lX (p : Program) (s : State) (m : MethodId) (c : Code) (b L : Nat) (xs : Nat → Int32) (D Dm : va_G) (ca cm : Nat → ClassId) (cO cOd : ClassId) (α0 : cAl) (lo hm hi bo bd : Nat) : Prop :=
  (p.tables.exec = Jvm.exec ∧ c.code = code ∧ c.maxLocals = 9 ∧ s.vm.findClass RV = some m.cls ∧ ∀ w ∈ wl, w.before #[Value.ref b] s = true) ∧
  (va_X b L xs s s.heap ∧ b < s.heap.size) ∧
  (va_K D cCl (cTys ca) s ∧ va_K Dm mCl (mTy cm) s ∧ va_K D [] [(cO, .long)] s ∧ va_K D [] [(cOd, .double)] s) ∧
  lNc s ∧ cG (lA s.heap.size lo hi) α0 s s.heap ∧
  (s.heap.size ≤ lo ∧ lo ≤ hm ∧ hm ≤ bo ∧ bo < hi ∧ hm ≤ bd ∧ bd < hi ∧ bo ≠ bd) ∧ α0 17 0 < s.heap.size
/-- the class's part -/
def lJc (s : State) (D : va_G) (ca : Nat → ClassId) (α0 : cAl) (lo hi : Nat) (σ : cS) (α : cAl) (H : Heap) : Prop :=
  cP D ca α σ H ∧ cD (lA s.heap.size lo hi) α σ ∧ cSh true σ ∧ (∀ k, 18 ≤ k → α k = α0 k) ∧ α 17 0 = α0 17 0 ∧ α 0 0 = α0 0 0
/-- the worlds at a point of the law -/
def lJ (s : State) (D Dm : va_G) (ca cm : Nat → ClassId) (cO cOd : ClassId) (α0 : cAl) (lo hm hi bo bd : Nat) (μ : Nat → Nat) (σ : cS) (τ : mS) (α : cAl) (f : Nat → Int64) (fd : Nat → UInt64) (H : Heap) (locs : List Loc) : Prop :=
  lJc s D ca α0 lo hi σ α H ∧ (va_P Dm mCl (mW cm μ τ) H ∧ va_D (lB lo hm) (mW cm μ τ)) ∧ (va_P D [] (lO bo cO f) H ∧ va_P D [] (lOd bd cOd fd) H) ∧ va_S (fun q => s.heap.size ≤ q) s.heap H locs ∧ hi ≤ H.size
section B23
variable {p : Program} {l : Launch} {e : Env} {R : Room} {s : State} {m : MethodId} {args : Array Value} {below : List Frame} {meth : Method} {c : Code} {H : Heap} {locs : List Loc} {cells slots mc ms : Nat} {Q : State → Prop}
variable {pc b L : Nat} {xs : Nat → Int32} {ls : Array Slot} {rest st : List Value} {D Dm : va_G} {ca cm : Nat → ClassId} {cO cOd : ClassId} {α0 α : cAl} {lo hm hi bo bd : Nat} {μ : Nat → Nat} {σ u : cS} {τ : mS} {f f' : Nat → Int64} {fd fd' : Nat → UInt64}
variable {y : MethodName} {by' : ByteArray} {maxL n index k : Nat} {ret : Option FieldType} {rm : Room} {As : List Value} {fl : Bool} {hh : List (Nat × Nat × Nat × Nat)}
theorem l_run {Qa : State → Outcome → State → Prop} {A' A0 : Nat → Prop} {H0 : Heap} (hr : va_Run p l e R s m args below meth c H locs cells slots mc ms (F0 m pc ls st) rest Qa A') (hS : va_S A0 H0 H locs) (hA : ∀ q, A' q → A0 q) (hF : ∀ st oc t, Qa st oc t → va_F A' st t)
    (kk : ∀ (v : Option Value) (st₀ t : State) (H1 : Heap) (locs1 : List Loc), t.heap = H1 → s.vm.Alike t.vm → Qa st₀ (.returned v) t → H.size ≤ H1.size → (∀ q : Nat, q < H.size → ¬ A' q → H1[q]? = H[q]?) → va_S A0 H0 H1 locs1 → W p l e R s m args below meth c H1 locs1 (cells + mc) (slots + ms) Q (F0 m (pc + 3) ls (v.toList ++ rest))) : W p l e R s m args below meth c H locs cells slots Q (F0 m pc ls st) := by
  intro T hT X
  obtain ⟨v, st₀, t, T', L, h0, X', hL, e1, e2, hq, stp⟩ := hr T hT X
  obtain ⟨k1, k2, k3⟩ := vx_keep h0 e1 hS (fun q _ h => hA q h) hA hL (hF _ _ _ hq)
  obtain ⟨t2, a1, b1⟩ := kk v st₀ t T'.heap (locs ++ L) e1.symm (by rw [← e2]; exact X'.warmed.alike) hq k1 k2 k3 T' rfl X'
  exact ⟨t2, stp t2 a1, b1⟩
theorem l_pre {O : va_W} {tys : List (ClassId × FieldType)} (X : lX p s m c b L xs D Dm ca cm cO cOd α0 lo hm hi bo bd) (J : lJ s D Dm ca cm cO cOd α0 lo hm hi bo bd μ σ τ α f fd H locs) (hO : va_P D [] O H) (hKO : va_K D [] tys s) : ∀ U : State, U.heap = H → s.WarmedH U.vm → lPre D ca (lA s.heap.size lo hi) α σ O tys U := fun U hU hW => by
  obtain ⟨-, -, ⟨hK, -⟩, hN, hG, -, -⟩ := X
  obtain ⟨⟨j1, j2, j3, j4, j5⟩, -, -, hS, hHi⟩ := J
  have hs := hS.1
  refine ⟨⟨by rw [hU]; exact j1, va_K.moved hW.alike hK, j2, j3, fun q hq => ?_, ?_⟩, by rw [hU]; exact hO, va_K.moved hW.alike hKO, hN.moved hW.alike⟩
  · rw [hU] at hq
    refine ⟨by omega, fun z => ?_⟩
    omega
  · rw [hU]
    exact (cG.warm hW (hG.kept (fun a ha _ => hS.2.1 a ha (Nat.not_le.mpr ha)))).to j4 j5.1
theorem l_wr0 {O O' : va_W} {tys : List (ClassId × FieldType)} {bo' : Nat} (X : lX p s m c b L xs D Dm ca cm cO cOd α0 lo hm hi bo bd) (J : lJ s D Dm ca cm cO cOd α0 lo hm hi bo bd μ σ τ α f fd H locs) (hO : va_P D [] O H) (hKO : va_K D [] tys s) (hb' : bo' = bo ∨ bo' = bd)
    (hc : lMet fl l y by' maxL hh rm mc ms D ca (lA s.heap.size lo hi) bo' α σ As O tys k u O') (hw : lCallS index y by' maxL hh n) (hrm : rm.cells = mc ∧ rm.slots = ms) (hR : rm.frames + 1 ≤ R.frames ∧ 8 + (maxL + 11) + rm.locals ≤ R.locals) (hn : As.length = n) (hst : st = As.reverse ++ rest) (hrest : (rest.map fun v => v.category).sum ≤ 8) (hls : ls.size = 9) (hdg : decode code pc = .ok (.invokestatic index, 3)) (hRc : cells + mc ≤ R.cells ∧ slots + ms ≤ R.slots)
    (kk : ∀ (α1 : cAl) (H1 : Heap) (locs1 : List Loc), lJc s D ca α0 lo hi u α1 H1 → va_P D [] O' H1 → (∀ q : Nat, q < H.size → ¬ (lA s.heap.size lo hi q ∨ q = bo') → H1[q]? = H[q]?) → va_S (fun q => s.heap.size ≤ q) s.heap H1 locs1 → H.size ≤ H1.size → W p l e R s m #[Value.ref b] below meth c H1 locs1 (cells + mc) (slots + ms) Q (F0 m (pc + 3) ls (.int (nI k) :: rest))) :
    W p l e R s m #[Value.ref b] below meth c H locs cells slots Q (F0 m pc ls st) := by
  have hpre := l_pre X J hO hKO
  obtain ⟨⟨hx, hb, hml, hown, hts⟩, -, -, -, -, hreg, -⟩ := X
  obtain ⟨⟨j1, j2, j3, j4, j5⟩, -, -, hS, hHi⟩ := J
  refine l_run (vx_runSW (As := As) (rest := rest) ⟨hx, hb, hml, hown, hts⟩ hc (vx_cwSW n hts (lws_good hw.1) rfl hrm.1 hrm.2 hw.2 hR) ⟨lPre_blind, fun U hU hW => ⟨rfl, hpre U hU hW⟩⟩ rfl hn hls hst (lv_room hrest) hdg hRc) hS (fun q hq => ?_) (fun _ _ _ h => h.2) (fun v st₀ t H1 locs1 ht hvm hq hsz hfr hS1 => ?_)
  · rcases hq with hq | hq
    · exact hq.1
    · have hq1 : q = bo' := hq
      have hq2 : s.heap.size ≤ bo' := by
        rcases hb' with z | z
        · rw [z]; omega
        · rw [z]; omega
      rw [hq1]
      exact hq2
  · obtain ⟨⟨α1, e1, e2, e3, e4⟩, -⟩ := hq
    cases e2
    obtain ⟨c1, c2, c3, c4, c5⟩ := e3
    have h00 : 0 < cn σ 0 := Nat.lt_of_lt_of_le (by decide) ((j3.1 rfl).2.1 0 (by decide))
    have h17 : 0 < cn σ 17 := Nat.lt_of_lt_of_le (by decide) ((j3.1 rfl).2.1 17 (by decide))
    exact kk α1 H1 locs1 ⟨by rw [← ht]; exact c1, c3, c4, fun k hk => (c5.2.2 k hk).trans (j4 k hk), (c5.2.1 17 0 h17).trans j5.1, (c5.2.1 0 0 h00).trans j5.2⟩ (by rw [← ht]; exact e4) hfr hS1 hsz
theorem lJ_m (hP : va_P Dm mCl (mW cm μ τ) H) (hD : va_D (lB lo hm) (mW cm μ τ)) {H1 : Heap} {A' : Nat → Prop} (hfr : ∀ q : Nat, q < H.size → ¬ A' q → H1[q]? = H[q]?) (hA : ∀ q, lB lo hm q → ¬ A' q) : va_P Dm mCl (mW cm μ τ) H1 := fun k q hk => (hP k q hk).kept (hfr _ (hP k q hk).lt (hA _ (hD.2 k q hk)))
theorem l_st (J : lJc s D ca α0 lo hi σ α H) (hst : st = As.reverse ++ .ref (α0 0 0) :: rest) : st = (cr α 0 (some 0) :: As).reverse ++ rest := by
  rw [hst, List.reverse_cons, List.append_assoc]
  show _ = As.reverse ++ (Value.ref (α 0 0) :: rest)
  rw [J.2.2.2.2.2]
theorem l_wr (X : lX p s m c b L xs D Dm ca cm cO cOd α0 lo hm hi bo bd) (J : lJ s D Dm ca cm cO cOd α0 lo hm hi bo bd μ σ τ α f fd H locs)
    (hc : lMet fl l y by' maxL hh rm mc ms D ca (lA s.heap.size lo hi) bo α σ (cr α 0 (some 0) :: As) (lO bo cO f) [(cO, .long)] k u (lO bo cO f')) (hw : lCallS index y by' maxL hh n) (hrm : rm.cells = mc ∧ rm.slots = ms) (hR : rm.frames + 1 ≤ R.frames ∧ 8 + (maxL + 11) + rm.locals ≤ R.locals) (hn : As.length + 1 = n) (hst : st = As.reverse ++ .ref (α0 0 0) :: rest) (hrest : (rest.map fun v => v.category).sum ≤ 8) (hls : ls.size = 9) (hdg : decode code pc = .ok (.invokestatic index, 3)) (hRc : cells + mc ≤ R.cells ∧ slots + ms ≤ R.slots)
    (kk : ∀ (α1 : cAl) (H1 : Heap) (locs1 : List Loc), lJ s D Dm ca cm cO cOd α0 lo hm hi bo bd μ u τ α1 f' fd H1 locs1 → W p l e R s m #[Value.ref b] below meth c H1 locs1 (cells + mc) (slots + ms) Q (F0 m (pc + 3) ls (.int (nI k) :: rest))) :
    W p l e R s m #[Value.ref b] below meth c H locs cells slots Q (F0 m pc ls st) := by
  refine l_wr0 X J J.2.2.1.1 X.2.2.1.2.2.1 (Or.inl rfl) hc hw hrm hR hn (l_st J.1 hst) hrest hls hdg hRc (fun α1 H1 locs1 g1 g2 g3 g4 g5 => kk α1 H1 locs1 ⟨g1, ⟨lJ_m J.2.1.1 J.2.1.2 g3 (fun q hq z => ?_), J.2.1.2⟩, ⟨g2, fun k q hk => (J.2.2.1.2 k q hk).kept (g3 _ (J.2.2.1.2 k q hk).lt (fun z => ?_))⟩, g4, by have := J.2.2.2.2; omega⟩)
  · obtain ⟨-, -, -, -, -, hreg, -⟩ := X
    unfold lB at hq
    rcases z with z | z
    · unfold lA at z
      omega
    · omega
  · obtain ⟨-, -, -, -, -, hreg, -⟩ := X
    have hq := List.mem_of_getElem? hk
    rw [List.mem_singleton] at hq
    rw [hq] at z
    unfold lA at z
    dsimp only at z
    omega
theorem l_wrD (X : lX p s m c b L xs D Dm ca cm cO cOd α0 lo hm hi bo bd) (J : lJ s D Dm ca cm cO cOd α0 lo hm hi bo bd μ σ τ α f fd H locs)
    (hc : lMet fl l y by' maxL hh rm mc ms D ca (lA s.heap.size lo hi) bd α σ (cr α 0 (some 0) :: As) (lOd bd cOd fd) [(cOd, .double)] k u (lOd bd cOd fd')) (hw : lCallS index y by' maxL hh n) (hrm : rm.cells = mc ∧ rm.slots = ms) (hR : rm.frames + 1 ≤ R.frames ∧ 8 + (maxL + 11) + rm.locals ≤ R.locals) (hn : As.length + 1 = n) (hst : st = As.reverse ++ .ref (α0 0 0) :: rest) (hrest : (rest.map fun v => v.category).sum ≤ 8) (hls : ls.size = 9) (hdg : decode code pc = .ok (.invokestatic index, 3)) (hRc : cells + mc ≤ R.cells ∧ slots + ms ≤ R.slots)
    (kk : ∀ (α1 : cAl) (H1 : Heap) (locs1 : List Loc), lJ s D Dm ca cm cO cOd α0 lo hm hi bo bd μ u τ α1 f fd' H1 locs1 → W p l e R s m #[Value.ref b] below meth c H1 locs1 (cells + mc) (slots + ms) Q (F0 m (pc + 3) ls (.int (nI k) :: rest))) :
    W p l e R s m #[Value.ref b] below meth c H locs cells slots Q (F0 m pc ls st) := by
  refine l_wr0 X J J.2.2.1.2 X.2.2.1.2.2.2 (Or.inr rfl) hc hw hrm hR hn (l_st J.1 hst) hrest hls hdg hRc (fun α1 H1 locs1 g1 g2 g3 g4 g5 => kk α1 H1 locs1 ⟨g1, ⟨lJ_m J.2.1.1 J.2.1.2 g3 (fun q hq z => ?_), J.2.1.2⟩, ⟨fun k q hk => (J.2.2.1.1 k q hk).kept (g3 _ (J.2.2.1.1 k q hk).lt (fun z => ?_)), g2⟩, g4, by have := J.2.2.2.2; omega⟩)
  · obtain ⟨-, -, -, -, -, hreg, -⟩ := X
    unfold lB at hq
    rcases z with z | z
    · unfold lA at z
      omega
    · omega
  · obtain ⟨-, -, -, -, -, hreg, -⟩ := X
    have hq := List.mem_of_getElem? hk
    rw [List.mem_singleton] at hq
    rw [hq] at z
    unfold lA at z
    dsimp only at z
    omega
/-- behind a call of the reference -/
theorem lJ_mod {τ1 : mS} {H1 : Heap} {locs1 : List Loc} (X : lX p s m c b L xs D Dm ca cm cO cOd α0 lo hm hi bo bd) (J : lJ s D Dm ca cm cO cOd α0 lo hm hi bo bd μ σ τ α f fd H locs) (hP : va_P Dm mCl (mW cm μ τ1) H1) (hD : va_D (lB lo hm) (mW cm μ τ1)) (hsz : H.size ≤ H1.size) (hfr : ∀ q : Nat, q < H.size → ¬ lB lo hm q → H1[q]? = H[q]?) (hS : va_S (fun q => s.heap.size ≤ q) s.heap H1 locs1) : lJ s D Dm ca cm cO cOd α0 lo hm hi bo bd μ σ τ1 α f fd H1 locs1 := by
  obtain ⟨-, -, -, -, -, hreg, h17⟩ := X
  obtain ⟨⟨j1, j2, j3, j4, j5⟩, -, ⟨j6, j7⟩, -, hHi⟩ := J
  refine ⟨⟨fun k i hk hi => (j1 k i hk hi).kept (hfr _ (j1 k i hk hi).lt (fun z => ?_)), j2, j3, j4, j5⟩, ⟨hP, hD⟩, ⟨fun k q hk => (j6 k q hk).kept (hfr _ (j6 k q hk).lt (fun z => ?_)), fun k q hk => (j7 k q hk).kept (hfr _ (j7 k q hk).lt (fun z => ?_))⟩, hS, Nat.le_trans hHi hsz⟩
  · unfold lB at z
    by_cases hz : k = 17 ∧ i = 0
    · rw [hz.1, hz.2] at z
      dsimp only at z
      omega
    · have := j2.2 k i hk hi hz
      unfold lA at this
      dsimp only at z
      omega
  · have hq := List.mem_of_getElem? hk
    rw [List.mem_singleton] at hq
    rw [hq] at z
    unfold lB at z
    dsimp only at z
    omega
  · have hq := List.mem_of_getElem? hk
    rw [List.mem_singleton] at hq
    rw [hq] at z
    unfold lB at z
    dsimp only at z
    omega
theorem l_modI {o : Int32 × mS} (X : lX p s m c b L xs D Dm ca cm cO cOd α0 lo hm hi bo bd) (J : lJ s D Dm ca cm cO cOd α0 lo hm hi bo bd μ σ τ α f fd H locs)
    (hc : mMetI l y by' maxL ret rm Dm cm μ (lB lo hm) τ As o) (hw : cCallV RV index RX12 y by' maxL ret n) (hrm : rm.cells = 0 ∧ rm.slots = 0) (hR : rm.frames + 1 ≤ R.frames ∧ 8 + (maxL + 11) + rm.locals ≤ R.locals) (hn : As.length = n) (hst : st = As.reverse ++ .ref (μ 0) :: rest) (hrest : (rest.map fun v => v.category).sum ≤ 8) (hls : ls.size = 9) (hdg : decode code pc = .ok (.invokevirtual index, 3)) (hRc : cells ≤ R.cells ∧ slots ≤ R.slots)
    (kk : ∀ (H1 : Heap) (locs1 : List Loc), lJ s D Dm ca cm cO cOd α0 lo hm hi bo bd μ σ o.2 α f fd H1 locs1 → W p l e R s m #[Value.ref b] below meth c H1 locs1 cells slots Q (F0 m (pc + 3) ls (.int o.1 :: rest))) :
    W p l e R s m #[Value.ref b] below meth c H locs cells slots Q (F0 m pc ls st) := by
  obtain ⟨⟨hx, hb, hml, hown, hts⟩, -, ⟨-, hKm, -⟩, -, -, hreg, -⟩ := id X
  obtain ⟨-, ⟨hP, hD⟩, -, hS, -⟩ := id J
  refine l_run (va_runV (As := As) (rest := rest) ⟨hx, hb, hml, hown, hts⟩ hc (cwV n hts (mws_good hw.1) rfl hrm.1 hrm.2 hw.2 hR) ⟨mB_blind, va_recv hKm hP (ci := 0) (q0 := 0) rfl rfl, fun U hU hW => ⟨rfl, by rw [hU]; exact hP, va_K.moved hW.alike hKm, hD⟩⟩ rfl hn hls hst (lv_room hrest) hdg ⟨hRc.1, hRc.2⟩) hS (fun q hq => Nat.le_trans hreg.1 hq.1) (fun _ _ _ h => h.2) (fun v st₀ t H1 locs1 ht hvm hq hsz hfr hS1 => ?_)
  obtain ⟨⟨r, u, e1, e2, e3⟩, -⟩ := hq
  cases e1
  subst e2
  exact kk H1 locs1 (lJ_mod X J (by rw [← ht]; exact e3.1) e3.2.2 hsz hfr hS1)
theorem l_modL {o : Int64 × mS} (X : lX p s m c b L xs D Dm ca cm cO cOd α0 lo hm hi bo bd) (J : lJ s D Dm ca cm cO cOd α0 lo hm hi bo bd μ σ τ α f fd H locs)
    (hc : mMetL l y by' maxL ret rm Dm cm μ (lB lo hm) τ As o) (hw : cCallV RV index RX12 y by' maxL ret n) (hrm : rm.cells = 0 ∧ rm.slots = 0) (hR : rm.frames + 1 ≤ R.frames ∧ 8 + (maxL + 11) + rm.locals ≤ R.locals) (hn : As.length = n) (hst : st = As.reverse ++ .ref (μ 0) :: rest) (hrest : (rest.map fun v => v.category).sum ≤ 8) (hls : ls.size = 9) (hdg : decode code pc = .ok (.invokevirtual index, 3)) (hRc : cells ≤ R.cells ∧ slots ≤ R.slots)
    (kk : ∀ (H1 : Heap) (locs1 : List Loc), lJ s D Dm ca cm cO cOd α0 lo hm hi bo bd μ σ o.2 α f fd H1 locs1 → W p l e R s m #[Value.ref b] below meth c H1 locs1 cells slots Q (F0 m (pc + 3) ls (.long o.1 :: rest))) :
    W p l e R s m #[Value.ref b] below meth c H locs cells slots Q (F0 m pc ls st) := by
  obtain ⟨⟨hx, hb, hml, hown, hts⟩, -, ⟨-, hKm, -⟩, -, -, hreg, -⟩ := id X
  obtain ⟨-, ⟨hP, hD⟩, -, hS, -⟩ := id J
  refine l_run (va_runV (As := As) (rest := rest) ⟨hx, hb, hml, hown, hts⟩ hc (cwV n hts (mws_good hw.1) rfl hrm.1 hrm.2 hw.2 hR) ⟨mB_blind, va_recv hKm hP (ci := 0) (q0 := 0) rfl rfl, fun U hU hW => ⟨rfl, by rw [hU]; exact hP, va_K.moved hW.alike hKm, hD⟩⟩ rfl hn hls hst (lv_room hrest) hdg ⟨hRc.1, hRc.2⟩) hS (fun q hq => Nat.le_trans hreg.1 hq.1) (fun _ _ _ h => h.2) (fun v st₀ t H1 locs1 ht hvm hq hsz hfr hS1 => ?_)
  obtain ⟨⟨r, u, e1, e2, e3⟩, -⟩ := hq
  cases e1
  subst e2
  exact kk H1 locs1 (lJ_mod X J (by rw [← ht]; exact e3.1) e3.2.2 hsz hfr hS1)
theorem l_modF {o : UInt32 × mS} (X : lX p s m c b L xs D Dm ca cm cO cOd α0 lo hm hi bo bd) (J : lJ s D Dm ca cm cO cOd α0 lo hm hi bo bd μ σ τ α f fd H locs)
    (hc : mMetF l y by' maxL ret rm Dm cm μ (lB lo hm) τ As o) (hw : cCallV RV index RX12 y by' maxL ret n) (hrm : rm.cells = 0 ∧ rm.slots = 0) (hR : rm.frames + 1 ≤ R.frames ∧ 8 + (maxL + 11) + rm.locals ≤ R.locals) (hn : As.length = n) (hst : st = As.reverse ++ .ref (μ 0) :: rest) (hrest : (rest.map fun v => v.category).sum ≤ 8) (hls : ls.size = 9) (hdg : decode code pc = .ok (.invokevirtual index, 3)) (hRc : cells ≤ R.cells ∧ slots ≤ R.slots)
    (kk : ∀ (H1 : Heap) (locs1 : List Loc), lJ s D Dm ca cm cO cOd α0 lo hm hi bo bd μ σ o.2 α f fd H1 locs1 → W p l e R s m #[Value.ref b] below meth c H1 locs1 cells slots Q (F0 m (pc + 3) ls (.float o.1 :: rest))) :
    W p l e R s m #[Value.ref b] below meth c H locs cells slots Q (F0 m pc ls st) := by
  obtain ⟨⟨hx, hb, hml, hown, hts⟩, -, ⟨-, hKm, -⟩, -, -, hreg, -⟩ := id X
  obtain ⟨-, ⟨hP, hD⟩, -, hS, -⟩ := id J
  refine l_run (va_runV (As := As) (rest := rest) ⟨hx, hb, hml, hown, hts⟩ hc (cwV n hts (mws_good hw.1) rfl hrm.1 hrm.2 hw.2 hR) ⟨mB_blind, va_recv hKm hP (ci := 0) (q0 := 0) rfl rfl, fun U hU hW => ⟨rfl, by rw [hU]; exact hP, va_K.moved hW.alike hKm, hD⟩⟩ rfl hn hls hst (lv_room hrest) hdg ⟨hRc.1, hRc.2⟩) hS (fun q hq => Nat.le_trans hreg.1 hq.1) (fun _ _ _ h => h.2) (fun v st₀ t H1 locs1 ht hvm hq hsz hfr hS1 => ?_)
  obtain ⟨⟨r, u, e1, e2, e3⟩, -⟩ := hq
  cases e1
  subst e2
  exact kk H1 locs1 (lJ_mod X J (by rw [← ht]; exact e3.1) e3.2.2 hsz hfr hS1)
theorem l_modD {o : UInt64 × mS} (X : lX p s m c b L xs D Dm ca cm cO cOd α0 lo hm hi bo bd) (J : lJ s D Dm ca cm cO cOd α0 lo hm hi bo bd μ σ τ α f fd H locs)
    (hc : mMetD l y by' maxL ret rm Dm cm μ (lB lo hm) τ As o) (hw : cCallV RV index RX12 y by' maxL ret n) (hrm : rm.cells = 0 ∧ rm.slots = 0) (hR : rm.frames + 1 ≤ R.frames ∧ 8 + (maxL + 11) + rm.locals ≤ R.locals) (hn : As.length = n) (hst : st = As.reverse ++ .ref (μ 0) :: rest) (hrest : (rest.map fun v => v.category).sum ≤ 8) (hls : ls.size = 9) (hdg : decode code pc = .ok (.invokevirtual index, 3)) (hRc : cells ≤ R.cells ∧ slots ≤ R.slots)
    (kk : ∀ (H1 : Heap) (locs1 : List Loc), lJ s D Dm ca cm cO cOd α0 lo hm hi bo bd μ σ o.2 α f fd H1 locs1 → W p l e R s m #[Value.ref b] below meth c H1 locs1 cells slots Q (F0 m (pc + 3) ls (.double o.1 :: rest))) :
    W p l e R s m #[Value.ref b] below meth c H locs cells slots Q (F0 m pc ls st) := by
  obtain ⟨⟨hx, hb, hml, hown, hts⟩, -, ⟨-, hKm, -⟩, -, -, hreg, -⟩ := id X
  obtain ⟨-, ⟨hP, hD⟩, -, hS, -⟩ := id J
  refine l_run (va_runV (As := As) (rest := rest) ⟨hx, hb, hml, hown, hts⟩ hc (cwV n hts (mws_good hw.1) rfl hrm.1 hrm.2 hw.2 hR) ⟨mB_blind, va_recv hKm hP (ci := 0) (q0 := 0) rfl rfl, fun U hU hW => ⟨rfl, by rw [hU]; exact hP, va_K.moved hW.alike hKm, hD⟩⟩ rfl hn hls hst (lv_room hrest) hdg ⟨hRc.1, hRc.2⟩) hS (fun q hq => Nat.le_trans hreg.1 hq.1) (fun _ _ _ h => h.2) (fun v st₀ t H1 locs1 ht hvm hq hsz hfr hS1 => ?_)
  obtain ⟨⟨r, u, e1, e2, e3⟩, -⟩ := hq
  cases e1
  subst e2
  exact kk H1 locs1 (lJ_mod X J (by rw [← ht]; exact e3.1) e3.2.2 hsz hfr hS1)
end B23
