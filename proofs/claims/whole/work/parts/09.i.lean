/-! Bytes copied; calls of inherited methods of a text that is built. -/
/-- bytes copied within kind 16; from a text -/
def uBb (σ : cS) (i sp j dp n : Nat) : cS := (σ.1, σ.2.1, σ.2.2.1, (fun k' i' f' => if k' = 16 ∧ i' = j ∧ dp ≤ f' ∧ f' < dp + n then σ.2.2.2.1 16 i (sp + (f' - dp)) else σ.2.2.2.1 k' i' f'), σ.2.2.2.2)
def uBt (σ : cS) (t sp j dp n : Nat) : cS := (σ.1, σ.2.1, σ.2.2.1, (fun k' i' f' => if k' = 16 ∧ i' = j ∧ dp ≤ f' ∧ f' < dp + n then (tB.getD t []).getD (sp + (f' - dp)) 0 else σ.2.2.2.1 k' i' f'), σ.2.2.2.2)
section CEE
variable {p : Program} {l : Launch} {e : Env} {R : Room} {s : State} {m : MethodId} {args : Array Value} {below : List Frame} {meth : Method} {c : Code} {H H1 : Heap} {locs : List Loc} {cells slots : Nat} {Q : State → Prop}
variable {cc : ByteArray} {nL pc : Nat} {own : String} {ls : Array Slot} {rest st : List Value} {D : va_G} {ca : Nat → ClassId} {b : Bool} {A : Nat → Prop} {H0 : Heap} {σ0 σ : cS} {α0 α : cAl}
theorem cE_I {σ' : cS} {k i k' i' : Nat} (h1 : cn σ' = cn σ) (h2 : cln σ' = cln σ) (h3 : cel σ' = cel σ) (h4 : cJ σ' = cJ σ) (h5 : cR σ' = cR σ) (h6 : ∀ k' i' f', ¬ (k' = k ∧ i' = i) → cI σ' k' i' f' = cI σ k' i' f') (q : ¬ (k' = k ∧ i' = i)) : cE ca α σ' k' i' = cE ca α σ k' i' := by
  have e2 : cI σ' k' i' = cI σ k' i' := funext fun f' => h6 k' i' f' q
  have e3 : cV α σ' k' i' = cV α σ k' i' := funext fun f' => by unfold cV; rw [e2, h4, h5]
  unfold cE
  rw [e2, e3, h2, h4, h5, h3]
theorem cM_bytes {σ' : cS} {i q1 : Nat} (C : cC p s m args c cc nL own D ca A α0) (hM : cM D ca b A s.heap σ0 α0 σ α H locs) (h17 : 0 < cn σ0 17) {locs1 : List Loc} (hi : i < cn σ 16) (h1 : cn σ' = cn σ) (h2 : cln σ' = cln σ) (h3 : cel σ' = cel σ) (h4 : cJ σ' = cJ σ) (h5 : cR σ' = cR σ) (h6 : ∀ k' i' f', ¬ (k' = 16 ∧ i' = i) → cI σ' k' i' f' = cI σ k' i' f') (hq : (cL ca α σ)[q1]? = some (α 16 i, cE ca α σ 16 i)) (g1 : va_P D cCl ((cL ca α σ).set q1 (α 16 i, cE ca α σ' 16 i)) H1) (g3 : va_S A s.heap H1 locs1) : cM D ca b A s.heap σ0 α0 σ' α H1 locs1 := by
  have hout := c_out17 C hM h17
  have hD : cD A α σ' := by
    unfold cD
    rw [h1]
    exact hM.2.1
  have hX : cX σ0 α0 σ' α := by
    unfold cX
    rw [h1]
    exact hM.2.2.2.2.2
  exact ⟨cL_set hM.1 hM.2.1 (by omega) hi (by omega) hq g1 (fun a h1 h2 => by
    have h3 : a < s.heap.size := Nat.lt_of_not_le fun q => h2 (hM.2.2.2.2.1 a q)
    rw [g3.2.1 a h3 h2, hM.2.2.2.1.2.1 a h3 h2]) h1 (Or.inl hout) (fun k' i' hne _ _ => cE_I h1 h2 h3 h4 h5 h6 hne), hD, cSh_n hM.2.2.1 h1 h5 h2 h3, g3, hM.2.2.2.2.1, hX⟩
theorem c_copyb (C : cC p s m args c cc nL own D ca A α0) (hM : cM D ca b A s.heap σ0 α0 σ α H locs) (h17 : 0 < cn σ0 17) {i j index : Nat} {x y : Option Nat} {sp dp n : Int32} (hd : dr σ 16 x = some i) (hd2 : dr σ 16 y = some j) (hsp : ¬ sp < 0) (hdp : ¬ dp < 0) (hn : ¬ n < 0) (hi1 : sp.toNatClampNeg + n.toNatClampNeg ≤ cln σ 16 i) (hj1 : dp.toNatClampNeg + n.toNatClampNeg ≤ cln σ 16 j) (hfit : ∀ f, f < n.toNatClampNeg → (cI σ 16 i (sp.toNatClampNeg + f)).toInt8.toInt32 = cI σ 16 i (sp.toNatClampNeg + f))
    (hl : Cond.methodLink own index arraycopyName ∈ wl) (hls : ls.size = nL) (hfr : 1 ≤ R.frames) (hlo : (rest.map fun v => v.category).sum + 18 ≤ R.locals) (hdg : decode cc pc = .ok (.invokestatic index, 3))
    (kk : ∀ (H1 : Heap) (locs1 : List Loc), cM D ca b A s.heap σ0 α0 (uBb σ i sp.toNatClampNeg j dp.toNatClampNeg n.toNatClampNeg) α H1 locs1 → W p l e R s m args below meth c H1 locs1 cells slots Q (F0 m (pc + 3) ls rest)) : W p l e R s m args below meth c H locs cells slots Q (F0 m pc ls (.int n :: .int dp :: cr α 16 y :: .int sp :: cr α 16 x :: rest)) := by
  obtain ⟨hx, hb, hml, hown, hts, hK, hG⟩ := id C
  obtain ⟨rfl, hi⟩ := dr_of hd
  obtain ⟨rfl, hj⟩ := dr_of hd2
  obtain ⟨q0, hq0⟩ := cL_at (ca := ca) (α := α) (σ := σ) (k := 16) (by omega) hi (by omega)
  obtain ⟨q1, hq1⟩ := cL_at (ca := ca) (α := α) (σ := σ) (k := 16) (by omega) hj (by omega)
  have ha := hq0
  rw [cE_arr (by omega) (by omega)] at ha
  have ha1 := hq1
  rw [cE_arr (by omega) (by omega)] at ha1
  show W p l e R s m args below meth c H locs cells slots Q (F0 m pc ls (.int n :: .int dp :: .ref (α 16 j) :: .int sp :: .ref (α 16 i) :: rest))
  refine va_copyi (D := D) (cl := cCl) (tys := cTys ca) (ws := cL ca α σ) (A := A) (H0 := s.heap) (ty := .byte) hx hb (hml.trans hls.symm) hown (hts _ hl) (hts _ (wl_in (i := 1070) (by decide +kernel))) (hts _ (wl_in (i := 1069) (by decide +kernel))) (hts _ (wl_in (i := 37) (by decide +kernel))) hK (cL_P hM.1) (cL_D hM.2.1) hM.2.2.2.1 q0 q1 4 4 ha ha1 rfl rfl rfl hsp hdp hn hi1 hj1 (fun f hf => by rw [← hfit f hf]; exact pk_fb _) hfr hlo hdg fun H1 locs1 g1 g2 g3 => ?_
  have e1 : (Sum.inl (ca 16, cln σ 16 j, .inl (va_cpy (cI σ 16 i) (cI σ 16 j) sp.toNatClampNeg dp.toNatClampNeg n.toNatClampNeg)) : va_E) = cE ca α (uBb σ i sp.toNatClampNeg j dp.toNatClampNeg n.toNatClampNeg) 16 j := by
    rw [cE_arr (by omega) (by omega)]
    have e2 : va_cpy (cI σ 16 i) (cI σ 16 j) sp.toNatClampNeg dp.toNatClampNeg n.toNatClampNeg = cI (uBb σ i sp.toNatClampNeg j dp.toNatClampNeg n.toNatClampNeg) 16 j := funext fun f => by
      show (if dp.toNatClampNeg ≤ f ∧ f < dp.toNatClampNeg + n.toNatClampNeg then cI σ 16 i (sp.toNatClampNeg + (f - dp.toNatClampNeg)) else cI σ 16 j f) = if 16 = 16 ∧ j = j ∧ dp.toNatClampNeg ≤ f ∧ f < dp.toNatClampNeg + n.toNatClampNeg then cI σ 16 i (sp.toNatClampNeg + (f - dp.toNatClampNeg)) else cI σ 16 j f
      by_cases h : dp.toNatClampNeg ≤ f ∧ f < dp.toNatClampNeg + n.toNatClampNeg
      · rw [if_pos h, if_pos ⟨rfl, rfl, h⟩]
      · rw [if_neg h, if_neg (fun q => h q.2.2)]
    rw [e2]
    rfl
  rw [e1] at g1
  exact kk H1 locs1 (cM_bytes C hM h17 hj rfl rfl rfl rfl rfl (fun k' i' f' hne => if_neg fun q => hne ⟨q.1, q.2.1⟩) hq1 g1 g3)
theorem c_copyt (C : cC p s m args c cc nL own D ca A α0) (hM : cM D ca b A s.heap σ0 α0 σ α H locs) (h17 : 0 < cn σ0 17) {t j index : Nat} {x y : Option Nat} {dp n : Int32} (hd : dt x = some t) (hd2 : dr σ 16 y = some j) (hdp : ¬ dp < 0) (hn : ¬ n < 0) (hi1 : n.toNatClampNeg ≤ tL.getD t 0) (hj1 : dp.toNatClampNeg + n.toNatClampNeg ≤ cln σ 16 j)
    (hl : Cond.methodLink own index arraycopyName ∈ wl) (hls : ls.size = nL) (hfr : 1 ≤ R.frames) (hlo : (rest.map fun v => v.category).sum + 18 ≤ R.locals) (hdg : decode cc pc = .ok (.invokestatic index, 3))
    (kk : ∀ (H1 : Heap) (locs1 : List Loc), cM D ca b A s.heap σ0 α0 (uBt σ t 0 j dp.toNatClampNeg n.toNatClampNeg) α H1 locs1 → W p l e R s m args below meth c H1 locs1 cells slots Q (F0 m (pc + 3) ls rest)) : W p l e R s m args below meth c H locs cells slots Q (F0 m pc ls (.int n :: .int dp :: cr α 16 y :: .int 0 :: cr α 21 x :: rest)) := by
  obtain ⟨hx, hb, hml, hown, hts, hK, hG⟩ := id C
  obtain ⟨rfl, ht⟩ := dt_of hd
  obtain ⟨rfl, hj⟩ := dr_of hd2
  obtain ⟨q1, hq1⟩ := cL_at (ca := ca) (α := α) (σ := σ) (k := 16) (by omega) hj (by omega)
  have ha1 := hq1
  rw [cE_arr (by omega) (by omega)] at ha1
  show W p l e R s m args below meth c H locs cells slots Q (F0 m pc ls (.int n :: .int dp :: .ref (α 16 j) :: .int 0 :: .ref (α 21 t) :: rest))
  rw [congrFun (hM.2.2.2.2.2.2.2 21 (by omega)) t]
  have h00 : ((0 : Int32).toNatClampNeg) = 0 := by decide
  have hfb : ∀ t, t < 17 → ∀ f, f < tL.getD t 0 → ((tB.getD t []).getD f 0).toInt8.toInt32 = (tB.getD t []).getD f 0 := by decide +kernel
  refine vk_copyt (D := D) (cl := cCl) (tys := cTys ca) (ws := cL ca α σ) (A := A) (f := fun f => (tB.getD t []).getD f 0) hx hb (hml.trans hls.symm) hown (hts _ hl) (hts _ (wl_in (i := 1070) (by decide +kernel))) (hts _ (wl_in (i := 1069) (by decide +kernel))) (hts _ (wl_in (i := 37) (by decide +kernel))) hK (cL_P hM.1) (cL_D hM.2.1) hM.2.2.2.1 (hG.2.2.2.2.1.1.1 t ht).2.2.2 q1 4 ha1 rfl (by decide) hdp hn (by rw [h00, Nat.zero_add]; exact hi1) hj1 (fun f hf => by rw [h00, Nat.zero_add, ← hfb t ht f (by omega)]; exact pk_fb _) hfr hlo hdg fun H1 locs1 g1 g2 g3 => ?_
  have e1 : (Sum.inl (ca 16, cln σ 16 j, .inl (va_cpy (fun f => (tB.getD t []).getD f 0) (cI σ 16 j) (0 : Int32).toNatClampNeg dp.toNatClampNeg n.toNatClampNeg)) : va_E) = cE ca α (uBt σ t 0 j dp.toNatClampNeg n.toNatClampNeg) 16 j := by
    rw [cE_arr (by omega) (by omega), h00]
    have e2 : va_cpy (fun f => (tB.getD t []).getD f 0) (cI σ 16 j) 0 dp.toNatClampNeg n.toNatClampNeg = cI (uBt σ t 0 j dp.toNatClampNeg n.toNatClampNeg) 16 j := funext fun f => by
      show (if dp.toNatClampNeg ≤ f ∧ f < dp.toNatClampNeg + n.toNatClampNeg then (tB.getD t []).getD (0 + (f - dp.toNatClampNeg)) 0 else cI σ 16 j f) = if 16 = 16 ∧ j = j ∧ dp.toNatClampNeg ≤ f ∧ f < dp.toNatClampNeg + n.toNatClampNeg then (tB.getD t []).getD (0 + (f - dp.toNatClampNeg)) 0 else cI σ 16 j f
      by_cases h : dp.toNatClampNeg ≤ f ∧ f < dp.toNatClampNeg + n.toNatClampNeg
      · rw [if_pos h, if_pos ⟨rfl, rfl, h⟩]
      · rw [if_neg h, if_neg (fun q => h q.2.2)]
    rw [e2]
    rfl
  rw [e1] at g1
  exact kk H1 locs1 (cM_bytes C hM h17 hj rfl rfl rfl rfl rfl (fun k' i' f' hne => if_neg fun q => hne ⟨q.1, q.2.1⟩) hq1 g1 g3)
/-- a private method is what is meant, whatever the receiver's class -/
theorem c_selp {C : String} {y : MethodName} {n : Nat} (hy : y.cls ≠ "java/lang/invoke/MethodHandle" ∧ y.cls ≠ "java/lang/invoke/VarHandle") (hins : (Cond.instantiable C n).before args s = true) (hpriv : (Cond.privateMethod y).before args s = true) (hinst : (Cond.instanceMethod y).before args s = true) (hsame : (Cond.sameMethod y.cls y.cls y.name y.desc).before args s = true) : (Cond.selects C y y).before args s = true := by
  obtain ⟨c, k, hc, hk, -, hniab, -, -⟩ := Cond.instantiable_spec hins
  obtain ⟨mk, methM, hnamed, hmethM, -, -⟩ := Cond.instanceMethod_spec hinst
  have hfound : s.methodFound? y.cls y.name y.desc = some mk := State.methodFound?_of_named hnamed hy
  obtain ⟨-, k2, hk2, hni⟩ := Cond.sameMethod_spec (findClass_of_methodNamed hnamed) hfound hsame
  have hsel : selectMethod {} s.vm c mk = .method mk := selectMethod_private hmethM (Cond.privateMethod_at hpriv mk methM hnamed hmethM)
  simp only [Cond.before, Cond.holds, Cond.value, hc, hfound, hnamed, hsel, hk2]
  simp; exact hni
end CEE
theorem c_sbI : Cond.instantiable "java/lang/StringBuilder" 4 ∈ wl := wl_in (i := 286) (by decide +kernel)
def cCallU (own : String) (index : Nat) (y : MethodName) (cc : ByteArray) (nL : Nat) (ret : Option FieldType) (n : Nat) : Prop :=
  (Cond.methodLink own index y ∈ wl ∧ Cond.sameMethod y.cls y.cls y.name y.desc ∈ wl ∧ Cond.selects "java/lang/StringBuilder" y y ∈ wl ∧ Cond.instanceMethod y ∈ wl ∧ Cond.initialized y.cls ∈ wl ∧ Cond.code y cc nL ret ∈ wl) ∧ y.cls ≠ "java/lang/invoke/MethodHandle" ∧ y.cls ≠ "java/lang/invoke/VarHandle" ∧ (parseMethodDescriptor y.desc).map (fun d => d.parameters.length) = some n
def cCallSU (own : String) (index : Nat) (y : MethodName) (cc : ByteArray) (nL : Nat) (ret : Option FieldType) (n : Nat) : Prop :=
  (Cond.methodLink own index y ∈ wl ∧ Cond.sameMethod y.cls y.cls y.name y.desc ∈ wl ∧ Cond.superclass own y.cls ∈ wl ∧ Cond.instanceMethod y ∈ wl ∧ Cond.initialized y.cls ∈ wl ∧ Cond.code y cc nL ret ∈ wl) ∧ y.name ≠ "<init>" ∧ (parseMethodDescriptor y.desc).map (fun d => d.parameters.length) = some n
section CUU
variable {p : Program} {l : Launch} {e : Env} {R : Room} {s : State} {m : MethodId} {args : Array Value} {below : List Frame} {meth : Method} {c : Code} {H : Heap} {locs : List Loc} {cells slots : Nat}
variable {cc : ByteArray} {nL pc : Nat} {own : String} {ls : Array Slot} {rest st : List Value} {D : va_G} {ca : Nat → ClassId} {b : Bool} {A : Nat → Prop} {σ0 σ : cS} {α0 α : cAl}
variable {y : MethodName} {by' : ByteArray} {maxL n index mc ms : Nat} {ret : Option FieldType} {rm : Room} {As : List Value}
theorem c_rU {Qc : Array Value → State → Outcome → State → Prop} {i : Nat} {x : Option Nat} (C : cC p s m args c cc nL own D ca A α0) (hM : cM D ca b A s.heap σ0 α0 σ α H locs) (h17 : 0 < cn σ0 17) (hd : dr σ 11 x = some i) (hc : Met l y (mWs y by' maxL ret) rm (va_Pc (cr α 11 x :: As) (cPre D ca b A α σ)) Qc mc ms A) (hw : cCallU own index y by' maxL ret n) (hrm : rm.cells = mc ∧ rm.slots = ms) (hR : rm.frames + 1 ≤ R.frames ∧ 8 + (maxL + 11) + rm.locals ≤ R.locals) (hn : As.length = n) (hst : st = As.reverse ++ cr α 11 x :: rest) (hrest : (rest.map fun v => v.category).sum ≤ 8) (hls : ls.size = nL) (hdg : decode cc pc = .ok (.invokevirtual index, 3)) (hRc : cells + mc ≤ R.cells ∧ slots + ms ≤ R.slots) :
    va_Run p l e R s m args below meth c H locs cells slots mc ms (F0 m pc ls st) rest (Qc (cr α 11 x :: As).toArray) A := by
  obtain ⟨hx, hb, hml, hown, hts, hK, hG⟩ := id C
  obtain ⟨rfl, hi⟩ := dr_of hd
  have hP := hM.1.one (k := 11) (by omega) hi
  rw [cE_obj (by omega)] at hP
  have hsel : (Cond.selects "java/lang/StringBuilder" y y).before args s = true := hts _ hw.1.2.2.1
  have hts2 : ∀ w ∈ Cond.selects "java/lang/StringBuilder" y y :: wl, w.before args s = true := List.forall_mem_cons.mpr ⟨hsel, hts⟩
  have hgd : GoodIn (Cond.selects "java/lang/StringBuilder" y y :: wl) (va_wsU own index "java/lang/StringBuilder" y.cls y y (mWs y by' maxL ret)) := by
    intro w hw'
    have hm : w = Cond.selects "java/lang/StringBuilder" y y ∨ w ∈ wl := by
      simp only [va_wsU, mWs, List.cons_append, List.nil_append, List.mem_cons] at hw'
      rcases hw' with h | h | h | h | h | h | h
      · exact Or.inr (h ▸ hw.1.1)
      · exact Or.inr (h ▸ hw.1.2.1)
      · exact Or.inl h
      · exact Or.inr (h ▸ hw.1.2.2.2.1)
      · exact Or.inr (h ▸ hw.1.2.2.2.2.1)
      · exact Or.inr (h ▸ hw.1.2.2.2.2.2)
      · exact Or.inr h
    refine ⟨List.mem_cons.mpr hm, ?_⟩
    rcases hm with h | h
    · rw [h]; exact good_of_word rfl
    · exact good_of_word (wl_good w h)
  exact va_runU (As := As) (rest := rest) ⟨hx, hb, hml, hown, hts2⟩ hc (va_cwU n hts2 hgd rfl hrm.1 hrm.2 rfl hw.2 hR) ⟨cPre_blind, va_recv hK hP (cCl_at 11 (by omega)) (q0 := 0) rfl, fun U hU hW => ⟨rfl, cM_pre C hM h17 U hU hW⟩⟩ rfl hn hls hst (lv_room hrest) hdg hRc
theorem c_rSU {Qc : Array Value → State → Outcome → State → Prop} {i : Nat} {x : Option Nat} (C : cC p s m args c cc nL own D ca A α0) (hM : cM D ca b A s.heap σ0 α0 σ α H locs) (h17 : 0 < cn σ0 17) (hd : dr σ 11 x = some i) (hc : Met l y (mWs y by' maxL ret) rm (va_Pc (cr α 11 x :: As) (cPre D ca b A α σ)) Qc mc ms A) (hw : cCallSU own index y by' maxL ret n) (hrm : rm.cells = mc ∧ rm.slots = ms) (hR : rm.frames + 1 ≤ R.frames ∧ 8 + (maxL + 11) + rm.locals ≤ R.locals) (hn : As.length = n) (hst : st = As.reverse ++ cr α 11 x :: rest) (hrest : (rest.map fun v => v.category).sum ≤ 8) (hls : ls.size = nL) (hdg : decode cc pc = .ok (.invokespecial index, 3)) (hRc : cells + mc ≤ R.cells ∧ slots + ms ≤ R.slots) :
    va_Run p l e R s m args below meth c H locs cells slots mc ms (F0 m pc ls st) rest (Qc (cr α 11 x :: As).toArray) A := by
  obtain ⟨hx, hb, hml, hown, hts, hK, hG⟩ := id C
  obtain ⟨rfl, hi⟩ := dr_of hd
  have hP := hM.1.one (k := 11) (by omega) hi
  rw [cE_obj (by omega)] at hP
  obtain ⟨cC, hat⟩ := classAt_of (hts _ c_sbI)
  have hgd : GoodIn wl (va_wsSU own index y (mWs y by' maxL ret)) := by
    intro w hw'
    have hm : w ∈ wl := by
      simp only [va_wsSU, mWs, List.cons_append, List.nil_append, List.mem_cons] at hw'
      rcases hw' with h | h | h | h | h | h | h
      · exact h ▸ hw.1.1
      · exact h ▸ hw.1.2.1
      · exact h ▸ hw.1.2.2.1
      · exact h ▸ hw.1.2.2.2.1
      · exact h ▸ hw.1.2.2.2.2.1
      · exact h ▸ hw.1.2.2.2.2.2
      · exact h
    exact ⟨hm, good_of_word (wl_good w hm)⟩
  exact va_runSU (As := As) (rest := rest) hat ⟨hx, hb, hml, hown, hts⟩ hc (va_cwSU n hts hgd rfl hrm.1 hrm.2 hw.2 hR) ⟨cPre_blind, va_recv hK hP (cCl_at 11 (by omega)) (q0 := 0) rfl, fun U hU hW => ⟨rfl, cM_pre C hM h17 U hU hW⟩⟩ rfl hn hls hst (lv_room hrest) hdg hRc
end CUU
section CRA
variable {p : Program} {l : Launch} {e : Env} {R : Room} {s : State} {m : MethodId} {args : Array Value} {below : List Frame} {meth : Method} {c : Code} {H : Heap} {locs : List Loc} {mc ms : Nat}
variable {cc : ByteArray} {nL pc : Nat} {own : String} {ls : Array Slot} {D : va_G} {ca : Nat → ClassId} {b : Bool} {A : Nat → Prop} {σ0 σ : cS} {α0 α : cAl} {fl : Bool}
theorem c_rac {o : cS} {k j : Nat} {rt : FieldType} (C : cC p s m args c cc nL own D ca A α0) (hM : cM D ca b A s.heap σ0 α0 σ α H locs) (hfl : fl = false → α = α0) (hr : meth.sig.returnType = some rt) (hrt : c_isR rt = true) (hlocks : meth.locks = false) (hd : decode cc pc = .ok (.areturn, 1)) (h : some σ = some o) :
    W p l e R s m args below meth c H locs mc ms (MQ below (cQ fl D ca b A α0 σ0 (fun α1 => some (cr α1 k (some j))) o) args s mc ms A) (F0 m pc ls [cr α k (some j)]) := by
  cases h
  exact W.aret C.1 C.2.1 hr (by cases rt <;> first | exact Or.inl ⟨_, rfl⟩ | exact Or.inr ⟨_, rfl⟩ | exact absurd hrt (by simp [c_isR])) (va_rf_or _) (fun t ht hW => ⟨⟨α, hfl, rfl, c_end C hM ht hW⟩, hM.2.2.2.1.F ht⟩) hM.2.2.2.1.2.2 hd hlocks
end CRA
