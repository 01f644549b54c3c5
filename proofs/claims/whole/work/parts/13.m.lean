/-! The reference's constructor: 37 arrays, one behind another; behind it all is zero and the purse 100. -/
def mZ : mS := (fun _ => 0, fun _ => 0, fun _ _ => 0, fun _ _ => 0)
def iF (σ : mS) (j : Nat) (α : Nat → Nat) (k : Nat) : Value := if mKd k = 0 ∨ mKd k = 6 then .int (σ.1 k) else if mKd k = 1 then .long (σ.2.1 k) else if k ∈ mAl.take j then .ref (α (k + 1)) else .null
def iW (σ : mS) (ca : Nat → ClassId) (j : Nat) (α : Nat → Nat) : va_W := (α 0, .inr (0, (List.range 53).map (iF σ j α))) :: (mAl.take j).map (mX ca α σ)
def iM (D : va_G) (ca : Nat → ClassId) (α : Nat → Nat) (A : Nat → Prop) (H0 : Heap) (σ : mS) (j : Nat) (H : Heap) (locs : List Loc) : Prop := va_P D mCl (iW σ ca j α) H ∧ va_D A (iW σ ca j α) ∧ va_S A H0 H locs ∧ (∀ q, H0.size ≤ q → A q)
theorem mAl_ix : ∀ j, j < 37 → ∀ k, mAl[j]? = some k → k ∉ mAl.take j ∧ k < 53 ∧ mAl.take (j + 1) = mAl.take j ++ [k] ∧ 2 ≤ mKd k ∧ mKd k ≤ 5 := by decide +kernel
theorem mAl_all : ∀ k, k < 53 → mKd k = 0 ∨ mKd k = 6 ∨ mKd k = 1 ∨ ((2 ≤ mKd k ∧ mKd k ≤ 5) ∧ k ∈ mAl.take 37) := by decide +kernel
theorem iW_full (σ : mS) (ca : Nat → ClassId) (α : Nat → Nat) : iW σ ca 37 α = mW ca α σ := by
  have h1 : (List.range 53).map (iF σ 37 α) = (List.range 53).map (mF α σ) := List.map_congr_left fun k hk => by
    rcases mAl_all k (List.mem_range.mp hk) with h | h | h | ⟨h, h2⟩
    · simp [iF, mF, h]
    · simp [iF, mF, h]
    · simp [iF, mF, h]
    · simp only [iF, mF, if_neg (show ¬ (mKd k = 0 ∨ mKd k = 6) by omega), if_neg (show ¬ mKd k = 1 by omega), if_pos h2]
  unfold iW mW
  rw [h1]
  rfl
theorem iW_next {σ : mS} {ca : Nat → ClassId} {j k q : Nat} {α α1 : Nat → Nat} (hj : j < 37) (hk : mAl[j]? = some k) (h1 : α1 = fun i => if i = k + 1 then q else α i) : (iW σ ca j α ++ [(q, Sum.inl (ca (mKd k), mLn k, mCo σ k))]).set 0 (α 0, .inr (0, ((List.range 53).map (iF σ j α)).set k (.ref q))) = iW σ ca (j + 1) α1 := by
  obtain ⟨q1, q2, q3, q4, q5⟩ := mAl_ix j hj k hk
  have e0 : α1 0 = α 0 := by rw [h1]; exact if_neg (by omega)
  have ek : α1 (k + 1) = q := by rw [h1]; exact if_pos rfl
  have ei : ∀ i, i ≠ k → α1 (i + 1) = α (i + 1) := fun i hi => by rw [h1]; exact if_neg (by omega)
  have hf : ((List.range 53).map (iF σ j α)).set k (.ref q) = (List.range 53).map (iF σ (j + 1) α1) := xx_map_set fun i hi => by
    by_cases hik : i = k
    · subst hik
      rw [if_pos rfl]
      simp only [iF, if_neg (show ¬ (mKd i = 0 ∨ mKd i = 6) by omega), if_neg (show ¬ mKd i = 1 by omega)]
      rw [if_pos (by rw [q3]; simp), ek]
    · rw [if_neg hik]
      simp only [iF]
      rw [ei i hik, q3]
      simp [hik]
  have hm : (mAl.take (j + 1)).map (mX ca α1 σ) = (mAl.take j).map (mX ca α σ) ++ [(q, Sum.inl (ca (mKd k), mLn k, mCo σ k))] := by
    rw [q3, List.map_append]
    refine congr (congrArg _ (List.map_congr_left fun i hi => ?_)) ?_
    · have hik : i ≠ k := fun h => q1 (h ▸ hi)
      unfold mX
      rw [ei i hik]
    · show [mX ca α1 σ k] = _
      unfold mX
      rw [ek]
  unfold iW
  rw [hm, ← hf, e0]
  rfl
theorem mi_nar : ∀ k, k < 53 → (2 ≤ mKd k ∧ mKd k ≤ 5) → ∀ q : Nat, narrow (tyX12 k) (.ref q) = .ref q ∧ fits (tyX12 k) (.ref q) = true := by
  intro k hk h q
  have : c_isR (tyX12 k) = true := (by decide +kernel : ∀ k, k < 53 → (2 ≤ mKd k ∧ mKd k ≤ 5) → c_isR (tyX12 k) = true) k hk h
  exact c_narR this (some q)
section MI
variable {p : Program} {l : Launch} {e : Env} {R : Room} {s : State} {m : MethodId} {args : Array Value} {below : List Frame} {meth : Method} {c : Code} {H : Heap} {locs : List Loc} {cells slots : Nat} {Q : State → Prop}
variable {cc : ByteArray} {nL pc : Nat} {ls : Array Slot} {rest : List Value} {D : va_G} {ca : Nat → ClassId} {α : Nat → Nat} {A : Nat → Prop} {σ : mS}
theorem mi_put {fs : List Value} (C : mC p s m args c cc nL D ca) (hP : va_at D mCl (α 0, Sum.inr (0, fs)) H) {k index : Nat} (hk : k < 53) (hk2 : 2 ≤ mKd k ∧ mKd k ≤ 5) (hi : mIx k = index) (hnm : meth.name = "<init>") {q : Nat} (hlen : k < fs.length) (hdg : decode cc pc = .ok (.putfield index, 3))
    (kk : ∀ (H1 : Heap) (locs1 : List Loc), va_at D mCl (α 0, Sum.inr (0, fs.set k (.ref q))) H1 → (∀ q, q ≠ α 0 → H1[q]? = H[q]?) → (∀ (B : Nat → Prop) (H0 : Heap), va_S B H0 H locs → B (α 0) → va_S B H0 H1 locs1) → W p l e R s m args below meth c H1 locs1 cells slots Q (F0 m (pc + 3) ls rest)) : W p l e R s m args below meth c H locs cells slots Q (F0 m pc ls (.ref q :: .ref (α 0) :: rest)) := by
  obtain ⟨hx, hb, hml, hown, hts, hK⟩ := C
  subst hi
  have hc : mCl[0]? = some (RX12, TX12, 53) := rfl
  have hap := va_apart (own := RX12) hts mw_in tyX12 tyX12_ok nmX12 hK hc
  obtain ⟨r, h1, cell, q1, q2, q3, q4⟩ := hP
  have hr : r = (RX12, TX12, 53) := Option.some.inj (h1.symm.trans hc)
  subst hr
  obtain ⟨hS, hfc, kC, hkC, hkind⟩ := hK.1 0 _ hc
  obtain ⟨cf, kf, fi, ff, hi, hsl⟩ := hS k hk
  have hlay := hts _ (mw_in _ (u_in_lay hk))
  have hst := (u_facts hfc hkC (u_lays hts mw_in hk) hi).1
  have hown1 : (TX12 k).1 = RX12 := mw_own k hk
  have hn : narrow (tyX12 k) (.ref q) = .ref q ∧ fits (tyX12 k) (.ref q) = true := mi_nar k hk hk2 q
  have fin : ∀ (H' : Heap), H'[α 0]? = some (cell.setSlot (D.2 0 k) (.ref q)) → (∀ q, q ≠ α 0 → H'[q]? = H[q]?) → va_at D mCl (α 0, Sum.inr (0, fs.set k (.ref q))) H' := fun H' e1 e3 => ⟨_, hc, t_OB.to (V := updV (vp_V fs) k (.ref q)) ⟨_, e1, q2, q3, t_set q4 hap hk _⟩ (fun j _ => vp_updV_set hlen _ j)⟩
  have hlk : (Cond.fieldLink RX12 (mIx k) (TX12 k).1 (TX12 k).2.1 (TX12 k).2.2.1).before args s = true := by
    rw [hown1]; exact hts _ (mw_lnk hk)
  by_cases hfin2 : (TX12 k).2.2.2 = true
  · unfold u_lay at hlay
    rw [if_pos hfin2] at hlay
    have hcf : m.cls = cf := by
      obtain ⟨_, _, c', _, _, _, -, -, hf', -, -, -, hown2, -⟩ := Cond.laysFinal_spec hlay
      have e1 : c' = cf := by have := hi.symm.trans hf'; simp at this; exact this.1.symm
      rw [hown1] at hown2
      rw [← e1]; exact Option.some.inj (hown.symm.trans hown2)
    have h6 := u_fits hfc hkC hkind (Or.inr hlay) hi (tyX12_ok k hk) hn.1 hn.2
    refine W.putFinK hx hb hown hlk hi hst hcf hnm (by rw [q2]; exact h6) q1 q3 (by rw [hsl]; exact k2_hasslot (q4 k hk)) rfl rfl hdg fun H' e1 e2 e3 => ?_
    rw [hsl] at e1 ⊢
    exact kk H' _ (fin H' e1 e3) e3 fun B H0 hS0 ha => hS0.put e2 e3 ha
  · have hnf : (TX12 k).2.2.2 = false := by simpa using hfin2
    unfold u_lay at hlay
    rw [if_neg hfin2] at hlay
    have h6 := u_store hfc hkC hkind hlay hi (tyX12_ok k hk) hn.1 hn.2
    refine W.putK hx hb (f := ff) ⟨hown, hlk, ⟨_, _, _, hi⟩, hst⟩ (by rw [q2]; exact h6) q1 q3 (by rw [hsl]; exact k2_hasslot (q4 k hk)) rfl rfl hdg fun H' e1 e2 e3 => ?_
    rw [hsl] at e1 ⊢
    exact kk H' _ (fin H' e1 e3) e3 fun B H0 hS0 ha => hS0.put e2 e3 ha
theorem mi_step (C : mC p s m args c cc nL D ca) {j k N index : Nat} {atype : ArrayType} {n : Int32} (hM : iM D ca α A s.heap σ j H locs) (hz : σ.2.2 = mZ.2.2) (hjk : j < 37 ∧ mAl[j]? = some k) (hk : (mTy ca)[mKd k - 2]? = some (ca (mKd k), newarray.typeOf atype) ∧ defaultValue (newarray.typeOf atype) = (if mKd k = 5 then .long 0 else .int 0)) (harr : Cond.arrayClass (newarray.typeOf atype) ∈ wl) (hn : ¬ n < 0 ∧ n.toNatClampNeg = N) (hN : mLn k = N ∧ N ≤ 5000) (hi : mIx k = index) (hcs : cells + 1 ≤ R.cells) (hss : slots + N ≤ R.slots) (hnm : meth.name = "<init>") (hdg : decode cc pc = .ok (.newarray atype, 2)) (hd2 : decode cc (pc + 2) = .ok (.putfield index, 3))
    (kk : ∀ (H1 : Heap) (locs1 : List Loc) (α1 : Nat → Nat), α1 0 = α 0 → iM D ca α1 A s.heap σ (j + 1) H1 locs1 → W p l e R s m args below meth c H1 locs1 (cells + 1) (slots + N) Q (F0 m (pc + 2 + 3) ls rest)) : W p l e R s m args below meth c H locs cells slots Q (F0 m pc ls (.int n :: .ref (α 0) :: rest)) := by
  obtain ⟨hx, hb, hml, hown, hts, hK⟩ := id C
  obtain ⟨hP, hD, hS, hA⟩ := hM
  obtain ⟨hN1, hN2⟩ := hN
  obtain ⟨w1, w2, w3, w4, w5⟩ := mAl_ix j hjk.1 k hjk.2
  have hby : N * componentBytes (newarray.typeOf atype) ≤ 536870912 := by
    have h8 : componentBytes (newarray.typeOf atype) ≤ 8 := by cases atype <;> decide
    exact Nat.le_trans (Nat.mul_le_mul hN2 h8) (by decide)
  refine va_newaK hx hb (hts _ harr) rfl hdg rfl hn.1 hn.2 hby hcs hss rfl fun H1 cA e1 z1 o1 hAr hNm => ?_
  have hra := (hK.2 (mKd k - 2) _ hk.1).2
  have hca : cA = ca (mKd k) := by cases atype <;> exact Option.some.inj (hNm.symm.trans hra)
  have hat : va_at D mCl (H.size, Sum.inl (ca (mKd k), mLn k, mCo σ k)) H1 := by
    show H1[H.size]? = some (vp_cell _ (mLn k, mCo σ k))
    by_cases h15 : mKd k = 5
    · rw [show mCo σ k = .inr (.inl fun _ => 0) from (if_pos h15).trans (by rw [hz]; rfl), vp_cell_l, e1, hca, hk.2, if_pos h15, hN1]
    · rw [show mCo σ k = .inl fun _ => 0 from (if_neg h15).trans (by rw [hz]; rfl), vp_cell_i, e1, hca, hk.2, if_neg h15, hN1]
  have hke : ∀ (i : Nat) (x : Nat × va_E), (iW σ ca j α)[i]? = some x → H1[x.1]? = H[x.1]? := fun i x hx => o1 x.1 ((hP i x hx).lt)
  have hP1 : va_P D mCl (iW σ ca j α ++ [(H.size, Sum.inl (ca (mKd k), mLn k, mCo σ k))]) H1 := (hP.kept hke).app (fun i x hx => by
    have hz : i < 1 := (List.getElem?_eq_some_iff.mp hx).1
    rw [show i = 0 by omega] at hx
    cases hx
    exact hat)
  have hD1 : va_D A (iW σ ca j α ++ [(H.size, Sum.inl (ca (mKd k), mLn k, mCo σ k))]) := hD.push hP rfl (hA _ hS.1)
  have hS1 : va_S A s.heap H1 locs := ⟨Nat.le_trans hS.1 (by omega), fun x h1 h2 => (o1 x (Nat.lt_of_lt_of_le h1 hS.1)).trans (hS.2.1 x h1 h2), hS.2.2⟩
  have h0 : (iW σ ca j α ++ [(H.size, Sum.inl (ca (mKd k), mLn k, mCo σ k))])[0]? = some (α 0, Sum.inr (0, (List.range 53).map (iF σ j α))) := rfl
  refine mi_put C (hP1 0 _ h0) w2 ⟨w4, w5⟩ hi hnm (by simpa using w2) hd2 fun H2 locs2 g1 g2 g3 => ?_
  have hP2 := hP1.set hD1 h0 g1 g2
  have hD2 := hD1.set (e := Sum.inr (0, ((List.range 53).map (iF σ j α)).set k (.ref H.size))) h0
  rw [iW_next hjk.1 hjk.2 rfl] at hP2 hD2
  exact kk H2 locs2 (fun i => if i = k + 1 then H.size else α i) (if_neg (by omega)) ⟨hP2, hD2, g3 _ _ hS1 (hD1.2 0 _ h0), hA⟩
theorem mi_puti (C : mC p s m args c cc nL D ca) {j k index : Nat} {v : Int32} (hM : iM D ca α A s.heap σ j H locs) (hk : mKd k = 0) (hi : mIx k = index) (hd : decode cc pc = .ok (.putfield index, 3))
    (kk : ∀ (H1 : Heap) (locs1 : List Loc), iM D ca α A s.heap (mI σ k v) j H1 locs1 → W p l e R s m args below meth c H1 locs1 cells slots Q (F0 m (pc + 3) ls rest)) : W p l e R s m args below meth c H locs cells slots Q (F0 m pc ls (.int v :: .ref (α 0) :: rest)) := by
  obtain ⟨hx, hb, hml, hown, hts, hK⟩ := C
  obtain ⟨hP, hD, hS, hA⟩ := hM
  subst hi
  have hl : k < 53 := mKd_lt (by omega)
  have e : ((List.range 53).map (iF σ j α)).set k (.int v) = (List.range 53).map (iF (mI σ k v) j α) := xx_map_set fun i hi => by
    by_cases hik : i = k
    · subst hik
      simp [iF, hk, mI, upd]
    · simp [iF, hik, mI, upd]
  have ew : (iW σ ca j α).set 0 (α 0, Sum.inr (0, ((List.range 53).map (iF σ j α)).set k (.int v))) = iW (mI σ k v) ca j α := by
    rw [e]; rfl
  refine va_put (D := D) (ci := 0) (C := RX12) (T := TX12) (N := 53) (ty := .int) (v := .int v) hx hb hts mw_in tyX12 tyX12_ok nmX12 hown hK hP hD hS 0 rfl rfl k hl (hts _ (mw_lnk hl)) (fun x h => by rw [← h]; rw [show (TX12 k).1 = RX12 from mw_own k hl]) (mw_nf k hl (by omega)) (mw_tyi k hl hk) rfl rfl (by simpa using hl) hd (fun H1 locs1 h1 h2 h3 => ?_)
  rw [ew] at h1 h2
  exact kk H1 locs1 ⟨h1, h2, h3, hA⟩
end MI
abbrev rmX12_init : Room := { frames := 1, cells := 37, slots := 7576, locals := 20 }
def iPre (D : va_G) (ca : Nat → ClassId) (α : Nat → Nat) (A : Nat → Prop) (U : State) : Prop := va_P D mCl (iW mZ ca 0 α) U.heap ∧ va_K D mCl (mTy ca) U ∧ va_D A (iW mZ ca 0 α) ∧ (∀ q, U.heap.size ≤ q → A q)
def iQ (D : va_G) (ca : Nat → ClassId) (α : Nat → Nat) (A : Nat → Prop) : Array Value → State → Outcome → State → Prop := fun _ st oc t => (∃ α1 : Nat → Nat, α1 0 = α 0 ∧ oc = .returned none ∧ mB D ca α1 A (mI mZ 46 100) t) ∧ va_F A st t
theorem cm_init (l : Launch) (D : va_G) (ca : Nat → ClassId) (α : Nat → Nat) (A : Nat → Prop) : Met l yX12_init (mWs yX12_init cX12_init 1 (none : Option FieldType)) rmX12_init (va_Pc [.ref (α 0)] (iPre D ca α A)) (iQ D ca α A) 37 7576 A := by
  refine Met.ofW (cc := cX12_init) (maxL := 1) (ret := (none : Option FieldType)) (by decide) rfl ?_
  intro p e s m args below meth c s₁ B hml hv
  obtain ⟨rfl, hP, hK, hD0, hA⟩ := hv
  have C : mC p s m _ c cX12_init 1 D ca := ⟨B.exec, B.bytes, hml, findClass_of_methodNamed B.named, fun w hw => atoms_spec (ws := mWs yX12_init cX12_init 1 (none : Option FieldType)) B.pre w (List.mem_cons_of_mem _ hw), hK⟩
  have hM : iM D ca α A s.heap mZ 0 s.heap [] := ⟨hP, hD0, va_S.rf, hA⟩
  have hr := B.returns
  have hlk := B.notSynchronized
  have hnm : meth.name = "<init>" := (name_of_methodNamed B.named B.method).1
  have hx := C.1
  have hb := C.2.1
  have hl := lv_entry ([.ref (α 0)]) (n := 1) (Nat.le_of_ble_eq_true rfl)
  rw [lg_entry_eq]
  generalize (lg_sl ([.ref (α 0)]) ++ List.replicate (1 - (lg_sl ([.ref (α 0)])).length) Slot.unset).toArray = ls at hl ⊢
  have hl : lv_has ls 1 [(0, .ref (α 0))] := hl
  refine lv_aload_n hx hb dX12_init_0 rfl (lv_at hl 0 rfl) ?_
  refine W.objInit hx hb C.2.2.2.1 (C.2.2.2.2.1 _ (wl_in (i := 1845) (by decide +kernel))) (C.2.2.2.2.1 _ c_obj1) (C.2.2.2.2.1 _ c_obj2) rfl (hl.1.trans hml.symm) rfl dX12_init_1 (Nat.le_of_ble_eq_true rfl) (Nat.le_of_ble_eq_true rfl) ?_
  refine lv_aload_n hx hb dX12_init_4 rfl (lv_at hl 0 rfl) ?_
  refine lv_bipush (v := (30 : Int32)) hx hb dX12_init_5 (by decide) ?_
  refine mi_step (k := 1) (N := 30) C hM rfl (by decide) ⟨rfl, rfl⟩ (wl_in (i := 73) (by decide +kernel)) (by decide) (by decide) rfl (Nat.le_of_ble_eq_true rfl) (Nat.le_of_ble_eq_true rfl) hnm dX12_init_7 dX12_init_9 (fun H1 locs1 α1 e1 hM => ?_)
  have e0 : α1 0 = α 0 := e1
  refine lv_aload_n hx hb dX12_init_12 rfl (lv_at hl 0 rfl) (W_st (st' := [.ref (α1 0)]) (by rw [e0]) ?_)
  refine lv_sipush (v := (320 : Int32)) hx hb dX12_init_13 (by decide) ?_
  refine mi_step (k := 3) (N := 320) C hM rfl (by decide) ⟨rfl, rfl⟩ (wl_in (i := 73) (by decide +kernel)) (by decide) (by decide) rfl (Nat.le_of_ble_eq_true rfl) (Nat.le_of_ble_eq_true rfl) hnm dX12_init_16 dX12_init_18 (fun H1 locs1 α2 e1 hM => ?_)
  have e0 : α2 0 = α 0 := e1.trans e0
  refine lv_aload_n hx hb dX12_init_21 rfl (lv_at hl 0 rfl) (W_st (st' := [.ref (α2 0)]) (by rw [e0]) ?_)
  refine lv_bipush (v := (12 : Int32)) hx hb dX12_init_22 (by decide) ?_
  refine mi_step (k := 5) (N := 12) C hM rfl (by decide) ⟨rfl, rfl⟩ (wl_in (i := 166) (by decide +kernel)) (by decide) (by decide) rfl (Nat.le_of_ble_eq_true rfl) (Nat.le_of_ble_eq_true rfl) hnm dX12_init_24 dX12_init_26 (fun H1 locs1 α3 e1 hM => ?_)
  have e0 : α3 0 = α 0 := e1.trans e0
  refine lv_aload_n hx hb dX12_init_29 rfl (lv_at hl 0 rfl) (W_st (st' := [.ref (α3 0)]) (by rw [e0]) ?_)
  refine lv_bipush (v := (12 : Int32)) hx hb dX12_init_30 (by decide) ?_
  refine mi_step (k := 6) (N := 12) C hM rfl (by decide) ⟨rfl, rfl⟩ (wl_in (i := 165) (by decide +kernel)) (by decide) (by decide) rfl (Nat.le_of_ble_eq_true rfl) (Nat.le_of_ble_eq_true rfl) hnm dX12_init_32 dX12_init_34 (fun H1 locs1 α4 e1 hM => ?_)
  have e0 : α4 0 = α 0 := e1.trans e0
  refine lv_aload_n hx hb dX12_init_37 rfl (lv_at hl 0 rfl) (W_st (st' := [.ref (α4 0)]) (by rw [e0]) ?_)
  refine lv_bipush (v := (72 : Int32)) hx hb dX12_init_38 (by decide) ?_
  refine mi_step (k := 7) (N := 72) C hM rfl (by decide) ⟨rfl, rfl⟩ (wl_in (i := 73) (by decide +kernel)) (by decide) (by decide) rfl (Nat.le_of_ble_eq_true rfl) (Nat.le_of_ble_eq_true rfl) hnm dX12_init_40 dX12_init_42 (fun H1 locs1 α5 e1 hM => ?_)
  have e0 : α5 0 = α 0 := e1.trans e0
  refine lv_aload_n hx hb dX12_init_45 rfl (lv_at hl 0 rfl) (W_st (st' := [.ref (α5 0)]) (by rw [e0]) ?_)
  refine lv_bipush (v := (72 : Int32)) hx hb dX12_init_46 (by decide) ?_
  refine mi_step (k := 8) (N := 72) C hM rfl (by decide) ⟨rfl, rfl⟩ (wl_in (i := 73) (by decide +kernel)) (by decide) (by decide) rfl (Nat.le_of_ble_eq_true rfl) (Nat.le_of_ble_eq_true rfl) hnm dX12_init_48 dX12_init_50 (fun H1 locs1 α6 e1 hM => ?_)
  have e0 : α6 0 = α 0 := e1.trans e0
  refine lv_aload_n hx hb dX12_init_53 rfl (lv_at hl 0 rfl) (W_st (st' := [.ref (α6 0)]) (by rw [e0]) ?_)
  refine lv_bipush (v := (12 : Int32)) hx hb dX12_init_54 (by decide) ?_
  refine mi_step (k := 10) (N := 12) C hM rfl (by decide) ⟨rfl, rfl⟩ (wl_in (i := 73) (by decide +kernel)) (by decide) (by decide) rfl (Nat.le_of_ble_eq_true rfl) (Nat.le_of_ble_eq_true rfl) hnm dX12_init_56 dX12_init_58 (fun H1 locs1 α7 e1 hM => ?_)
  have e0 : α7 0 = α 0 := e1.trans e0
  refine lv_aload_n hx hb dX12_init_61 rfl (lv_at hl 0 rfl) (W_st (st' := [.ref (α7 0)]) (by rw [e0]) ?_)
  refine lv_bipush (v := (12 : Int32)) hx hb dX12_init_62 (by decide) ?_
  refine mi_step (k := 11) (N := 12) C hM rfl (by decide) ⟨rfl, rfl⟩ (wl_in (i := 73) (by decide +kernel)) (by decide) (by decide) rfl (Nat.le_of_ble_eq_true rfl) (Nat.le_of_ble_eq_true rfl) hnm dX12_init_64 dX12_init_66 (fun H1 locs1 α8 e1 hM => ?_)
  have e0 : α8 0 = α 0 := e1.trans e0
  refine lv_aload_n hx hb dX12_init_69 rfl (lv_at hl 0 rfl) (W_st (st' := [.ref (α8 0)]) (by rw [e0]) ?_)
  refine lv_bipush (v := (12 : Int32)) hx hb dX12_init_70 (by decide) ?_
  refine mi_step (k := 12) (N := 12) C hM rfl (by decide) ⟨rfl, rfl⟩ (wl_in (i := 73) (by decide +kernel)) (by decide) (by decide) rfl (Nat.le_of_ble_eq_true rfl) (Nat.le_of_ble_eq_true rfl) hnm dX12_init_72 dX12_init_74 (fun H1 locs1 α9 e1 hM => ?_)
  have e0 : α9 0 = α 0 := e1.trans e0
  refine lv_aload_n hx hb dX12_init_77 rfl (lv_at hl 0 rfl) (W_st (st' := [.ref (α9 0)]) (by rw [e0]) ?_)
  refine lv_bipush (v := (12 : Int32)) hx hb dX12_init_78 (by decide) ?_
  refine mi_step (k := 13) (N := 12) C hM rfl (by decide) ⟨rfl, rfl⟩ (wl_in (i := 72) (by decide +kernel)) (by decide) (by decide) rfl (Nat.le_of_ble_eq_true rfl) (Nat.le_of_ble_eq_true rfl) hnm dX12_init_80 dX12_init_82 (fun H1 locs1 α10 e1 hM => ?_)
  have e0 : α10 0 = α 0 := e1.trans e0
  refine lv_aload_n hx hb dX12_init_85 rfl (lv_at hl 0 rfl) (W_st (st' := [.ref (α10 0)]) (by rw [e0]) ?_)
  refine lv_bipush (v := (12 : Int32)) hx hb dX12_init_86 (by decide) ?_
  refine mi_step (k := 14) (N := 12) C hM rfl (by decide) ⟨rfl, rfl⟩ (wl_in (i := 73) (by decide +kernel)) (by decide) (by decide) rfl (Nat.le_of_ble_eq_true rfl) (Nat.le_of_ble_eq_true rfl) hnm dX12_init_88 dX12_init_90 (fun H1 locs1 α11 e1 hM => ?_)
  have e0 : α11 0 = α 0 := e1.trans e0
  refine lv_aload_n hx hb dX12_init_93 rfl (lv_at hl 0 rfl) (W_st (st' := [.ref (α11 0)]) (by rw [e0]) ?_)
  refine lv_bipush (v := (12 : Int32)) hx hb dX12_init_94 (by decide) ?_
  refine mi_step (k := 15) (N := 12) C hM rfl (by decide) ⟨rfl, rfl⟩ (wl_in (i := 165) (by decide +kernel)) (by decide) (by decide) rfl (Nat.le_of_ble_eq_true rfl) (Nat.le_of_ble_eq_true rfl) hnm dX12_init_96 dX12_init_98 (fun H1 locs1 α12 e1 hM => ?_)
  have e0 : α12 0 = α 0 := e1.trans e0
  refine lv_aload_n hx hb dX12_init_101 rfl (lv_at hl 0 rfl) (W_st (st' := [.ref (α12 0)]) (by rw [e0]) ?_)
  refine lv_bipush (v := (6 : Int32)) hx hb dX12_init_102 (by decide) ?_
  refine mi_step (k := 17) (N := 6) C hM rfl (by decide) ⟨rfl, rfl⟩ (wl_in (i := 73) (by decide +kernel)) (by decide) (by decide) rfl (Nat.le_of_ble_eq_true rfl) (Nat.le_of_ble_eq_true rfl) hnm dX12_init_104 dX12_init_106 (fun H1 locs1 α13 e1 hM => ?_)
  have e0 : α13 0 = α 0 := e1.trans e0
  refine lv_aload_n hx hb dX12_init_109 rfl (lv_at hl 0 rfl) (W_st (st' := [.ref (α13 0)]) (by rw [e0]) ?_)
  refine lv_bipush (v := (6 : Int32)) hx hb dX12_init_110 (by decide) ?_
  refine mi_step (k := 18) (N := 6) C hM rfl (by decide) ⟨rfl, rfl⟩ (wl_in (i := 73) (by decide +kernel)) (by decide) (by decide) rfl (Nat.le_of_ble_eq_true rfl) (Nat.le_of_ble_eq_true rfl) hnm dX12_init_112 dX12_init_114 (fun H1 locs1 α14 e1 hM => ?_)
  have e0 : α14 0 = α 0 := e1.trans e0
  refine lv_aload_n hx hb dX12_init_117 rfl (lv_at hl 0 rfl) (W_st (st' := [.ref (α14 0)]) (by rw [e0]) ?_)
  refine lv_bipush (v := (80 : Int32)) hx hb dX12_init_118 (by decide) ?_
  refine mi_step (k := 21) (N := 80) C hM rfl (by decide) ⟨rfl, rfl⟩ (wl_in (i := 73) (by decide +kernel)) (by decide) (by decide) rfl (Nat.le_of_ble_eq_true rfl) (Nat.le_of_ble_eq_true rfl) hnm dX12_init_120 dX12_init_122 (fun H1 locs1 α15 e1 hM => ?_)
  have e0 : α15 0 = α 0 := e1.trans e0
  refine lv_aload_n hx hb dX12_init_125 rfl (lv_at hl 0 rfl) (W_st (st' := [.ref (α15 0)]) (by rw [e0]) ?_)
  refine lv_sipush (v := (960 : Int32)) hx hb dX12_init_126 (by decide) ?_
  refine mi_step (k := 22) (N := 960) C hM rfl (by decide) ⟨rfl, rfl⟩ (wl_in (i := 73) (by decide +kernel)) (by decide) (by decide) rfl (Nat.le_of_ble_eq_true rfl) (Nat.le_of_ble_eq_true rfl) hnm dX12_init_129 dX12_init_131 (fun H1 locs1 α16 e1 hM => ?_)
  have e0 : α16 0 = α 0 := e1.trans e0
  refine lv_aload_n hx hb dX12_init_134 rfl (lv_at hl 0 rfl) (W_st (st' := [.ref (α16 0)]) (by rw [e0]) ?_)
  refine lv_sipush (v := (960 : Int32)) hx hb dX12_init_135 (by decide) ?_
  refine mi_step (k := 23) (N := 960) C hM rfl (by decide) ⟨rfl, rfl⟩ (wl_in (i := 166) (by decide +kernel)) (by decide) (by decide) rfl (Nat.le_of_ble_eq_true rfl) (Nat.le_of_ble_eq_true rfl) hnm dX12_init_138 dX12_init_140 (fun H1 locs1 α17 e1 hM => ?_)
  have e0 : α17 0 = α 0 := e1.trans e0
  refine lv_aload_n hx hb dX12_init_143 rfl (lv_at hl 0 rfl) (W_st (st' := [.ref (α17 0)]) (by rw [e0]) ?_)
  refine lv_sipush (v := (960 : Int32)) hx hb dX12_init_144 (by decide) ?_
  refine mi_step (k := 24) (N := 960) C hM rfl (by decide) ⟨rfl, rfl⟩ (wl_in (i := 73) (by decide +kernel)) (by decide) (by decide) rfl (Nat.le_of_ble_eq_true rfl) (Nat.le_of_ble_eq_true rfl) hnm dX12_init_147 dX12_init_149 (fun H1 locs1 α18 e1 hM => ?_)
  have e0 : α18 0 = α 0 := e1.trans e0
  refine lv_aload_n hx hb dX12_init_152 rfl (lv_at hl 0 rfl) (W_st (st' := [.ref (α18 0)]) (by rw [e0]) ?_)
  refine lv_bipush (v := (80 : Int32)) hx hb dX12_init_153 (by decide) ?_
  refine mi_step (k := 25) (N := 80) C hM rfl (by decide) ⟨rfl, rfl⟩ (wl_in (i := 73) (by decide +kernel)) (by decide) (by decide) rfl (Nat.le_of_ble_eq_true rfl) (Nat.le_of_ble_eq_true rfl) hnm dX12_init_155 dX12_init_157 (fun H1 locs1 α19 e1 hM => ?_)
  have e0 : α19 0 = α 0 := e1.trans e0
  refine lv_aload_n hx hb dX12_init_160 rfl (lv_at hl 0 rfl) (W_st (st' := [.ref (α19 0)]) (by rw [e0]) ?_)
  refine lv_sipush (v := (2400 : Int32)) hx hb dX12_init_161 (by decide) ?_
  refine mi_step (k := 26) (N := 2400) C hM rfl (by decide) ⟨rfl, rfl⟩ (wl_in (i := 73) (by decide +kernel)) (by decide) (by decide) rfl (Nat.le_of_ble_eq_true rfl) (Nat.le_of_ble_eq_true rfl) hnm dX12_init_164 dX12_init_166 (fun H1 locs1 α20 e1 hM => ?_)
  have e0 : α20 0 = α 0 := e1.trans e0
  refine lv_aload_n hx hb dX12_init_169 rfl (lv_at hl 0 rfl) (W_st (st' := [.ref (α20 0)]) (by rw [e0]) ?_)
  refine lv_bipush (v := (80 : Int32)) hx hb dX12_init_170 (by decide) ?_
  refine mi_step (k := 27) (N := 80) C hM rfl (by decide) ⟨rfl, rfl⟩ (wl_in (i := 73) (by decide +kernel)) (by decide) (by decide) rfl (Nat.le_of_ble_eq_true rfl) (Nat.le_of_ble_eq_true rfl) hnm dX12_init_172 dX12_init_174 (fun H1 locs1 α21 e1 hM => ?_)
  have e0 : α21 0 = α 0 := e1.trans e0
  refine lv_aload_n hx hb dX12_init_177 rfl (lv_at hl 0 rfl) (W_st (st' := [.ref (α21 0)]) (by rw [e0]) ?_)
  refine lv_bipush (v := (80 : Int32)) hx hb dX12_init_178 (by decide) ?_
  refine mi_step (k := 28) (N := 80) C hM rfl (by decide) ⟨rfl, rfl⟩ (wl_in (i := 73) (by decide +kernel)) (by decide) (by decide) rfl (Nat.le_of_ble_eq_true rfl) (Nat.le_of_ble_eq_true rfl) hnm dX12_init_180 dX12_init_182 (fun H1 locs1 α22 e1 hM => ?_)
  have e0 : α22 0 = α 0 := e1.trans e0
  refine lv_aload_n hx hb dX12_init_185 rfl (lv_at hl 0 rfl) (W_st (st' := [.ref (α22 0)]) (by rw [e0]) ?_)
  refine lv_bipush (v := (80 : Int32)) hx hb dX12_init_186 (by decide) ?_
  refine mi_step (k := 29) (N := 80) C hM rfl (by decide) ⟨rfl, rfl⟩ (wl_in (i := 73) (by decide +kernel)) (by decide) (by decide) rfl (Nat.le_of_ble_eq_true rfl) (Nat.le_of_ble_eq_true rfl) hnm dX12_init_188 dX12_init_190 (fun H1 locs1 α23 e1 hM => ?_)
  have e0 : α23 0 = α 0 := e1.trans e0
  refine lv_aload_n hx hb dX12_init_193 rfl (lv_at hl 0 rfl) (W_st (st' := [.ref (α23 0)]) (by rw [e0]) ?_)
  refine lv_bipush (v := (80 : Int32)) hx hb dX12_init_194 (by decide) ?_
  refine mi_step (k := 30) (N := 80) C hM rfl (by decide) ⟨rfl, rfl⟩ (wl_in (i := 165) (by decide +kernel)) (by decide) (by decide) rfl (Nat.le_of_ble_eq_true rfl) (Nat.le_of_ble_eq_true rfl) hnm dX12_init_196 dX12_init_198 (fun H1 locs1 α24 e1 hM => ?_)
  have e0 : α24 0 = α 0 := e1.trans e0
  refine lv_aload_n hx hb dX12_init_201 rfl (lv_at hl 0 rfl) (W_st (st' := [.ref (α24 0)]) (by rw [e0]) ?_)
  refine lv_sipush (v := (640 : Int32)) hx hb dX12_init_202 (by decide) ?_
  refine mi_step (k := 31) (N := 640) C hM rfl (by decide) ⟨rfl, rfl⟩ (wl_in (i := 73) (by decide +kernel)) (by decide) (by decide) rfl (Nat.le_of_ble_eq_true rfl) (Nat.le_of_ble_eq_true rfl) hnm dX12_init_205 dX12_init_207 (fun H1 locs1 α25 e1 hM => ?_)
  have e0 : α25 0 = α 0 := e1.trans e0
  refine lv_aload_n hx hb dX12_init_210 rfl (lv_at hl 0 rfl) (W_st (st' := [.ref (α25 0)]) (by rw [e0]) ?_)
  refine lv_bipush (v := (80 : Int32)) hx hb dX12_init_211 (by decide) ?_
  refine mi_step (k := 32) (N := 80) C hM rfl (by decide) ⟨rfl, rfl⟩ (wl_in (i := 73) (by decide +kernel)) (by decide) (by decide) rfl (Nat.le_of_ble_eq_true rfl) (Nat.le_of_ble_eq_true rfl) hnm dX12_init_213 dX12_init_215 (fun H1 locs1 α26 e1 hM => ?_)
  have e0 : α26 0 = α 0 := e1.trans e0
  refine lv_aload_n hx hb dX12_init_218 rfl (lv_at hl 0 rfl) (W_st (st' := [.ref (α26 0)]) (by rw [e0]) ?_)
  refine lv_bipush (v := (12 : Int32)) hx hb dX12_init_219 (by decide) ?_
  refine mi_step (k := 36) (N := 12) C hM rfl (by decide) ⟨rfl, rfl⟩ (wl_in (i := 73) (by decide +kernel)) (by decide) (by decide) rfl (Nat.le_of_ble_eq_true rfl) (Nat.le_of_ble_eq_true rfl) hnm dX12_init_221 dX12_init_223 (fun H1 locs1 α27 e1 hM => ?_)
  have e0 : α27 0 = α 0 := e1.trans e0
  refine lv_aload_n hx hb dX12_init_226 rfl (lv_at hl 0 rfl) (W_st (st' := [.ref (α27 0)]) (by rw [e0]) ?_)
  refine lv_bipush (v := (12 : Int32)) hx hb dX12_init_227 (by decide) ?_
  refine mi_step (k := 37) (N := 12) C hM rfl (by decide) ⟨rfl, rfl⟩ (wl_in (i := 166) (by decide +kernel)) (by decide) (by decide) rfl (Nat.le_of_ble_eq_true rfl) (Nat.le_of_ble_eq_true rfl) hnm dX12_init_229 dX12_init_231 (fun H1 locs1 α28 e1 hM => ?_)
  have e0 : α28 0 = α 0 := e1.trans e0
  refine lv_aload_n hx hb dX12_init_234 rfl (lv_at hl 0 rfl) (W_st (st' := [.ref (α28 0)]) (by rw [e0]) ?_)
  refine lv_bipush (v := (12 : Int32)) hx hb dX12_init_235 (by decide) ?_
  refine mi_step (k := 38) (N := 12) C hM rfl (by decide) ⟨rfl, rfl⟩ (wl_in (i := 73) (by decide +kernel)) (by decide) (by decide) rfl (Nat.le_of_ble_eq_true rfl) (Nat.le_of_ble_eq_true rfl) hnm dX12_init_237 dX12_init_239 (fun H1 locs1 α29 e1 hM => ?_)
  have e0 : α29 0 = α 0 := e1.trans e0
  refine lv_aload_n hx hb dX12_init_242 rfl (lv_at hl 0 rfl) (W_st (st' := [.ref (α29 0)]) (by rw [e0]) ?_)
  refine lv_bipush (v := (31 : Int32)) hx hb dX12_init_243 (by decide) ?_
  refine mi_step (k := 40) (N := 31) C hM rfl (by decide) ⟨rfl, rfl⟩ (wl_in (i := 73) (by decide +kernel)) (by decide) (by decide) rfl (Nat.le_of_ble_eq_true rfl) (Nat.le_of_ble_eq_true rfl) hnm dX12_init_245 dX12_init_247 (fun H1 locs1 α30 e1 hM => ?_)
  have e0 : α30 0 = α 0 := e1.trans e0
  refine lv_aload_n hx hb dX12_init_250 rfl (lv_at hl 0 rfl) (W_st (st' := [.ref (α30 0)]) (by rw [e0]) ?_)
  refine lv_bipush (v := (31 : Int32)) hx hb dX12_init_251 (by decide) ?_
  refine mi_step (k := 41) (N := 31) C hM rfl (by decide) ⟨rfl, rfl⟩ (wl_in (i := 73) (by decide +kernel)) (by decide) (by decide) rfl (Nat.le_of_ble_eq_true rfl) (Nat.le_of_ble_eq_true rfl) hnm dX12_init_253 dX12_init_255 (fun H1 locs1 α31 e1 hM => ?_)
  have e0 : α31 0 = α 0 := e1.trans e0
  refine lv_aload_n hx hb dX12_init_258 rfl (lv_at hl 0 rfl) (W_st (st' := [.ref (α31 0)]) (by rw [e0]) ?_)
  refine lv_bipush (v := (12 : Int32)) hx hb dX12_init_259 (by decide) ?_
  refine mi_step (k := 43) (N := 12) C hM rfl (by decide) ⟨rfl, rfl⟩ (wl_in (i := 73) (by decide +kernel)) (by decide) (by decide) rfl (Nat.le_of_ble_eq_true rfl) (Nat.le_of_ble_eq_true rfl) hnm dX12_init_261 dX12_init_263 (fun H1 locs1 α32 e1 hM => ?_)
  have e0 : α32 0 = α 0 := e1.trans e0
  refine lv_aload_n hx hb dX12_init_266 rfl (lv_at hl 0 rfl) (W_st (st' := [.ref (α32 0)]) (by rw [e0]) ?_)
  refine lv_bipush (v := (12 : Int32)) hx hb dX12_init_267 (by decide) ?_
  refine mi_step (k := 44) (N := 12) C hM rfl (by decide) ⟨rfl, rfl⟩ (wl_in (i := 165) (by decide +kernel)) (by decide) (by decide) rfl (Nat.le_of_ble_eq_true rfl) (Nat.le_of_ble_eq_true rfl) hnm dX12_init_269 dX12_init_271 (fun H1 locs1 α33 e1 hM => ?_)
  have e0 : α33 0 = α 0 := e1.trans e0
  refine lv_aload_n hx hb dX12_init_274 rfl (lv_at hl 0 rfl) (W_st (st' := [.ref (α33 0)]) (by rw [e0]) ?_)
  refine lv_bipush (v := (100 : Int32)) hx hb dX12_init_275 (by decide) ?_
  refine mi_puti (k := 46) C hM rfl rfl dX12_init_277 (fun H1 locs1 hM => ?_)
  refine lv_aload_n hx hb dX12_init_280 rfl (lv_at hl 0 rfl) (W_st (st' := [.ref (α33 0)]) (by rw [e0]) ?_)
  refine lv_bipush (v := (80 : Int32)) hx hb dX12_init_281 (by decide) ?_
  refine mi_step (k := 47) (N := 80) C hM rfl (by decide) ⟨rfl, rfl⟩ (wl_in (i := 73) (by decide +kernel)) (by decide) (by decide) rfl (Nat.le_of_ble_eq_true rfl) (Nat.le_of_ble_eq_true rfl) hnm dX12_init_283 dX12_init_285 (fun H1 locs1 α34 e1 hM => ?_)
  have e0 : α34 0 = α 0 := e1.trans e0
  refine lv_aload_n hx hb dX12_init_288 rfl (lv_at hl 0 rfl) (W_st (st' := [.ref (α34 0)]) (by rw [e0]) ?_)
  refine lv_bipush (v := (80 : Int32)) hx hb dX12_init_289 (by decide) ?_
  refine mi_step (k := 48) (N := 80) C hM rfl (by decide) ⟨rfl, rfl⟩ (wl_in (i := 73) (by decide +kernel)) (by decide) (by decide) rfl (Nat.le_of_ble_eq_true rfl) (Nat.le_of_ble_eq_true rfl) hnm dX12_init_291 dX12_init_293 (fun H1 locs1 α35 e1 hM => ?_)
  have e0 : α35 0 = α 0 := e1.trans e0
  refine lv_aload_n hx hb dX12_init_296 rfl (lv_at hl 0 rfl) (W_st (st' := [.ref (α35 0)]) (by rw [e0]) ?_)
  refine lv_bipush (v := (12 : Int32)) hx hb dX12_init_297 (by decide) ?_
  refine mi_step (k := 50) (N := 12) C hM rfl (by decide) ⟨rfl, rfl⟩ (wl_in (i := 73) (by decide +kernel)) (by decide) (by decide) rfl (Nat.le_of_ble_eq_true rfl) (Nat.le_of_ble_eq_true rfl) hnm dX12_init_299 dX12_init_301 (fun H1 locs1 α36 e1 hM => ?_)
  have e0 : α36 0 = α 0 := e1.trans e0
  refine lv_aload_n hx hb dX12_init_304 rfl (lv_at hl 0 rfl) (W_st (st' := [.ref (α36 0)]) (by rw [e0]) ?_)
  refine lv_sipush (v := (200 : Int32)) hx hb dX12_init_305 (by decide) ?_
  refine mi_step (k := 51) (N := 200) C hM rfl (by decide) ⟨rfl, rfl⟩ (wl_in (i := 73) (by decide +kernel)) (by decide) (by decide) rfl (Nat.le_of_ble_eq_true rfl) (Nat.le_of_ble_eq_true rfl) hnm dX12_init_308 dX12_init_310 (fun H1 locs1 α37 e1 hM => ?_)
  have e0 : α37 0 = α 0 := e1.trans e0
  obtain ⟨hP, hD1, hS1, -⟩ := hM
  rw [iW_full] at hP hD1
  have hM : mM D ca α37 A s.heap (mI mZ 46 100) _ _ := ⟨hP, hD1, hS1⟩
  exact W.vret hx hb hr (fun t ht hW => ⟨⟨α37, e0, rfl, m_end C hM ht hW⟩, hM.2.2.F ht⟩) hM.2.2.2.2 dX12_init_313 hlk
