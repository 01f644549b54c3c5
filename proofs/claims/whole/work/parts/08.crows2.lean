section CR2
variable {p : Program} {l : Launch} {e : Env} {R : Room} {s : State} {m : MethodId} {args : Array Value} {below : List Frame} {meth : Method} {c : Code} {H : Heap} {locs : List Loc} {cells slots : Nat} {Q : State → Prop}
variable {cc : ByteArray} {nL pc : Nat} {own : String} {ls : Array Slot} {rest : List Value} {D : va_G} {ca : Nat → ClassId} {b : Bool} {A : Nat → Prop} {H0 : Heap} {σ0 σ : cS} {α0 α : cAl}
theorem c_puti (C : cC p s m args c cc nL own D ca A α0) (hM : cM D ca b A H0 σ0 α0 σ α H locs) {k i f index : Nat} {x : Option Nat} {v : Int32} (hd : dr σ k x = some i) (hk : cK k f = 0) (hl : Cond.fieldLink own index (cTt k f).1 (cTt k f).2.1 (cTt k f).2.2.1 ∈ wl) (hfin : (cTt k f).2.2.2 = false ∨ ((cTt k f).1 = own ∧ meth.name = "<init>")) (hdg : decode cc pc = .ok (.putfield index, 3))
    (kk : ∀ (H1 : Heap) (locs1 : List Loc), cM D ca b A H0 σ0 α0 (uI σ k i f v) α H1 locs1 → W p l e R s m args below meth c H1 locs1 cells slots Q (F0 m (pc + 3) ls rest)) : W p l e R s m args below meth c H locs cells slots Q (F0 m pc ls (.int v :: cr α k x :: rest)) := by
  obtain ⟨rfl, hi⟩ := dr_of hd
  have hkf := cK_lt (k := k) (f := f) (by omega)
  have hP := (hM.1 k i (by omega) hi).ob (by omega)
  rw [cE_obj hkf.1] at hP
  show W p l e R s m args below meth c H locs cells slots Q (F0 m pc ls (.int v :: .ref (α k i) :: rest))
  have ht := c_ty0 k hkf.1 f hkf.2 hk
  refine c_putO C hP hM.2.2.2.1 (hM.2.1.2 k i (by omega) hi (by omega)) hkf.1 hkf.2 hl hfin (v := .int v) (by rw [ht]; rfl) (by rw [ht]; rfl) (by simpa using hkf.2) hdg fun H1 locs1 h1 h2 h3 => ?_
  rw [uI_o (ca := ca) hkf.1 (by omega)] at h1
  exact kk H1 locs1 ⟨hM.1.upd hM.2.1 (by omega) hi rfl h1 h2 uI_e, hM.2.1, cSh_n hM.2.2.1 rfl rfl rfl, h3, hM.2.2.2.2⟩
theorem c_putl (C : cC p s m args c cc nL own D ca A α0) (hM : cM D ca b A H0 σ0 α0 σ α H locs) {k i f index : Nat} {x : Option Nat} {v : Int64} (hd : dr σ k x = some i) (hk : cK k f = 1) (hl : Cond.fieldLink own index (cTt k f).1 (cTt k f).2.1 (cTt k f).2.2.1 ∈ wl) (hfin : (cTt k f).2.2.2 = false ∨ ((cTt k f).1 = own ∧ meth.name = "<init>")) (hdg : decode cc pc = .ok (.putfield index, 3))
    (kk : ∀ (H1 : Heap) (locs1 : List Loc), cM D ca b A H0 σ0 α0 (uJ σ k i f v) α H1 locs1 → W p l e R s m args below meth c H1 locs1 cells slots Q (F0 m (pc + 3) ls rest)) : W p l e R s m args below meth c H locs cells slots Q (F0 m pc ls (.long v :: cr α k x :: rest)) := by
  obtain ⟨rfl, hi⟩ := dr_of hd
  have hkf := cK_lt (k := k) (f := f) (by omega)
  have hP := (hM.1 k i (by omega) hi).ob (by omega)
  rw [cE_obj hkf.1] at hP
  show W p l e R s m args below meth c H locs cells slots Q (F0 m pc ls (.long v :: .ref (α k i) :: rest))
  have ht := c_ty1 k hkf.1 f hkf.2 hk
  refine c_putO C hP hM.2.2.2.1 (hM.2.1.2 k i (by omega) hi (by omega)) hkf.1 hkf.2 hl hfin (v := .long v) (by rw [ht]; rfl) (by rw [ht]; rfl) (by simpa using hkf.2) hdg fun H1 locs1 h1 h2 h3 => ?_
  rw [uJ_o (ca := ca) hkf.1 hk] at h1
  exact kk H1 locs1 ⟨hM.1.upd hM.2.1 (by omega) hi rfl h1 h2 uJ_e, hM.2.1, cSh_n hM.2.2.1 rfl rfl rfl, h3, hM.2.2.2.2⟩
theorem cSh_r {k i f : Nat} {v : Option Nat} (h : cSh b σ) (hb : b = true → 7 ≤ k ∨ i ≠ 0) (hv : lvq σ (if k = 17 then cel σ i else cTg k f) v = true) : cSh b (uR σ k i f v) := ⟨fun h1 => by
  obtain ⟨q1, q2, q3⟩ := h.1 h1
  refine ⟨fun q hq => ?_, q2, q3⟩
  have hk : ∀ q ∈ cBk, q.1 < 7 ∧ q.2.1 = 0 := by decide
  obtain ⟨e1, e2⟩ := hk q hq
  rw [← q1 q hq]
  exact if_neg fun hh => (hb h1).elim (fun h7 => by omega) (fun h0 => by omega), fun k' i' f' hk' hi' => by
  show lvq σ _ (if k' = k ∧ i' = i ∧ f' = f then v else cR σ k' i' f') = true
  by_cases q : k' = k ∧ i' = i ∧ f' = f
  · rw [if_pos q]
    obtain ⟨rfl, rfl, rfl⟩ := q
    exact hv
  · rw [if_neg q]
    exact h.2 k' i' f' hk' hi'⟩
theorem c_putr (C : cC p s m args c cc nL own D ca A α0) (hM : cM D ca b A H0 σ0 α0 σ α H locs) {k i f t index : Nat} {x v : Option Nat} (hd : dr σ k x = some i) (hk : cK k f = 2 ∧ cTg k f = t) (hb7 : b = true → 7 ≤ k ∨ i ≠ 0) (hv : lvq σ t v = true) (hl : Cond.fieldLink own index (cTt k f).1 (cTt k f).2.1 (cTt k f).2.2.1 ∈ wl) (hfin : (cTt k f).2.2.2 = false ∨ ((cTt k f).1 = own ∧ meth.name = "<init>")) (hdg : decode cc pc = .ok (.putfield index, 3))
    (kk : ∀ (H1 : Heap) (locs1 : List Loc), cM D ca b A H0 σ0 α0 (uR σ k i f v) α H1 locs1 → W p l e R s m args below meth c H1 locs1 cells slots Q (F0 m (pc + 3) ls rest)) : W p l e R s m args below meth c H locs cells slots Q (F0 m pc ls (cr α t v :: cr α k x :: rest)) := by
  obtain ⟨hk, rfl⟩ := hk
  obtain ⟨rfl, hi⟩ := dr_of hd
  have hkf := cK_lt (k := k) (f := f) (by omega)
  have hP := (hM.1 k i (by omega) hi).ob (by omega)
  rw [cE_obj hkf.1] at hP
  show W p l e R s m args below meth c H locs cells slots Q (F0 m pc ls (cr α (cTg k f) v :: .ref (α k i) :: rest))
  have ht := c_narR (c_ty2 k hkf.1 f hkf.2 hk) (v.map (α (cTg k f)))
  refine c_putO C hP hM.2.2.2.1 (hM.2.1.2 k i (by omega) hi (by omega)) hkf.1 hkf.2 hl hfin ht.1 ht.2 (by simpa using hkf.2) hdg fun H1 locs1 h1 h2 h3 => ?_
  rw [uR_o (ca := ca) hkf.1 hk] at h1
  exact kk H1 locs1 ⟨hM.1.upd hM.2.1 (by omega) hi rfl h1 h2 uR_e, hM.2.1, cSh_r hM.2.2.1 hb7 (by rw [if_neg (by omega)]; exact hv), h3, hM.2.2.2.2⟩
theorem c_iast (C : cC p s m args c cc nL own D ca A α0) (hM : cM D ca b A H0 σ0 α0 σ α H locs) {i : Nat} {x : Option Nat} {j v : Int32} (hd : dr σ 12 x = some i) (hin : vp_in j (cln σ 12 i)) (hdg : decode cc pc = .ok (.iastore, 1))
    (kk : ∀ (H1 : Heap) (locs1 : List Loc), cM D ca b A H0 σ0 α0 (uI σ 12 i j.toNatClampNeg v) α H1 locs1 → W p l e R s m args below meth c H1 locs1 cells slots Q (F0 m (pc + 1) ls rest)) : W p l e R s m args below meth c H locs cells slots Q (F0 m pc ls (.int v :: .int j :: cr α 12 x :: rest)) := by
  obtain ⟨hx, hb, hml, hown, hts, hK, -⟩ := C
  obtain ⟨rfl, hi⟩ := dr_of hd
  have hP := (hM.1 12 i (by omega) hi).ob (by omega)
  rw [cE_arr (by omega) (by omega)] at hP
  show W p l e R s m args below meth c H locs cells slots Q (F0 m pc ls (.int v :: .int j :: .ref (α 12 i) :: rest))
  refine W.iast hx hb hP ((hK.2 0 _ rfl).1 _ (fun j => .int (cI σ 12 i j))) (fun q => by cases q) (by show ¬ (j < 0 ∨ (arrV _ _ _).slots.size ≤ _); rw [arrV_size]; exact hin) rfl rfl hdg fun H1 e1 z oq => ?_
  refine kk H1 _ ⟨hM.1.upd hM.2.1 (k := 12) (i := i) (by omega) hi rfl ?_ oq uI_e, hM.2.1, cSh_n hM.2.2.1 rfl rfl rfl, hM.2.2.2.1.put z oq (hM.2.1.2 12 i (by omega) hi (by omega)), hM.2.2.2.2⟩
  rw [← uI_a (by omega) (by omega)]
  show H1[α 12 i]? = some (vp_cell _ _)
  rw [e1, vp_cell_i, vp_cell_i, arrV_store]
  congr 2
  funext q
  by_cases hq : q = j.toNatClampNeg
  · subst hq; simp [updV, upd]
  · simp [updV, upd, hq]
theorem c_zast (C : cC p s m args c cc nL own D ca A α0) (hM : cM D ca b A H0 σ0 α0 σ α H locs) {i : Nat} {x : Option Nat} {j v : Int32} (hd : dr σ 13 x = some i) (hin : vp_in j (cln σ 13 i)) (hdg : decode cc pc = .ok (.bastore, 1))
    (kk : ∀ (H1 : Heap) (locs1 : List Loc), cM D ca b A H0 σ0 α0 (uI σ 13 i j.toNatClampNeg (v &&& 1)) α H1 locs1 → W p l e R s m args below meth c H1 locs1 cells slots Q (F0 m (pc + 1) ls rest)) : W p l e R s m args below meth c H locs cells slots Q (F0 m pc ls (.int v :: .int j :: cr α 13 x :: rest)) := by
  obtain ⟨hx, hb, hml, hown, hts, hK, -⟩ := C
  obtain ⟨rfl, hi⟩ := dr_of hd
  have hP := (hM.1 13 i (by omega) hi).ob (by omega)
  rw [cE_arr (by omega) (by omega)] at hP
  show W p l e R s m args below meth c H locs cells slots Q (F0 m pc ls (.int v :: .int j :: .ref (α 13 i) :: rest))
  refine W.zast hx hb hP ((hK.2 1 _ rfl).1 _ (fun j => .int (cI σ 13 i j))) (fun q => by cases q) (by show ¬ (j < 0 ∨ (arrV _ _ _).slots.size ≤ _); rw [arrV_size]; exact hin) rfl rfl hdg fun H1 e1 z oq => ?_
  refine kk H1 _ ⟨hM.1.upd hM.2.1 (k := 13) (i := i) (by omega) hi rfl ?_ oq uI_e, hM.2.1, cSh_n hM.2.2.1 rfl rfl rfl, hM.2.2.2.1.put z oq (hM.2.1.2 13 i (by omega) hi (by omega)), hM.2.2.2.2⟩
  rw [← uI_a (by omega) (by omega)]
  show H1[α 13 i]? = some (vp_cell _ _)
  rw [e1, vp_cell_i, vp_cell_i, arrV_store]
  congr 2
  funext q
  by_cases hq : q = j.toNatClampNeg
  · subst hq; simp [updV, upd, narrow]
  · simp [updV, upd, hq]
theorem c_cast (C : cC p s m args c cc nL own D ca A α0) (hM : cM D ca b A H0 σ0 α0 σ α H locs) {i : Nat} {x : Option Nat} {j v : Int32} (hd : dr σ 14 x = some i) (hin : vp_in j (cln σ 14 i)) (hdg : decode cc pc = .ok (.castore, 1))
    (kk : ∀ (H1 : Heap) (locs1 : List Loc), cM D ca b A H0 σ0 α0 (uI σ 14 i j.toNatClampNeg v.toUInt32.toUInt16.toUInt32.toInt32) α H1 locs1 → W p l e R s m args below meth c H1 locs1 cells slots Q (F0 m (pc + 1) ls rest)) : W p l e R s m args below meth c H locs cells slots Q (F0 m pc ls (.int v :: .int j :: cr α 14 x :: rest)) := by
  obtain ⟨hx, hb, hml, hown, hts, hK, -⟩ := C
  obtain ⟨rfl, hi⟩ := dr_of hd
  have hP := (hM.1 14 i (by omega) hi).ob (by omega)
  rw [cE_arr (by omega) (by omega)] at hP
  show W p l e R s m args below meth c H locs cells slots Q (F0 m pc ls (.int v :: .int j :: .ref (α 14 i) :: rest))
  refine W.cast hx hb hP ((hK.2 2 _ rfl).1 _ (fun j => .int (cI σ 14 i j))) (fun q => by cases q) (by show ¬ (j < 0 ∨ (arrV _ _ _).slots.size ≤ _); rw [arrV_size]; exact hin) rfl rfl hdg fun H1 e1 z oq => ?_
  refine kk H1 _ ⟨hM.1.upd hM.2.1 (k := 14) (i := i) (by omega) hi rfl ?_ oq uI_e, hM.2.1, cSh_n hM.2.2.1 rfl rfl rfl, hM.2.2.2.1.put z oq (hM.2.1.2 14 i (by omega) hi (by omega)), hM.2.2.2.2⟩
  rw [← uI_a (by omega) (by omega)]
  show H1[α 14 i]? = some (vp_cell _ _)
  rw [e1, vp_cell_i, vp_cell_i, arrV_store]
  congr 2
  funext q
  by_cases hq : q = j.toNatClampNeg
  · subst hq; simp [updV, upd, narrow]
  · simp [updV, upd, hq]
theorem c_bast (C : cC p s m args c cc nL own D ca A α0) (hM : cM D ca b A H0 σ0 α0 σ α H locs) {i : Nat} {x : Option Nat} {j v : Int32} (hd : dr σ 16 x = some i) (hin : vp_in j (cln σ 16 i)) (hdg : decode cc pc = .ok (.bastore, 1))
    (kk : ∀ (H1 : Heap) (locs1 : List Loc), cM D ca b A H0 σ0 α0 (uI σ 16 i j.toNatClampNeg v.toInt8.toInt32) α H1 locs1 → W p l e R s m args below meth c H1 locs1 cells slots Q (F0 m (pc + 1) ls rest)) : W p l e R s m args below meth c H locs cells slots Q (F0 m pc ls (.int v :: .int j :: cr α 16 x :: rest)) := by
  obtain ⟨hx, hb, hml, hown, hts, hK, -⟩ := C
  obtain ⟨rfl, hi⟩ := dr_of hd
  have hP := (hM.1 16 i (by omega) hi).ob (by omega)
  rw [cE_arr (by omega) (by omega)] at hP
  show W p l e R s m args below meth c H locs cells slots Q (F0 m pc ls (.int v :: .int j :: .ref (α 16 i) :: rest))
  refine W.bast hx hb hP ((hK.2 4 _ rfl).1 _ (fun j => .int (cI σ 16 i j))) (fun q => by cases q) (by show ¬ (j < 0 ∨ (arrV _ _ _).slots.size ≤ _); rw [arrV_size]; exact hin) rfl rfl hdg fun H1 e1 z oq => ?_
  refine kk H1 _ ⟨hM.1.upd hM.2.1 (k := 16) (i := i) (by omega) hi rfl ?_ oq uI_e, hM.2.1, cSh_n hM.2.2.1 rfl rfl rfl, hM.2.2.2.1.put z oq (hM.2.1.2 16 i (by omega) hi (by omega)), hM.2.2.2.2⟩
  rw [← uI_a (by omega) (by omega)]
  show H1[α 16 i]? = some (vp_cell _ _)
  rw [e1, vp_cell_i, vp_cell_i, arrV_store]
  congr 2
  funext q
  by_cases hq : q = j.toNatClampNeg
  · subst hq; simp [updV, upd, narrow]
  · simp [updV, upd, hq]
theorem c_last (C : cC p s m args c cc nL own D ca A α0) (hM : cM D ca b A H0 σ0 α0 σ α H locs) {i : Nat} {x : Option Nat} {j : Int32} {v : Int64} (hd : dr σ 15 x = some i) (hin : vp_in j (cln σ 15 i)) (hdg : decode cc pc = .ok (.lastore, 1))
    (kk : ∀ (H1 : Heap) (locs1 : List Loc), cM D ca b A H0 σ0 α0 (uJ σ 15 i j.toNatClampNeg v) α H1 locs1 → W p l e R s m args below meth c H1 locs1 cells slots Q (F0 m (pc + 1) ls rest)) : W p l e R s m args below meth c H locs cells slots Q (F0 m pc ls (.long v :: .int j :: cr α 15 x :: rest)) := by
  obtain ⟨hx, hb, hml, hown, hts, hK, -⟩ := C
  obtain ⟨rfl, hi⟩ := dr_of hd
  have hP := (hM.1 15 i (by omega) hi).ob (by omega)
  rw [cE_arrJ] at hP
  show W p l e R s m args below meth c H locs cells slots Q (F0 m pc ls (.long v :: .int j :: .ref (α 15 i) :: rest))
  refine W.last hx hb hP ((hK.2 3 _ rfl).1 _ (fun j => .long (cJ σ 15 i j))) (fun q => by cases q) (by show ¬ (j < 0 ∨ (arrV _ _ _).slots.size ≤ _); rw [arrV_size]; exact hin) rfl rfl hdg fun H1 e1 z oq => ?_
  refine kk H1 _ ⟨hM.1.upd hM.2.1 (k := 15) (i := i) (by omega) hi rfl ?_ oq uJ_e, hM.2.1, cSh_n hM.2.2.1 rfl rfl rfl, hM.2.2.2.1.put z oq (hM.2.1.2 15 i (by omega) hi (by omega)), hM.2.2.2.2⟩
  rw [← uJ_a]
  show H1[α 15 i]? = some (vp_cell _ _)
  rw [e1, vp_cell_l, vp_cell_l, arrV_store]
  congr 2
  funext q
  by_cases hq : q = j.toNatClampNeg
  · subst hq; simp [updV, vp_updL]
  · simp [updV, vp_updL, hq]
-- references on the stack and among the locals
theorem c_aload_n (hx : p.tables.exec = Jvm.exec) (hb : c.code = cc) {k : Fin 4} {i t : Nat} {x : Option Nat} (hdg : decode cc pc = .ok (.aload_n k, 1)) (hi : (k : Nat) = i) (hl : ls[i]? = some (.val (cr α t x)))
    (kk : W p l e R s m args below meth c H locs cells slots Q (F0 m (pc + 1) ls (cr α t x :: rest))) : W p l e R s m args below meth c H locs cells slots Q (F0 m pc ls rest) := by
  cases x with
  | none => exact lv_aload_nN hx hb hdg hi hl kk
  | some y => exact lv_aload_n hx hb hdg hi hl kk
theorem c_aload (hx : p.tables.exec = Jvm.exec) (hb : c.code = cc) {i t : Nat} {x : Option Nat} (hdg : decode cc pc = .ok (.aload i, 2)) (hl : ls[i]? = some (.val (cr α t x)))
    (kk : W p l e R s m args below meth c H locs cells slots Q (F0 m (pc + 2) ls (cr α t x :: rest))) : W p l e R s m args below meth c H locs cells slots Q (F0 m pc ls rest) := by
  cases x with
  | none => exact lv_aloadN hx hb hdg hl kk
  | some y => exact lv_aload hx hb hdg hl kk
theorem c_astore_n (hx : p.tables.exec = Jvm.exec) (hb : c.code = cc) {k : Fin 4} {i t : Nat} {x : Option Nat} {lv lv' : List (Nat × Value)} (hdg : decode cc pc = .ok (.astore_n k, 1)) (hi : (k : Nat) = i) (h : lv_has ls nL lv) (hn : i < nL) (hl : (i, cr α t x) :: lv.filter (fun q => !(q.1 == i) && !(q.1 + 1 == i && q.2.category == 2)) = lv')
    (kk : ∀ ls' : Array Slot, lv_has ls' nL lv' → W p l e R s m args below meth c H locs cells slots Q (F0 m (pc + 1) ls' rest)) : W p l e R s m args below meth c H locs cells slots Q (F0 m pc ls (cr α t x :: rest)) := by
  cases x with
  | none => exact lv_astore_nN hx hb hdg hi h hn hl kk
  | some y => exact lv_astore_n hx hb hdg hi h hn hl kk
theorem c_astore (hx : p.tables.exec = Jvm.exec) (hb : c.code = cc) {i t : Nat} {x : Option Nat} {lv lv' : List (Nat × Value)} (hdg : decode cc pc = .ok (.astore i, 2)) (h : lv_has ls nL lv) (hn : i < nL) (hl : (i, cr α t x) :: lv.filter (fun q => !(q.1 == i) && !(q.1 + 1 == i && q.2.category == 2)) = lv')
    (kk : ∀ ls' : Array Slot, lv_has ls' nL lv' → W p l e R s m args below meth c H locs cells slots Q (F0 m (pc + 2) ls' rest)) : W p l e R s m args below meth c H locs cells slots Q (F0 m pc ls (cr α t x :: rest)) := by
  cases x with
  | none => exact lv_astoreN hx hb hdg h hn hl kk
  | some y => exact lv_astore hx hb hdg h hn hl kk
theorem cr_cat {t : Nat} {x : Option Nat} : (cr α t x).category = 1 := by cases x <;> rfl
theorem c_ifnull (hx : p.tables.exec = Jvm.exec) (hb : c.code = cc) {t : Nat} {x : Option Nat} {off : Int} {tgt : Nat} (hdg : decode cc pc = .ok (.ifnull off, 3)) (ht : (pc : Int) + off = (tgt : Int))
    (kt : x = none → W p l e R s m args below meth c H locs cells slots Q (F0 m tgt ls rest)) (kf : ¬ x = none → W p l e R s m args below meth c H locs cells slots Q (F0 m (pc + 3) ls rest)) : W p l e R s m args below meth c H locs cells slots Q (F0 m pc ls (cr α t x :: rest)) := by
  cases x with
  | none => exact lv_ifnullN hx hb hdg ht (kt rfl)
  | some y => exact lv_ifnull hx hb hdg (kf (fun h => by cases h))
theorem c_ifnonnull (hx : p.tables.exec = Jvm.exec) (hb : c.code = cc) {t : Nat} {x : Option Nat} {off : Int} {tgt : Nat} (hdg : decode cc pc = .ok (.ifnonnull off, 3)) (ht : (pc : Int) + off = (tgt : Int))
    (kt : ¬ x = none → W p l e R s m args below meth c H locs cells slots Q (F0 m tgt ls rest)) (kf : x = none → W p l e R s m args below meth c H locs cells slots Q (F0 m (pc + 3) ls rest)) : W p l e R s m args below meth c H locs cells slots Q (F0 m pc ls (cr α t x :: rest)) := by
  cases x with
  | none => exact lv_ifnonnullN hx hb hdg (kf rfl)
  | some y => exact lv_ifnonnull hx hb hdg ht (kt (fun h => by cases h))
theorem lvq_inj (hD : cD A α σ) {k : Nat} {x y : Option Nat} (hk : k < 18) (hx : lvq σ k x = true) (hy : lvq σ k y = true) : x.map (α k) = y.map (α k) ↔ x = y := by
  refine ⟨fun h => ?_, fun h => by rw [h]⟩
  cases x with
  | none => cases y with
    | none => rfl
    | some j => cases h
  | some i => cases y with
    | none => cases h
    | some j => rw [(hD.1 k i k j hk hk (of_decide_eq_true hx) (of_decide_eq_true hy) (Option.some.inj h)).2]
theorem c_acmp_eq (hx : p.tables.exec = Jvm.exec) (hb : c.code = cc) (hM : cM D ca b A H0 σ0 α0 σ α H locs) {k : Nat} {x y : Option Nat} (hk : k < 18) (h1 : lvq σ k x = true) (h2 : lvq σ k y = true) {off : Int} {tgt : Nat} (hdg : decode cc pc = .ok (.if_acmp .eq off, 3)) (ht : (pc : Int) + off = (tgt : Int))
    (kt : x = y → W p l e R s m args below meth c H locs cells slots Q (F0 m tgt ls rest)) (kf : ¬ x = y → W p l e R s m args below meth c H locs cells slots Q (F0 m (pc + 3) ls rest)) : W p l e R s m args below meth c H locs cells slots Q (F0 m pc ls (cr α k y :: cr α k x :: rest)) :=
  lv_acmp_eq hx hb hdg ht (fun h => kt ((lvq_inj hM.2.1 hk h1 h2).mp h)) (fun h => kf (fun q => h ((lvq_inj hM.2.1 hk h1 h2).mpr q)))
theorem c_acmp_ne (hx : p.tables.exec = Jvm.exec) (hb : c.code = cc) (hM : cM D ca b A H0 σ0 α0 σ α H locs) {k : Nat} {x y : Option Nat} (hk : k < 18) (h1 : lvq σ k x = true) (h2 : lvq σ k y = true) {off : Int} {tgt : Nat} (hdg : decode cc pc = .ok (.if_acmp .ne off, 3)) (ht : (pc : Int) + off = (tgt : Int))
    (kt : ¬ x = y → W p l e R s m args below meth c H locs cells slots Q (F0 m tgt ls rest)) (kf : x = y → W p l e R s m args below meth c H locs cells slots Q (F0 m (pc + 3) ls rest)) : W p l e R s m args below meth c H locs cells slots Q (F0 m pc ls (cr α k y :: cr α k x :: rest)) :=
  lv_acmp_ne hx hb hdg ht (fun h => kt (fun q => h ((lvq_inj hM.2.1 hk h1 h2).mpr q))) (fun h => kf ((lvq_inj hM.2.1 hk h1 h2).mp h))
/-- verbs: compared by number -/
def lvv (x : Option Nat) : Bool := match x with
  | none => true
  | some i => decide (i < 15)
theorem lvv_inj {U : State} (hG : cG A α0 U H0) (h18 : α 18 = α0 18) {x y : Option Nat} (hx : lvv x = true) (hy : lvv y = true) : x.map (α 18) = y.map (α 18) ↔ x = y := by
  refine ⟨fun h => ?_, fun h => by rw [h]⟩
  rw [h18] at h
  cases x with
  | none => cases y with
    | none => rfl
    | some j => cases h
  | some i => cases y with
    | none => cases h
    | some j => rw [hG.2.2.1.2.1 i j (of_decide_eq_true hx) (of_decide_eq_true hy) (Option.some.inj h)]
theorem c_vcmp_eq (C : cC p s m args c cc nL own D ca A α0) (hM : cM D ca b A H0 σ0 α0 σ α H locs) {x y : Option Nat} (h1 : lvv x = true) (h2 : lvv y = true) {off : Int} {tgt : Nat} (hdg : decode cc pc = .ok (.if_acmp .eq off, 3)) (ht : (pc : Int) + off = (tgt : Int))
    (kt : x = y → W p l e R s m args below meth c H locs cells slots Q (F0 m tgt ls rest)) (kf : ¬ x = y → W p l e R s m args below meth c H locs cells slots Q (F0 m (pc + 3) ls rest)) : W p l e R s m args below meth c H locs cells slots Q (F0 m pc ls (cr α 18 y :: cr α 18 x :: rest)) :=
  have h18 := hM.2.2.2.2.2.2.2 18 (by omega)
  lv_acmp_eq C.1 C.2.1 hdg ht (fun h => kt ((lvv_inj C.2.2.2.2.2.2 h18 h1 h2).mp h)) (fun h => kf (fun q => h ((lvv_inj C.2.2.2.2.2.2 h18 h1 h2).mpr q)))
theorem c_vcmp_ne (C : cC p s m args c cc nL own D ca A α0) (hM : cM D ca b A H0 σ0 α0 σ α H locs) {x y : Option Nat} (h1 : lvv x = true) (h2 : lvv y = true) {off : Int} {tgt : Nat} (hdg : decode cc pc = .ok (.if_acmp .ne off, 3)) (ht : (pc : Int) + off = (tgt : Int))
    (kt : ¬ x = y → W p l e R s m args below meth c H locs cells slots Q (F0 m tgt ls rest)) (kf : x = y → W p l e R s m args below meth c H locs cells slots Q (F0 m (pc + 3) ls rest)) : W p l e R s m args below meth c H locs cells slots Q (F0 m pc ls (cr α 18 y :: cr α 18 x :: rest)) :=
  have h18 := hM.2.2.2.2.2.2.2 18 (by omega)
  lv_acmp_ne C.1 C.2.1 hdg ht (fun h => kt (fun q => h ((lvv_inj C.2.2.2.2.2.2 h18 h1 h2).mpr q))) (fun h => kf ((lvv_inj C.2.2.2.2.2.2 h18 h1 h2).mp h))
/-- a verb out of the statics, and its fields -/
theorem c_getV (C : cC p s m args c cc nL own D ca A α0) (hM : cM D ca b A s.heap σ0 α0 σ α H locs) (i : Nat) {nm : String} (hi : i < 15 ∧ vN.getD i "" = nm) {index : Nat} (hl : Cond.fieldLink own index "Lorewick$Verb" nm "LLorewick$Verb;" ∈ wl) (hdg : decode cc pc = .ok (.getstatic index, 3))
    (kk : W p l e R s m args below meth c H locs cells slots Q (F0 m (pc + 3) ls (cr α 18 (some i) :: rest))) : W p l e R s m args below meth c H locs cells slots Q (F0 m pc ls rest) := by
  obtain ⟨hx, hb, hml, hown, hts, hK, hG⟩ := C
  obtain ⟨hi, rfl⟩ := hi
  refine va_gets hx hb (hG.2.2.1.2.2 i hi) hM.2.2.2.1 hown (hts _ hl) (fun x h => h) hdg ?_
  rw [← congrFun (hM.2.2.2.2.2.2.2 18 (by omega)) i]
  exact kk
theorem c_vtext (C : cC p s m args c cc nL own D ca A α0) (hM : cM D ca b A s.heap σ0 α0 σ α H locs) {i index : Nat} (hi : i < 15) (hl : Cond.fieldLink own index "Lorewick$Verb" "text" "Ljava/lang/String;" ∈ wl) (hdg : decode cc pc = .ok (.getfield index, 3))
    (kk : W p l e R s m args below meth c H locs cells slots Q (F0 m (pc + 3) ls (cr α 19 (some (vT.getD i 0)) :: rest))) : W p l e R s m args below meth c H locs cells slots Q (F0 m pc ls (cr α 18 (some i) :: rest)) := by
  obtain ⟨hx, hb, hml, hown, hts, hK, hG⟩ := C
  show W p l e R s m args below meth c H locs cells slots Q (F0 m pc ls (.ref (α 18 i) :: rest))
  rw [congrFun (hM.2.2.2.2.2.2.2 18 (by omega)) i]
  refine va_getX hx hb hG.2.1.1 hi hM.2.2.2.1 hown (hts _ hl) (fun x h => h) hdg ?_
  rw [← congrFun (hM.2.2.2.2.2.2.2 19 (by omega)) (vT.getD i 0)]
  exact kk
theorem c_vparts (C : cC p s m args c cc nL own D ca A α0) (hM : cM D ca b A s.heap σ0 α0 σ α H locs) {i index : Nat} (hi : i < 15) (hl : Cond.fieldLink own index "Lorewick$Verb" "parts" "I" ∈ wl) (hdg : decode cc pc = .ok (.getfield index, 3))
    (kk : W p l e R s m args below meth c H locs cells slots Q (F0 m (pc + 3) ls (.int (vP.getD i 0) :: rest))) : W p l e R s m args below meth c H locs cells slots Q (F0 m pc ls (cr α 18 (some i) :: rest)) := by
  obtain ⟨hx, hb, hml, hown, hts, hK, hG⟩ := C
  show W p l e R s m args below meth c H locs cells slots Q (F0 m pc ls (.ref (α 18 i) :: rest))
  rw [congrFun (hM.2.2.2.2.2.2.2 18 (by omega)) i]
  exact va_getX hx hb hG.2.1.2.1 hi hM.2.2.2.1 hown (hts _ hl) (fun x h => h) hdg kk
theorem c_vnouns (C : cC p s m args c cc nL own D ca A α0) (hM : cM D ca b A s.heap σ0 α0 σ α H locs) {i index : Nat} (hi : i < 15) (hl : Cond.fieldLink own index "Lorewick$Verb" "nouns" "I" ∈ wl) (hdg : decode cc pc = .ok (.getfield index, 3))
    (kk : W p l e R s m args below meth c H locs cells slots Q (F0 m (pc + 3) ls (.int (vQ.getD i 0) :: rest))) : W p l e R s m args below meth c H locs cells slots Q (F0 m pc ls (cr α 18 (some i) :: rest)) := by
  obtain ⟨hx, hb, hml, hown, hts, hK, hG⟩ := C
  show W p l e R s m args below meth c H locs cells slots Q (F0 m pc ls (.ref (α 18 i) :: rest))
  rw [congrFun (hM.2.2.2.2.2.2.2 18 (by omega)) i]
  exact va_getX hx hb hG.2.1.2.2.1 hi hM.2.2.2.1 hown (hts _ hl) (fun x h => h) hdg kk
theorem c_vord (C : cC p s m args c cc nL own D ca A α0) (hM : cM D ca b A s.heap σ0 α0 σ α H locs) {i index : Nat} (hi : i < 15) (hl : Cond.fieldLink own index "java/lang/Enum" "ordinal" "I" ∈ wl) (hdg : decode cc pc = .ok (.getfield index, 3))
    (kk : W p l e R s m args below meth c H locs cells slots Q (F0 m (pc + 3) ls (.int (nI i) :: rest))) : W p l e R s m args below meth c H locs cells slots Q (F0 m pc ls (cr α 18 (some i) :: rest)) := by
  obtain ⟨hx, hb, hml, hown, hts, hK, hG⟩ := C
  show W p l e R s m args below meth c H locs cells slots Q (F0 m pc ls (.ref (α 18 i) :: rest))
  rw [congrFun (hM.2.2.2.2.2.2.2 18 (by omega)) i]
  exact va_getX hx hb hG.2.1.2.2.2 hi hM.2.2.2.1 hown (hts _ hl) (fun x h => h) hdg kk
end CR2
