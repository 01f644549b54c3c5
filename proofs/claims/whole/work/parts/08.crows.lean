/-! The class's instructions over the one state: a row each. -/
/-- what holds all through a method: the machine, its class, the words, the tables, the statics at its start -/
def cC (p : Program) (s : State) (m : MethodId) (args : Array Value) (c : Code) (cc : ByteArray) (nL : Nat) (own : String) (D : va_G) (ca : Nat → ClassId) (A : Nat → Prop) (α0 : cAl) : Prop := p.tables.exec = Jvm.exec ∧ c.code = cc ∧ c.maxLocals = nL ∧ s.vm.findClass own = some m.cls ∧ (∀ w ∈ wl, w.before args s = true) ∧ va_K D cCl (cTys ca) s ∧ cG A α0 s s.heap
theorem cSh_n {b : Bool} {σ σ' : cS} (h : cSh b σ) (h1 : cn σ' = cn σ) (h2 : cR σ' = cR σ) (h3 : cln σ' = cln σ) (h4 : cel σ' = cel σ := by rfl) : cSh b σ' := ⟨fun hb => by
  obtain ⟨q1, q2, q3⟩ := h.1 hb
  exact ⟨by rw [h2]; exact q1, by rw [h1]; exact q2, by rw [h3]; exact q3⟩, fun k i f hk hi => by
  have h5 : ∀ k x, lvq σ' k x = lvq σ k x := fun k x => by unfold lvq; rw [h1]
  rw [h1] at hi
  rw [h5, h2, h4]
  exact h.2 k i f hk hi⟩
section CR
variable {p : Program} {l : Launch} {e : Env} {R : Room} {s : State} {m : MethodId} {args : Array Value} {below : List Frame} {meth : Method} {c : Code} {H : Heap} {locs : List Loc} {cells slots : Nat} {Q : State → Prop}
variable {cc : ByteArray} {nL pc : Nat} {own : String} {ls : Array Slot} {rest : List Value} {D : va_G} {ca : Nat → ClassId} {b : Bool} {A : Nat → Prop} {H0 : Heap} {σ0 σ : cS} {α0 α : cAl}
theorem c_geti (C : cC p s m args c cc nL own D ca A α0) (hM : cM D ca b A H0 σ0 α0 σ α H locs) {k i f index : Nat} {x : Option Nat} (hd : dr σ k x = some i) (hk : (cK k f != 1 && cK k f != 2 && cK k f != 9) = true) (hl : Cond.fieldLink own index (cTt k f).1 (cTt k f).2.1 (cTt k f).2.2.1 ∈ wl) (hdg : decode cc pc = .ok (.getfield index, 3))
    (kk : W p l e R s m args below meth c H locs cells slots Q (F0 m (pc + 3) ls (.int (cI σ k i f) :: rest))) : W p l e R s m args below meth c H locs cells slots Q (F0 m pc ls (cr α k x :: rest)) := by
  obtain ⟨hx, hb, hml, hown, hts, hK, -⟩ := C
  obtain ⟨rfl, hi⟩ := dr_of hd
  simp only [Bool.and_eq_true, bne_iff_ne, ne_eq] at hk
  have hkf := cK_lt hk.2
  have hP := hM.1.one (k := k) (by omega) hi
  rw [cE_obj hkf.1] at hP
  show W p l e R s m args below meth c H locs cells slots Q (F0 m pc ls (.ref (α k i) :: rest))
  exact va_get (D := D) (ci := k) (C := cRn k) (T := cTt k) (N := cNn k) hx hb hts (c_in k hkf.1) hown hK hP 0 rfl (cCl_at k hkf.1) f hkf.2 (hts _ hl) (fun x h => h) (by rw [cV_at hkf.2]; unfold cV; rw [if_neg hk.1.2, if_neg hk.1.1]) hdg kk
theorem c_getl (C : cC p s m args c cc nL own D ca A α0) (hM : cM D ca b A H0 σ0 α0 σ α H locs) {k i f index : Nat} {x : Option Nat} (hd : dr σ k x = some i) (hk : cK k f = 1) (hl : Cond.fieldLink own index (cTt k f).1 (cTt k f).2.1 (cTt k f).2.2.1 ∈ wl) (hdg : decode cc pc = .ok (.getfield index, 3))
    (kk : W p l e R s m args below meth c H locs cells slots Q (F0 m (pc + 3) ls (.long (cJ σ k i f) :: rest))) : W p l e R s m args below meth c H locs cells slots Q (F0 m pc ls (cr α k x :: rest)) := by
  obtain ⟨hx, hb, hml, hown, hts, hK, -⟩ := C
  obtain ⟨rfl, hi⟩ := dr_of hd
  have hkf := cK_lt (k := k) (f := f) (by omega)
  have hP := hM.1.one (k := k) (by omega) hi
  rw [cE_obj hkf.1] at hP
  show W p l e R s m args below meth c H locs cells slots Q (F0 m pc ls (.ref (α k i) :: rest))
  exact va_get (D := D) (ci := k) (C := cRn k) (T := cTt k) (N := cNn k) hx hb hts (c_in k hkf.1) hown hK hP 0 rfl (cCl_at k hkf.1) f hkf.2 (hts _ hl) (fun x h => h) (by rw [cV_at hkf.2]; unfold cV; rw [if_neg (by omega), if_pos hk]) hdg kk
theorem c_getr (C : cC p s m args c cc nL own D ca A α0) (hM : cM D ca b A H0 σ0 α0 σ α H locs) {k i f index : Nat} {x : Option Nat} (hd : dr σ k x = some i) (hk : cK k f = 2) (hl : Cond.fieldLink own index (cTt k f).1 (cTt k f).2.1 (cTt k f).2.2.1 ∈ wl) (hdg : decode cc pc = .ok (.getfield index, 3))
    (kk : W p l e R s m args below meth c H locs cells slots Q (F0 m (pc + 3) ls (cr α (cTg k f) (cR σ k i f) :: rest))) : W p l e R s m args below meth c H locs cells slots Q (F0 m pc ls (cr α k x :: rest)) := by
  obtain ⟨hx, hb, hml, hown, hts, hK, -⟩ := C
  obtain ⟨rfl, hi⟩ := dr_of hd
  have hkf := cK_lt (k := k) (f := f) (by omega)
  have hP := hM.1.one (k := k) (by omega) hi
  rw [cE_obj hkf.1] at hP
  show W p l e R s m args below meth c H locs cells slots Q (F0 m pc ls (.ref (α k i) :: rest))
  exact va_get (D := D) (ci := k) (C := cRn k) (T := cTt k) (N := cNn k) hx hb hts (c_in k hkf.1) hown hK hP 0 rfl (cCl_at k hkf.1) f hkf.2 (hts _ hl) (fun x h => h) (by rw [cV_at hkf.2]; unfold cV; rw [if_pos hk]) hdg kk
/-- a reference that stays as the constructors made it -/
theorem c_getb (C : cC p s m args c cc nL own D ca A α0) (hM : cM D ca true A H0 σ0 α0 σ α H locs) {k i f j t index : Nat} {x : Option Nat} (hd : dr σ k x = some i) (hq : ((k, i, f, j) ∈ cBk ∧ cK k f = 2) ∧ cTg k f = t) (hl : Cond.fieldLink own index (cTt k f).1 (cTt k f).2.1 (cTt k f).2.2.1 ∈ wl) (hdg : decode cc pc = .ok (.getfield index, 3))
    (kk : W p l e R s m args below meth c H locs cells slots Q (F0 m (pc + 3) ls (cr α t (some j) :: rest))) : W p l e R s m args below meth c H locs cells slots Q (F0 m pc ls (cr α k x :: rest)) := by
  refine c_getr C hM hd hq.1.2 hl hdg ?_
  rw [show cR σ k i f = some j from (hM.2.2.1.1 rfl).1 _ hq.1.1, hq.2]
  exact kk
theorem c_iald (C : cC p s m args c cc nL own D ca A α0) (hM : cM D ca b A H0 σ0 α0 σ α H locs) {i : Nat} {x : Option Nat} {j : Int32} (hd : dr σ 12 x = some i) (hin : vp_in j (cln σ 12 i)) (hdg : decode cc pc = .ok (.iaload, 1))
    (kk : W p l e R s m args below meth c H locs cells slots Q (F0 m (pc + 1) ls (.int (cI σ 12 i j.toNatClampNeg) :: rest))) : W p l e R s m args below meth c H locs cells slots Q (F0 m pc ls (.int j :: cr α 12 x :: rest)) := by
  obtain ⟨hx, hb, hml, hown, hts, hK, -⟩ := C
  obtain ⟨rfl, hi⟩ := dr_of hd
  have hP := hM.1.one (k := 12) (by omega) hi
  rw [cE_arr (by omega) (by omega)] at hP
  show W p l e R s m args below meth c H locs cells slots Q (F0 m pc ls (.int j :: .ref (α 12 i) :: rest))
  exact va_iald hx hb hK hP 0 0 rfl rfl hin hdg kk
theorem c_zald (C : cC p s m args c cc nL own D ca A α0) (hM : cM D ca b A H0 σ0 α0 σ α H locs) {i : Nat} {x : Option Nat} {j : Int32} (hd : dr σ 13 x = some i) (hin : vp_in j (cln σ 13 i)) (hdg : decode cc pc = .ok (.baload, 1))
    (kk : W p l e R s m args below meth c H locs cells slots Q (F0 m (pc + 1) ls (.int (cI σ 13 i j.toNatClampNeg) :: rest))) : W p l e R s m args below meth c H locs cells slots Q (F0 m pc ls (.int j :: cr α 13 x :: rest)) := by
  obtain ⟨hx, hb, hml, hown, hts, hK, -⟩ := C
  obtain ⟨rfl, hi⟩ := dr_of hd
  have hP := hM.1.one (k := 13) (by omega) hi
  rw [cE_arr (by omega) (by omega)] at hP
  show W p l e R s m args below meth c H locs cells slots Q (F0 m pc ls (.int j :: .ref (α 13 i) :: rest))
  exact va_zald hx hb hK hP 0 1 rfl rfl hin hdg kk
theorem c_cald (C : cC p s m args c cc nL own D ca A α0) (hM : cM D ca b A H0 σ0 α0 σ α H locs) {i : Nat} {x : Option Nat} {j : Int32} (hd : dr σ 14 x = some i) (hin : vp_in j (cln σ 14 i)) (hdg : decode cc pc = .ok (.caload, 1))
    (kk : W p l e R s m args below meth c H locs cells slots Q (F0 m (pc + 1) ls (.int (cI σ 14 i j.toNatClampNeg) :: rest))) : W p l e R s m args below meth c H locs cells slots Q (F0 m pc ls (.int j :: cr α 14 x :: rest)) := by
  obtain ⟨hx, hb, hml, hown, hts, hK, -⟩ := C
  obtain ⟨rfl, hi⟩ := dr_of hd
  have hP := hM.1.one (k := 14) (by omega) hi
  rw [cE_arr (by omega) (by omega)] at hP
  show W p l e R s m args below meth c H locs cells slots Q (F0 m pc ls (.int j :: .ref (α 14 i) :: rest))
  exact va_cald hx hb hK hP 0 2 rfl rfl hin hdg kk
theorem c_bald (C : cC p s m args c cc nL own D ca A α0) (hM : cM D ca b A H0 σ0 α0 σ α H locs) {i : Nat} {x : Option Nat} {j : Int32} (hd : dr σ 16 x = some i) (hin : vp_in j (cln σ 16 i)) (hdg : decode cc pc = .ok (.baload, 1))
    (kk : W p l e R s m args below meth c H locs cells slots Q (F0 m (pc + 1) ls (.int (cI σ 16 i j.toNatClampNeg) :: rest))) : W p l e R s m args below meth c H locs cells slots Q (F0 m pc ls (.int j :: cr α 16 x :: rest)) := by
  obtain ⟨hx, hb, hml, hown, hts, hK, -⟩ := C
  obtain ⟨rfl, hi⟩ := dr_of hd
  have hP := hM.1.one (k := 16) (by omega) hi
  rw [cE_arr (by omega) (by omega)] at hP
  show W p l e R s m args below meth c H locs cells slots Q (F0 m pc ls (.int j :: .ref (α 16 i) :: rest))
  exact va_bald hx hb hK hP 0 4 rfl rfl hin hdg kk
theorem c_lald (C : cC p s m args c cc nL own D ca A α0) (hM : cM D ca b A H0 σ0 α0 σ α H locs) {i : Nat} {x : Option Nat} {j : Int32} (hd : dr σ 15 x = some i) (hin : vp_in j (cln σ 15 i)) (hdg : decode cc pc = .ok (.laload, 1))
    (kk : W p l e R s m args below meth c H locs cells slots Q (F0 m (pc + 1) ls (.long (cJ σ 15 i j.toNatClampNeg) :: rest))) : W p l e R s m args below meth c H locs cells slots Q (F0 m pc ls (.int j :: cr α 15 x :: rest)) := by
  obtain ⟨hx, hb, hml, hown, hts, hK, -⟩ := C
  obtain ⟨rfl, hi⟩ := dr_of hd
  have hP := hM.1.one (k := 15) (by omega) hi
  rw [cE_arrJ] at hP
  show W p l e R s m args below meth c H locs cells slots Q (F0 m pc ls (.int j :: .ref (α 15 i) :: rest))
  exact va_lald hx hb hK hP 0 3 rfl rfl hin hdg kk
theorem c_qald (C : cC p s m args c cc nL own D ca A α0) (hM : cM D ca b A H0 σ0 α0 σ α H locs) {i t : Nat} {x : Option Nat} {j : Int32} (hd : dr σ 17 x = some i) (hin : vp_in j (cln σ 17 i)) (ht : cel σ i = t) (hdg : decode cc pc = .ok (.aaload, 1))
    (kk : W p l e R s m args below meth c H locs cells slots Q (F0 m (pc + 1) ls (cr α t (cR σ 17 i j.toNatClampNeg) :: rest))) : W p l e R s m args below meth c H locs cells slots Q (F0 m pc ls (.int j :: cr α 17 x :: rest)) := by
  obtain ⟨hx, hb, hml, hown, hts, hK, -⟩ := C
  obtain ⟨rfl, hi⟩ := dr_of hd
  have hz : ¬ (17 = 17 ∧ i = 0) := fun q => by
    obtain ⟨-, rfl⟩ := q
    rw [hM.1.z0 hi] at hin
    exact hin (Or.inr (Nat.zero_le _))
  have hP := hM.1.one (k := 17) (by omega) hi hz
  rw [cE_arrR, ht] at hP
  show W p l e R s m args below meth c H locs cells slots Q (F0 m pc ls (.int j :: .ref (α 17 i) :: rest))
  exact va_aldq hx hb hK hP 0 5 rfl rfl hin hdg kk
theorem c_alen (C : cC p s m args c cc nL own D ca A α0) (hM : cM D ca b A H0 σ0 α0 σ α H locs) {k i : Nat} {x : Option Nat} (hd : dr σ k x = some i) (hk : 12 ≤ k ∧ k < 18) (hdg : decode cc pc = .ok (.arraylength, 1))
    (kk : W p l e R s m args below meth c H locs cells slots Q (F0 m (pc + 1) ls (.int (nI (cln σ k i)) :: rest))) : W p l e R s m args below meth c H locs cells slots Q (F0 m pc ls (cr α k x :: rest)) := by
  obtain ⟨hx, hb, hml, hown, hts, hK, -⟩ := C
  obtain ⟨rfl, hi⟩ := dr_of hd
  show W p l e R s m args below meth c H locs cells slots Q (F0 m pc ls (.ref (α k i) :: rest))
  by_cases hz : k = 17 ∧ i = 0
  · obtain ⟨rfl, rfl⟩ := hz
    obtain ⟨c0, g, cell, e1, e2, e3, e4, e5, e6⟩ := (hM.1 17 0 (by omega) hi).zz
    have e7 : cE ca α σ 17 0 = .inl (c0, g) := e1
    rw [cE_arrR] at e7
    cases e7
    have hn : cln σ 17 0 = 0 := e2
    have harr : s.isArrayOf cell (.object "java/lang/Object") := by
      obtain ⟨kA, f1, f2⟩ := ((hK.2 5 (ca 17, .object "java/lang/Object") rfl).1 0 (fun _ => .null)).2
      exact ⟨e5, kA, by rw [e4]; exact f1, f2⟩
    refine W.alen (n := nI (cln σ 17 0)) hx hb e3 harr ?_ rfl rfl hdg kk
    rw [e6, hn]
    rfl
  have hP := hM.1.one (k := k) hk.2 hi hz
  obtain ⟨ty, ht⟩ : ∃ ty, (cTys ca)[k - 12]? = some (ca k, ty) := by
    obtain ⟨h1, h2⟩ := hk
    match k, h1, h2 with
    | 12, _, _ => exact ⟨_, rfl⟩
    | 13, _, _ => exact ⟨_, rfl⟩
    | 14, _, _ => exact ⟨_, rfl⟩
    | 15, _, _ => exact ⟨_, rfl⟩
    | 16, _, _ => exact ⟨_, rfl⟩
    | 17, _, _ => exact ⟨_, rfl⟩
    | n + 18, _, h => omega
  unfold cE at hP
  rw [if_neg (by omega)] at hP
  exact va_alen hx hb hK hP 0 (k - 12) rfl ht rfl hdg kk
/-- a store into an object: what is there then, and that all else stays -/
theorem c_putO {k k' i' : Nat} {fs : List Value} (C : cC p s m args c cc nL own D ca A α0) (hP : va_at D cCl (α k' i', Sum.inr (k, fs)) H) (hS0 : va_S A H0 H locs) (ha : A (α k' i')) {f index : Nat} (hk : k < 12) (hf : f < cNn k) (hl : Cond.fieldLink own index (cTt k f).1 (cTt k f).2.1 (cTt k f).2.2.1 ∈ wl) (hfin : (cTt k f).2.2.2 = false ∨ ((cTt k f).1 = own ∧ meth.name = "<init>")) {v : Value} (hn : narrow (cTy k f) v = v) (hfit : fits (cTy k f) v = true) (hlen : f < fs.length) (hdg : decode cc pc = .ok (.putfield index, 3))
    (kk : ∀ (H1 : Heap) (locs1 : List Loc), va_at D cCl (α k' i', Sum.inr (k, fs.set f v)) H1 → (∀ q, q ≠ α k' i' → H1[q]? = H[q]?) → va_S A H0 H1 locs1 → W p l e R s m args below meth c H1 locs1 cells slots Q (F0 m (pc + 3) ls rest)) : W p l e R s m args below meth c H locs cells slots Q (F0 m pc ls (v :: .ref (α k' i') :: rest)) := by
  obtain ⟨hx, hb, hml, hown, hts, hK, -⟩ := C
  have hc := cCl_at k hk
  have hap := va_apart (own := own) hts (c_in k hk) (cTy k) (c_tyok k hk) (c_nm k hk) hK hc
  obtain ⟨r, h1, cell, q1, q2, q3, q4⟩ := hP
  have hr : r = (cRn k, cTt k, cNn k) := Option.some.inj (h1.symm.trans hc)
  subst hr
  obtain ⟨hS, hfc, kC, hkC, hkind⟩ := hK.1 k _ hc
  obtain ⟨cf, kf, fi, ff, hi, hsl⟩ := hS f hf
  have hlay := hts _ (c_in k hk _ (u_in_lay hf))
  have hst := (u_facts hfc hkC (u_lays hts (c_in k hk) hf) hi).1
  have fin : ∀ (H' : Heap) (cell' : Cell), H'[α k' i']? = some (cell.setSlot (D.2 k f) v) → (∀ q, q ≠ α k' i' → H'[q]? = H[q]?) → va_at D cCl (α k' i', Sum.inr (k, fs.set f v)) H' := fun H' _ e1 e3 => ⟨_, hc, t_OB.to (V := updV (vp_V fs) f v) ⟨_, e1, q2, q3, t_set q4 hap hf v⟩ (fun j _ => vp_updV_set hlen v j)⟩
  by_cases hfin2 : (cTt k f).2.2.2 = true
  · rcases hfin with h | ⟨hdecl, hin2⟩
    · rw [hfin2] at h; cases h
    · unfold u_lay at hlay
      rw [if_pos hfin2] at hlay
      have hcf : m.cls = cf := by
        obtain ⟨_, _, c', _, _, _, -, -, hf', -, -, -, hown2, -⟩ := Cond.laysFinal_spec hlay
        have e1 : c' = cf := by have := hi.symm.trans hf'; simp at this; exact this.1.symm
        rw [hdecl] at hown2
        rw [← e1]; exact Option.some.inj (hown.symm.trans hown2)
      have h6 := u_fits hfc hkC hkind (Or.inr hlay) hi (c_tyok k hk f hf) hn hfit
      refine W.putFinK hx hb hown (hts _ hl) hi hst hcf hin2 (by rw [q2]; exact h6) q1 q3 (by rw [hsl]; exact k2_hasslot (q4 f hf)) rfl rfl hdg fun H' e1 e2 e3 => ?_
      rw [hsl] at e1 ⊢
      exact kk H' _ (fin H' cell e1 e3) e3 (hS0.put e2 e3 ha)
  · have hnf : (cTt k f).2.2.2 = false := by simpa using hfin2
    unfold u_lay at hlay
    rw [if_neg hfin2] at hlay
    have h6 := u_store hfc hkC hkind hlay hi (c_tyok k hk f hf) hn hfit
    refine W.putK hx hb (f := ff) ⟨hown, hts _ hl, ⟨_, _, _, hi⟩, hst⟩ (by rw [q2]; exact h6) q1 q3 (by rw [hsl]; exact k2_hasslot (q4 f hf)) rfl rfl hdg fun H' e1 e2 e3 => ?_
    rw [hsl] at e1 ⊢
    exact kk H' _ (fin H' cell e1 e3) e3 (hS0.put e2 e3 ha)
end CR
