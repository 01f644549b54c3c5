/-! New objects and arrays; statics, verbs, texts. -/
def aN (α : cAl) (σ : cS) (k q : Nat) : cAl := fun k' i' => if k' = k ∧ i' = cn σ k then q else α k' i'
theorem aN_o {α : cAl} {σ : cS} {k q k' i' : Nat} (h : i' < cn σ k') : aN α σ k q k' i' = α k' i' := by
  unfold aN
  rw [if_neg]
  rintro ⟨rfl, rfl⟩
  exact absurd h (Nat.lt_irrefl _)
theorem aN_n {α : cAl} {σ : cS} {k q : Nat} : aN α σ k q k (cn σ k) = q := if_pos ⟨rfl, rfl⟩
theorem lvq_le {σ σ' : cS} {k : Nat} {x : Option Nat} (h : cn σ k ≤ cn σ' k) (hx : lvq σ k x = true) : lvq σ' k x = true := by
  cases x with
  | none => rfl
  | some i => exact decide_eq_true (Nat.lt_of_lt_of_le (of_decide_eq_true hx) h)
theorem cn_uN {σ : cS} {k n t k' : Nat} : cn (uN σ k n t) k' = if k' = k then cn σ k + 1 else cn σ k' := rfl
theorem cn_uNle {σ : cS} {k n t k' : Nat} : cn σ k' ≤ cn (uN σ k n t) k' := by
  rw [cn_uN]
  by_cases h : k' = k
  · rw [if_pos h, h]; exact Nat.le_succ _
  · rw [if_neg h]; exact Nat.le_refl _
theorem cX_new {σ : cS} {α : cAl} {k n t q : Nat} (hk : k < 18) : cX σ α (uN σ k n t) (aN α σ k q) :=
  ⟨fun _ => cn_uNle, fun _ _ h => aN_o h, fun k' hk' => funext fun i' => if_neg fun h => by omega⟩
theorem cSh_new {b : Bool} {σ : cS} {k n t : Nat} (hk : k < 18) (h : cSh b σ) : cSh b (uN σ k n t) := by
  refine ⟨fun hb => ?_, fun k' i f hk' hi => ?_⟩
  · obtain ⟨q1, q2, q3⟩ := h.1 hb
    refine ⟨fun q hq => ?_, fun k' hk' => Nat.le_trans (q2 k' hk') cn_uNle, fun q hq => ?_⟩
    · have h1 : ∀ q ∈ cBk, q.1 < 18 ∧ q.2.1 < cLb.getD q.1 0 := by decide
      obtain ⟨e1, e2⟩ := h1 q hq
      have e3 := Nat.lt_of_lt_of_le e2 (q2 _ e1)
      rw [← q1 q hq]
      refine if_neg fun hh => ?_
      have e4 : q.2.1 = cn σ q.1 := by rw [hh.1]; exact hh.2
      omega
    · have h1 : ∀ q ∈ cLns, q.1 < 18 ∧ q.2.1 < cLb.getD q.1 0 := by decide
      obtain ⟨e1, e2⟩ := h1 q hq
      have e3 := Nat.lt_of_lt_of_le e2 (q2 _ e1)
      rw [← q3 q hq]
      refine if_neg fun hh => ?_
      have e4 : q.2.1 = cn σ q.1 := by rw [hh.1]; exact hh.2
      omega
  · show lvq (uN σ k n t) (if k' = 17 then (if k = 17 ∧ i = σ.1 17 then t else σ.2.2.1 i) else cTg k' f) (if k' = k ∧ i = σ.1 k then none else σ.2.2.2.2.2 k' i f) = true
    by_cases q : k' = k ∧ i = σ.1 k
    · rw [if_pos q]; rfl
    · rw [if_neg q]
      have hi2 : i < cn σ k' := by
        have h3 := hi
        rw [cn_uN] at h3
        by_cases e : k' = k
        · rw [if_pos e] at h3
          subst e
          have h4 : i ≠ cn σ k' := fun z => q ⟨rfl, z⟩
          omega
        · rwa [if_neg e] at h3
      have h2 := h.2 k' i f hk' hi2
      by_cases e : k' = 17
      · rw [if_pos e] at h2 ⊢
        rw [if_neg (fun hh => q ⟨by omega, by rw [hh.1]; exact hh.2⟩)]
        exact lvq_le cn_uNle h2
      · rw [if_neg e] at h2 ⊢
        exact lvq_le cn_uNle h2
section CN
variable {p : Program} {l : Launch} {e : Env} {R : Room} {s : State} {m : MethodId} {args : Array Value} {below : List Frame} {meth : Method} {c : Code} {H H1 : Heap} {locs : List Loc} {cells slots : Nat} {Q : State → Prop}
variable {cc : ByteArray} {nL pc : Nat} {own : String} {ls : Array Slot} {rest : List Value} {D : va_G} {ca : Nat → ClassId} {b : Bool} {A : Nat → Prop} {H0 : Heap} {σ0 σ : cS} {α0 α : cAl}
theorem cE_new {k n t q k' i' : Nat} (hv : cVd σ) (hk' : k' < 18) (hi' : i' < cn σ k') : cE ca (aN α σ k q) (uN σ k n t) k' i' = cE ca α σ k' i' := by
  have q0 : ¬ (k' = k ∧ i' = σ.1 k) := by
    rintro ⟨rfl, rfl⟩
    exact absurd hi' (Nat.lt_irrefl _)
  have eI : cI (uN σ k n t) k' i' = cI σ k' i' := funext fun f => if_neg q0
  have eJ : cJ (uN σ k n t) k' i' = cJ σ k' i' := funext fun f => if_neg q0
  have eR : cR (uN σ k n t) k' i' = cR σ k' i' := funext fun f => if_neg q0
  have el : cln (uN σ k n t) k' i' = cln σ k' i' := if_neg q0
  have em : ∀ (t' : Nat) (x : Option Nat), lvq σ t' x = true → x.map (aN α σ k q t') = x.map (α t') := fun t' x hx => by
    cases x with
    | none => rfl
    | some j => exact congrArg some (aN_o (of_decide_eq_true hx))
  unfold cE
  by_cases h12 : k' < 12
  · rw [if_pos h12, if_pos h12]
    refine congrArg (fun l => Sum.inr (k', l)) (List.map_congr_left fun f hf => ?_)
    unfold cV
    rw [eI, eJ, eR]
    have h2 := hv k' i' f hk' hi'
    rw [if_neg (by omega)] at h2
    rw [em _ _ h2]
  · rw [if_neg h12, if_neg h12, el]
    by_cases h15 : k' = 15
    · subst h15
      rw [eJ, if_pos rfl, if_pos rfl]
    · rw [if_neg h15, if_neg h15]
      by_cases h17 : k' = 17
      · subst h17
        have ec : cel (uN σ k n t) i' = cel σ i' := if_neg fun h => q0 ⟨h.1.symm, by rw [h.1]; exact h.2⟩
        rw [if_pos rfl, if_pos rfl, eR, ec]
        have e3 : (fun j => (cR σ 17 i' j).map (aN α σ k q (cel σ i'))) = fun j => (cR σ 17 i' j).map (α (cel σ i')) := funext fun j => em _ _ (by have h3 := hv 17 i' j hk' hi'; rwa [if_pos rfl] at h3)
        rw [e3]
      · rw [if_neg h17, if_neg h17, eI]
theorem cM_new {k n t q : Nat} (hk : k < 17) (hM : cM D ca b A H0 σ0 α0 σ α H locs) (hq : q = H.size) (h1 : va_at D cCl (q, cE ca (aN α σ k q) (uN σ k n t) k (cn σ k)) H1) (z1 : H1.size = H.size + 1) (o1 : ∀ x : Nat, x < H.size → H1[x]? = H[x]?) : cM D ca b A H0 σ0 α0 (uN σ k n t) (aN α σ k q) H1 locs := by
  subst hq
  have hlt : ∀ k' i', k' < 18 → i' < cn σ k' → α k' i' < H.size := fun k' i' hk' hi' => (hM.1 k' i' hk' hi').lt
  have hcase : ∀ k' i', i' < cn (uN σ k n t) k' → (k' = k ∧ i' = cn σ k) ∨ i' < cn σ k' := fun k' i' hi' => by
    rw [cn_uN] at hi'
    by_cases e : k' = k
    · rw [if_pos e] at hi'
      subst e
      rcases Nat.lt_or_ge i' (cn σ k') with g | g
      · exact Or.inr g
      · exact Or.inl ⟨rfl, by omega⟩
    · rw [if_neg e] at hi'; exact Or.inr hi'
  refine ⟨fun k' i' hk' hi' => ?_, ⟨fun k1 i1 k2 i2 hk1 hk2 h1' h2' he => ?_, fun k' i' hk' hi' h17 => ?_⟩, cSh_new (by omega) hM.2.2.1, ⟨Nat.le_trans hM.2.2.2.1.1 (by omega), fun x g1 g2 => (o1 x (Nat.lt_of_lt_of_le g1 hM.2.2.2.1.1)).trans (hM.2.2.2.1.2.1 x g1 g2), hM.2.2.2.1.2.2⟩, hM.2.2.2.2.1, hM.2.2.2.2.2.tr (cX_new (by omega))⟩
  · rcases hcase k' i' hi' with ⟨e1, e2⟩ | g
    · subst e1; subst e2
      rw [aN_n]; exact cAt.mk (by omega) h1
    · rw [aN_o g, cE_new hM.2.2.1.2 hk' g]
      exact (hM.1 k' i' hk' g).kept (o1 _ (hlt k' i' hk' g))
  · rcases hcase k1 i1 h1' with ⟨e1, e2⟩ | g1 <;> rcases hcase k2 i2 h2' with ⟨e3, e4⟩ | g2
    · exact ⟨by omega, by omega⟩
    · subst e1; subst e2
      rw [aN_n, aN_o g2] at he
      have h9 := hlt k2 i2 hk2 g2
      omega
    · subst e3; subst e4
      rw [aN_n, aN_o g1] at he
      have h9 := hlt k1 i1 hk1 g1
      omega
    · rw [aN_o g1, aN_o g2] at he; exact hM.2.1.1 k1 i1 k2 i2 hk1 hk2 g1 g2 he
  · rcases hcase k' i' hi' with ⟨e1, e2⟩ | g
    · subst e1; subst e2
      rw [aN_n]; exact hM.2.2.2.2.1 _ hM.2.2.2.1.1
    · rw [aN_o g]; exact hM.2.1.2 k' i' hk' g h17
theorem c_def : ∀ k, k < 12 → ∀ f, f < cNn k → defaultValue (cTy k f) = (if cK k f = 2 then .null else if cK k f = 1 then .long 0 else .int 0) := by decide +kernel
theorem c_new (C : cC p s m args c cc nL own D ca A α0) (hM : cM D ca b A s.heap σ0 α0 σ α H locs) {k index : Nat} (hk : k < 12) (hl : (Cond.classLink own index (cRn k) ∈ wl ∧ Cond.instantiable (cRn k) (cNn k) ∈ wl) ∧ Cond.initialized (cRn k) ∈ wl) (hcs : cells + 1 ≤ R.cells) (hss : slots + cNn k ≤ R.slots) (hdg : decode cc pc = .ok (.new index, 3))
    (kk : ∀ (H1 : Heap) (α1 : cAl), cX σ α (uN σ k 0 0) α1 → cM D ca b A s.heap σ0 α0 (uN σ k 0 0) α1 H1 locs → W p l e R s m args below meth c H1 locs (cells + 1) (slots + cNn k) Q (F0 m (pc + 3) ls (cr α1 k (some (cn σ k)) :: rest))) : W p l e R s m args below meth c H locs cells slots Q (F0 m pc ls rest) := by
  obtain ⟨hx, hb, hml, hown, hts, hK, -⟩ := C
  have hKn := hK.1 k _ (cCl_at k hk)
  refine W.newcK hx hb hown (hts _ hl.1.1) (hts _ hl.1.2) (hts _ hl.2) rfl hdg hcs hss hKn.2.1 rfl fun H1 kC hkC e1 z1 o1 => ?_
  have h1 := u_born (cTy k) hts (c_in k hk) hKn hkC e1 (c_tyok k hk)
  have hat : va_at D cCl (H.size, cE ca (aN α σ k H.size) (uN σ k 0 0) k (cn σ k)) H1 := by
    rw [cE_obj hk]
    refine ⟨_, cCl_at k hk, h1.to fun j hj => ?_⟩
    unfold vp_V
    rw [List.getD_eq_getElem?_getD, cV_at hj, c_def k hk j hj]
    show _ = cV (aN α σ k H.size) (uN σ k 0 0) k (cn σ k) j
    unfold cV
    rw [show cR (uN σ k 0 0) k (cn σ k) j = none from if_pos ⟨rfl, rfl⟩, show cJ (uN σ k 0 0) k (cn σ k) j = 0 from if_pos ⟨rfl, rfl⟩, show cI (uN σ k 0 0) k (cn σ k) j = 0 from if_pos ⟨rfl, rfl⟩]
    rfl
  have kk' := kk H1 _ (cX_new (q := H.size) (by omega)) (cM_new (by omega) hM rfl hat z1 o1)
  rw [show cr (aN α σ k H.size) k (some (cn σ k)) = .ref H.size from congrArg Value.ref aN_n] at kk'
  exact kk'
theorem c_newA (C : cC p s m args c cc nL own D ca A α0) (hM : cM D ca b A s.heap σ0 α0 σ α H locs) {k N : Nat} {atype : ArrayType} {n : Int32} (hk : ((12 ≤ k ∧ k < 17) ∧ (cTys ca)[k - 12]? = some (ca k, newarray.typeOf atype)) ∧ defaultValue (newarray.typeOf atype) = (if k = 15 then .long 0 else .int 0)) (harr : Cond.arrayClass (newarray.typeOf atype) ∈ wl) (hn : ¬ n < 0) (hN : n.toNatClampNeg = N) (hN2 : N ≤ 1000) (hcs : cells + 1 ≤ R.cells) (hss : slots + N ≤ R.slots) (hdg : decode cc pc = .ok (.newarray atype, 2))
    (kk : ∀ (H1 : Heap) (α1 : cAl), cX σ α (uN σ k N 0) α1 → cM D ca b A s.heap σ0 α0 (uN σ k N 0) α1 H1 locs → W p l e R s m args below meth c H1 locs (cells + 1) (slots + N) Q (F0 m (pc + 2) ls (cr α1 k (some (cn σ k)) :: rest))) : W p l e R s m args below meth c H locs cells slots Q (F0 m pc ls (.int n :: rest)) := by
  obtain ⟨hx, hb, hml, hown, hts, hK, -⟩ := C
  have hby : N * componentBytes (newarray.typeOf atype) ≤ 536870912 := by
    have h8 : componentBytes (newarray.typeOf atype) ≤ 8 := by cases atype <;> decide
    exact Nat.le_trans (Nat.mul_le_mul hN2 h8) (by decide)
  refine va_newaK hx hb (hts _ harr) rfl hdg rfl hn hN hby hcs hss rfl fun H1 cA e1 z1 o1 hAr hNm => ?_
  have hra := (hK.2 (k - 12) _ hk.1.2).2
  have hca : cA = ca k := by cases atype <;> exact Option.some.inj (hNm.symm.trans hra)
  have hat : va_at D cCl (H.size, cE ca (aN α σ k H.size) (uN σ k N 0) k (cn σ k)) H1 := by
    have el : cln (uN σ k N 0) k (cn σ k) = N := if_pos ⟨rfl, rfl⟩
    by_cases h15 : k = 15
    · subst h15
      rw [cE_arrJ, el]
      show H1[H.size]? = some (vp_cell _ _)
      rw [vp_cell_l, e1, hca, hk.2, if_pos rfl, show cJ (uN σ 15 N 0) 15 (cn σ 15) = fun _ => 0 from funext fun j => if_pos ⟨rfl, rfl⟩]
    · rw [cE_arr (by omega) (by omega), el]
      show H1[H.size]? = some (vp_cell _ _)
      rw [vp_cell_i, e1, hca, hk.2, if_neg h15, show cI (uN σ k N 0) k (cn σ k) = fun _ => 0 from funext fun j => if_pos ⟨rfl, rfl⟩]
  have kk' := kk H1 _ (cX_new (q := H.size) (by omega)) (cM_new (by omega) hM rfl hat z1 o1)
  rw [show cr (aN α σ k H.size) k (some (cn σ k)) = .ref H.size from congrArg Value.ref aN_n] at kk'
  exact kk'
theorem c_getrt (C : cC p s m args c cc nL own D ca A α0) (hM : cM D ca b A H0 σ0 α0 σ α H locs) {k i f t index : Nat} {x : Option Nat} (hd : dr σ k x = some i) (hk : cK k f = 2 ∧ cTg k f = t) (hl : Cond.fieldLink own index (cTt k f).1 (cTt k f).2.1 (cTt k f).2.2.1 ∈ wl) (hdg : decode cc pc = .ok (.getfield index, 3))
    (kk : W p l e R s m args below meth c H locs cells slots Q (F0 m (pc + 3) ls (cr α t (cR σ k i f) :: rest))) : W p l e R s m args below meth c H locs cells slots Q (F0 m pc ls (cr α k x :: rest)) := by
  refine c_getr C hM hd hk.1 hl hdg ?_
  rw [hk.2]
  exact kk
/-- the row of all verbs, the switch's map -/
theorem c_getVs (C : cC p s m args c cc nL own D ca A α0) (hM : cM D ca b A s.heap σ0 α0 σ α H locs) {index : Nat} (hl : Cond.fieldLink own index "Lorewick" "VERBS" "[LLorewick$Verb;" ∈ wl) (hdg : decode cc pc = .ok (.getstatic index, 3))
    (kk : W p l e R s m args below meth c H locs cells slots Q (F0 m (pc + 3) ls (cr α 20 (some 0) :: rest))) : W p l e R s m args below meth c H locs cells slots Q (F0 m pc ls rest) := by
  obtain ⟨hx, hb, hml, hown, hts, hK, hG⟩ := C
  refine va_gets hx hb hG.2.2.2.1.1 hM.2.2.2.1 hown (hts _ hl) (fun x h => h) hdg ?_
  rw [← congrFun (hM.2.2.2.2.2.2.2 20 (by omega)) 0]
  exact kk
theorem c_getSM (C : cC p s m args c cc nL own D ca A α0) (hM : cM D ca b A s.heap σ0 α0 σ α H locs) {index : Nat} (hl : Cond.fieldLink own index "Lorewick$1" "$SwitchMap$Lorewick$Verb" "[I" ∈ wl) (hdg : decode cc pc = .ok (.getstatic index, 3))
    (kk : W p l e R s m args below meth c H locs cells slots Q (F0 m (pc + 3) ls (cr α 20 (some 1) :: rest))) : W p l e R s m args below meth c H locs cells slots Q (F0 m pc ls rest) := by
  obtain ⟨hx, hb, hml, hown, hts, hK, hG⟩ := C
  refine va_gets hx hb hG.2.2.2.1.2.2.1 hM.2.2.2.1 hown (hts _ hl) (fun x h => h) hdg ?_
  rw [← congrFun (hM.2.2.2.2.2.2.2 20 (by omega)) 1]
  exact kk
theorem c_Vslen (C : cC p s m args c cc nL own D ca A α0) (hM : cM D ca b A s.heap σ0 α0 σ α H locs) (hdg : decode cc pc = .ok (.arraylength, 1))
    (kk : W p l e R s m args below meth c H locs cells slots Q (F0 m (pc + 1) ls (.int 15 :: rest))) : W p l e R s m args below meth c H locs cells slots Q (F0 m pc ls (cr α 20 (some 0) :: rest)) := by
  obtain ⟨hx, hb, hml, hown, hts, hK, hG⟩ := C
  show W p l e R s m args below meth c H locs cells slots Q (F0 m pc ls (.ref (α 20 0) :: rest))
  rw [congrFun (hM.2.2.2.2.2.2.2 20 (by omega)) 0]
  exact va_tlen hx hb hG.2.2.2.1.2.1 hM.2.2.2.1 (v := 15) rfl hdg kk
theorem c_Vsat (C : cC p s m args c cc nL own D ca A α0) (hM : cM D ca b A s.heap σ0 α0 σ α H locs) {j : Int32} (hin : vp_in j 15) (hdg : decode cc pc = .ok (.aaload, 1))
    (kk : W p l e R s m args below meth c H locs cells slots Q (F0 m (pc + 1) ls (cr α 18 (some j.toNatClampNeg) :: rest))) : W p l e R s m args below meth c H locs cells slots Q (F0 m pc ls (.int j :: cr α 20 (some 0) :: rest)) := by
  obtain ⟨hx, hb, hml, hown, hts, hK, hG⟩ := C
  show W p l e R s m args below meth c H locs cells slots Q (F0 m pc ls (.int j :: .ref (α 20 0) :: rest))
  rw [congrFun (hM.2.2.2.2.2.2.2 20 (by omega)) 0]
  refine vb_tq hx hb hG.2.2.2.1.2.1 hM.2.2.2.1 hin rfl hdg ?_
  rw [← congrFun (hM.2.2.2.2.2.2.2 18 (by omega)) j.toNatClampNeg]
  exact kk
theorem c_SMat (C : cC p s m args c cc nL own D ca A α0) (hM : cM D ca b A s.heap σ0 α0 σ α H locs) {j : Int32} (hin : vp_in j 15) (hdg : decode cc pc = .ok (.iaload, 1))
    (kk : W p l e R s m args below meth c H locs cells slots Q (F0 m (pc + 1) ls (.int (vM.getD j.toNatClampNeg 0) :: rest))) : W p l e R s m args below meth c H locs cells slots Q (F0 m pc ls (.int j :: cr α 20 (some 1) :: rest)) := by
  obtain ⟨hx, hb, hml, hown, hts, hK, hG⟩ := C
  show W p l e R s m args below meth c H locs cells slots Q (F0 m pc ls (.int j :: .ref (α 20 1) :: rest))
  rw [congrFun (hM.2.2.2.2.2.2.2 20 (by omega)) 1]
  exact va_ti hx hb hG.2.2.2.1.2.2.2 hM.2.2.2.1 hin rfl hdg kk
/-- a text -/
theorem c_ldct (C : cC p s m args c cc nL "Lorewick" D ca A α0) (hM : cM D ca b A s.heap σ0 α0 σ α H locs) {index t : Nat} (hi : (index, t) ∈ [(545, 14), (590, 15), (654, 16)]) (hdg : decode cc pc = .ok (.ldc_w index, 3))
    (kk : W p l e R s m args below meth c H locs cells slots Q (F0 m (pc + 3) ls (cr α 19 (some t) :: rest))) : W p l e R s m args below meth c H locs cells slots Q (F0 m pc ls rest) := by
  obtain ⟨hx, hb, hml, hown, hts, hK, hG⟩ := C
  have h1 : ∃ tx, vk_R "Lorewick" index tx (α0 19 t) s := by
    obtain ⟨f1, f2, f3, f4⟩ := hG.2.2.2.2.1
    simp only [List.mem_cons, List.not_mem_nil, or_false, Prod.mk.injEq] at hi
    rcases hi with ⟨rfl, rfl⟩ | ⟨rfl, rfl⟩ | ⟨rfl, rfl⟩
    · exact ⟨_, f2⟩
    · exact ⟨_, f3⟩
    · exact ⟨_, f4⟩
  obtain ⟨tx, hZ⟩ := h1
  rw [show cr α 19 (some t) = .ref (α0 19 t) from congrArg Value.ref (congrFun (hM.2.2.2.2.2.2.2 19 (by omega)) t)] at kk
  intro T hT X
  obtain ⟨t2, a1, b1⟩ := kk T hT X
  exact ⟨t2, X.ldcStringW hx hown hZ.1 hZ.2 (g := F0 m pc ls rest) rfl (by rw [hb]; exact hdg) t2 a1, b1⟩
/-- a guard on a verb: one of the fifteen -/
def dv (x : Option Nat) : Option Nat := match x with
  | none => none
  | some i => if i < 15 then some i else none
theorem dv_of {x : Option Nat} {i : Nat} (h : dv x = some i) : x = some i ∧ i < 15 := by
  cases x with
  | none => cases h
  | some j =>
    unfold dv at h
    by_cases q : j < 15
    · simp only [if_pos q] at h; cases h; exact ⟨rfl, q⟩
    · simp only [if_neg q] at h; cases h
theorem lv_to {ls : Array Slot} {n : Nat} {a b : List (Nat × Value)} (h : lv_has ls n a) (e : a = b) : lv_has ls n b := e ▸ h
theorem cr_to18 {σ σ' : cS} {α α1 : cAl} (h : cX σ α σ' α1) {k : Nat} {x : Option Nat} (hk : 18 ≤ k) : cr α k x = cr α1 k x := by show va_rf (x.map (α k)) = va_rf (x.map (α1 k)); rw [h.2.2 k hk]
theorem W_st {st st' : List Value} (e' : st = st') (k : W p l e R s m args below meth c H locs cells slots Q (F0 m pc ls st')) : W p l e R s m args below meth c H locs cells slots Q (F0 m pc ls st) := e' ▸ k
theorem cat_le (v : Value) : v.category ≤ 2 := by cases v <;> exact Nat.le_of_ble_eq_true rfl
theorem cats_le : ∀ (st : List Value), st.length ≤ 4 → (st.map fun v => v.category).sum ≤ 8 := by
  have h : ∀ st : List Value, (st.map fun v => v.category).sum ≤ 2 * st.length := fun st => by
    induction st with
    | nil => exact Nat.le_refl _
    | cons v st ih =>
      have := cat_le v
      simp only [List.map_cons, List.sum_cons, List.length_cons]
      omega
  intro st hst
  have := h st
  omega
theorem cr_to {σ σ' : cS} {α α1 : cAl} (h : cX σ α σ' α1) {k : Nat} {x : Option Nat} (hx : lvq σ k x = true) : cr α k x = cr α1 k x := h.val hx
end CN
