section CDD
variable {p : Program} {l : Launch} {e : Env} {R : Room} {s : State} {m : MethodId} {args : Array Value} {below : List Frame} {meth : Method} {c : Code} {H H1 : Heap} {locs : List Loc} {cells slots : Nat} {Q : State → Prop}
variable {cc : ByteArray} {nL pc : Nat} {own : String} {ls : Array Slot} {rest st : List Value} {D : va_G} {ca : Nat → ClassId} {b : Bool} {A : Nat → Prop} {H0 : Heap} {σ0 σ : cS} {α0 α : cAl}
theorem c_out17 (C : cC p s m args c cc nL own D ca A α0) (hM : cM D ca b A s.heap σ0 α0 σ α H locs) (h17 : 0 < cn σ0 17) : ¬ A (α 17 0) := by
  rw [hM.2.2.2.2.2.2.1 17 0 h17]
  exact C.2.2.2.2.2.2.2.2.2.2.2.2.2.2.2.2.2
theorem cE_R {k i f t : Nat} {v : Option Nat} (ht : k = 17) (hc : cel σ i = t) : cE ca α (uR σ k i f v) k i = .inl (ca 17, cln σ 17 i, .inr (.inr (.inr (.inr (fun j => if j = f then v.map (α t) else (cR σ 17 i j).map (α t)))))) := by
  subst ht
  rw [cE_arrR]
  show Sum.inl (ca 17, cln σ 17 i, _) = _
  have e1 : (fun j => (cR (uR σ 17 i f v) 17 i j).map (α (cel (uR σ 17 i f v) i))) = fun j => if j = f then v.map (α t) else (cR σ 17 i j).map (α t) := funext fun j => by
    show (if 17 = 17 ∧ i = i ∧ j = f then v else cR σ 17 i j).map (α (cel σ i)) = _
    rw [hc]
    by_cases h : j = f
    · rw [if_pos ⟨rfl, rfl, h⟩, if_pos h]
    · rw [if_neg (fun q => h q.2.2), if_neg h]
  rw [e1]
theorem c_qast (C : cC p s m args c cc nL own D ca A α0) (hM : cM D ca b A s.heap σ0 α0 σ α H locs) (h17 : 0 < cn σ0 17) {i t n : Nat} {x y : Option Nat} {j : Int32} (hd : dr σ 17 x = some i) (hz : ¬ i = 0) (ht : cel σ i = t) (hy : dr σ t y = some n) (ht2 : t = 7 ∨ t = 9) (hca : Cond.castable (cRn t) "java/lang/Object" ∈ wn) (hin : vp_in j (cln σ 17 i)) (hdg : decode cc pc = .ok (.aastore, 1))
    (kk : ∀ (H1 : Heap) (locs1 : List Loc), cM D ca b A s.heap σ0 α0 (uR σ 17 i j.toNatClampNeg y) α H1 locs1 → W p l e R s m args below meth c H1 locs1 cells slots Q (F0 m (pc + 1) ls rest)) : W p l e R s m args below meth c H locs cells slots Q (F0 m pc ls (cr α t y :: .int j :: cr α 17 x :: rest)) := by
  have hout := c_out17 C hM h17
  obtain ⟨hx, hb, hml, hown, hts, hK, hG⟩ := id C
  obtain ⟨rfl, hi⟩ := dr_of hd
  obtain ⟨rfl, hn⟩ := dr_of hy
  have hz2 : ¬ (17 = 17 ∧ i = 0) := fun q => hz q.2
  obtain ⟨q0, hq0⟩ := cL_at (ca := ca) (α := α) (σ := σ) (k := 17) (by omega) hi hz2
  obtain ⟨q1, hq1⟩ := cL_at (ca := ca) (α := α) (σ := σ) (k := t) (by omega) hn (by omega)
  have ha := hq0
  rw [cE_arrR, ht] at ha
  have hv := hq1
  rw [cE_obj (by omega)] at hv
  show W p l e R s m args below meth c H locs cells slots Q (F0 m pc ls (.ref (α t n) :: .int j :: .ref (α 17 i) :: rest))
  refine va_astqO (D := D) (cl := cCl) (tys := cTys ca) (ws := cL ca α σ) (A := A) (H0 := s.heap) (r := (cRn t, cTt t, cNn t)) hx hb hK (cL_P hM.1) (cL_D hM.2.1) hM.2.2.2.1 q0 5 q1 t ha rfl (hG.1.2.2.2 _ hca) hv (cCl_at t (by omega)) hin hdg fun H1 locs1 g1 g2 g3 => ?_
  have e1 : (Sum.inl (ca 17, cln σ 17 i, .inr (.inr (.inr (.inr (va_up (fun j' => (cR σ 17 i j').map (α t)) j.toNatClampNeg (some (α t n))))))) : va_E) = cE ca α (uR σ 17 i j.toNatClampNeg (some n)) 17 i := by
    rw [cE_R rfl ht]
    rfl
  rw [e1] at g1
  have hlv : lvq σ (if 17 = 17 then cel σ i else cTg 17 j.toNatClampNeg) (some n) = true := by rw [if_pos rfl, ht]; exact decide_eq_true hn
  refine kk H1 locs1 ⟨cL_set hM.1 hM.2.1 (by omega) hi hz2 hq0 g1 (fun a h1 h2 => by
    have h3 : a < s.heap.size := Nat.lt_of_not_le fun q => h2 (hM.2.2.2.2.1 a q)
    rw [g3.2.1 a h3 h2, hM.2.2.2.1.2.1 a h3 h2]) rfl (Or.inl hout) (fun k' i' hne _ _ => uR_e k' i' hne), hM.2.1, cSh_r hM.2.2.1 (fun _ => Or.inl (by omega)) hlv, g3, hM.2.2.2.2⟩

theorem cM_newL {k n t q : Nat} (hk : k < 18) (h170 : 0 < cn σ0 17) (hM : cM D ca b A H0 σ0 α0 σ α H locs) (hA0 : ∀ x : Nat, H0.size ≤ x → A x) (hout : ¬ A (α 17 0)) (h1 : va_P D cCl (cL ca α σ ++ [(q, cE ca (aN α σ k q) (uN σ k n t) k (cn σ k))]) H1) (h2 : va_D A (cL ca α σ ++ [(q, cE ca (aN α σ k q) (uN σ k n t) k (cn σ k))])) (h3 : va_S A H0 H1 locs) : cM D ca b A H0 σ0 α0 (uN σ k n t) (aN α σ k q) H1 locs := by
  have hnew : (cL ca α σ ++ [(q, cE ca (aN α σ k q) (uN σ k n t) k (cn σ k))])[(cL ca α σ).length]? = some (q, cE ca (aN α σ k q) (uN σ k n t) k (cn σ k)) := by rw [List.getElem?_append_right (Nat.le_refl _)]; simp
  have hold : ∀ k' i', k' < 18 → i' < cn σ k' → ¬ (k' = 17 ∧ i' = 0) → ∃ j : Nat, j < (cL ca α σ).length ∧ (cL ca α σ ++ [(q, cE ca (aN α σ k q) (uN σ k n t) k (cn σ k))])[j]? = some (α k' i', cE ca α σ k' i') := fun k' i' hk' hi' hz => by
    obtain ⟨j, hj⟩ := cL_at (ca := ca) (α := α) hk' hi' hz
    have hlt := (List.getElem?_eq_some_iff.mp hj).1
    exact ⟨j, hlt, by rw [List.getElem?_append_left hlt]; exact hj⟩
  have hAq : A q := h2.2 _ _ hnew
  have hne : ∀ k' i', k' < 18 → i' < cn σ k' → α k' i' ≠ q := fun k' i' hk' hi' e => by
    by_cases z : k' = 17 ∧ i' = 0
    · obtain ⟨rfl, rfl⟩ := z
      exact hout (e ▸ hAq)
    · obtain ⟨j, hj1, hj2⟩ := hold k' i' hk' hi' z
      have := h2.1 j _ _ _ hj2 hnew e
      omega
  have hcase : ∀ k' i', i' < cn (uN σ k n t) k' → (k' = k ∧ i' = cn σ k) ∨ i' < cn σ k' := fun k' i' hi' => by
    rw [cn_uN] at hi'
    by_cases e : k' = k
    · rw [if_pos e] at hi'
      subst e
      rcases Nat.lt_or_ge i' (cn σ k') with g | g
      · exact Or.inr g
      · exact Or.inl ⟨rfl, by omega⟩
    · rw [if_neg e] at hi'; exact Or.inr hi'
  refine ⟨fun k' i' hk' hi' => ?_, ⟨fun k1 i1 k2 i2 hk1 hk2 h1' h2' he => ?_, fun k' i' hk' hi' h17 => ?_⟩, cSh_new hk hM.2.2.1, h3, hM.2.2.2.2.1, hM.2.2.2.2.2.tr (cX_new hk)⟩
  · rcases hcase k' i' hi' with ⟨e1, e2⟩ | g
    · subst e1; subst e2
      have h171 := hM.2.2.2.2.2.1 17
      rw [aN_n]
      refine cAt.mk (fun zz => ?_) (h1 _ _ hnew)
      obtain ⟨rfl, zz⟩ := zz
      omega
    · rw [aN_o g, cE_new hM.2.2.1.2 hk' g]
      by_cases z : k' = 17 ∧ i' = 0
      · obtain ⟨rfl, rfl⟩ := z
        have h5 := hM.1 17 0 hk' g
        have h6 : α 17 0 < H0.size := Nat.lt_of_not_le fun qq => hout (hA0 _ qq)
        exact h5.kept (by rw [h3.2.1 _ h6 hout, hM.2.2.2.1.2.1 _ h6 hout])
      · obtain ⟨j, hj1, hj2⟩ := hold k' i' hk' g z
        exact cAt.mk z (h1 j _ hj2)
  · rcases hcase k1 i1 h1' with ⟨e1, e2⟩ | g1 <;> rcases hcase k2 i2 h2' with ⟨e3, e4⟩ | g2
    · exact ⟨by omega, by omega⟩
    · subst e1; subst e2
      rw [aN_n, aN_o g2] at he
      exact absurd he.symm (hne k2 i2 hk2 g2)
    · subst e3; subst e4
      rw [aN_n, aN_o g1] at he
      exact absurd he (hne k1 i1 hk1 g1)
    · rw [aN_o g1, aN_o g2] at he; exact hM.2.1.1 k1 i1 k2 i2 hk1 hk2 g1 g2 he
  · rcases hcase k' i' hi' with ⟨e1, e2⟩ | g
    · subst e1; subst e2
      rw [aN_n]; exact hAq
    · rw [aN_o g]; exact hM.2.1.2 k' i' hk' g h17
theorem c_newq (C : cC p s m args c cc nL own D ca A α0) (hM : cM D ca b A s.heap σ0 α0 σ α H locs) (h17 : 0 < cn σ0 17) (t : Nat) {N index : Nat} {n : Int32} (hl : Cond.classLink own index "java/lang/Object" ∈ wl) (hn : ¬ n < 0) (hN : n.toNatClampNeg = N) (hN2 : N ≤ 1000) (hcs : cells + 1 ≤ R.cells) (hss : slots + N ≤ R.slots) (hdg : decode cc pc = .ok (.anewarray index, 3))
    (kk : ∀ (H1 : Heap) (α1 : cAl), cX σ α (uN σ 17 N t) α1 → cM D ca b A s.heap σ0 α0 (uN σ 17 N t) α1 H1 locs → W p l e R s m args below meth c H1 locs (cells + 1) (slots + N) Q (F0 m (pc + 3) ls (cr α1 17 (some (cn σ 17)) :: rest))) : W p l e R s m args below meth c H locs cells slots Q (F0 m pc ls (.int n :: rest)) := by
  have hout := c_out17 C hM h17
  obtain ⟨hx, hb, hml, hown, hts, hK, hG⟩ := id C
  refine va_newq (D := D) (cl := cCl) (tys := cTys ca) (ws := cL ca α σ) (A := A) (H0 := s.heap) hx hb hown (hts _ hl) hG.2.2.2.2.2.2.2.2.2.2.1 hK (cL_P hM.1) (cL_D hM.2.1) hM.2.2.2.1 hM.2.2.2.2.1 hn hN (by omega) hcs hss hdg fun q cA H1 g1 g2 g3 g4 => ?_
  have r1 := (hK.2 5 (ca 17, .object "java/lang/Object") rfl).2
  have r2 := (g1.2 6 (cA, .object "java/lang/Object") rfl).2
  obtain ⟨-, -, -, -, -, e1⟩ := r1
  obtain ⟨-, -, -, -, -, e2⟩ := r2
  have hca : cA = ca 17 := Option.some.inj (e2.symm.trans e1)
  subst hca
  have e3 : (Sum.inl (ca 17, N, .inr (.inr (.inr (.inr (fun _ => none))))) : va_E) = cE ca (aN α σ 17 q) (uN σ 17 N t) 17 (cn σ 17) := by
    rw [cE_arrR, show cln (uN σ 17 N t) 17 (cn σ 17) = N from if_pos ⟨rfl, rfl⟩]
    have e4 : (fun j => (cR (uN σ 17 N t) 17 (cn σ 17) j).map (aN α σ 17 q (cel (uN σ 17 N t) (cn σ 17)))) = fun _ => none := funext fun j => by
      rw [show cR (uN σ 17 N t) 17 (cn σ 17) j = none from if_pos ⟨rfl, rfl⟩]
      rfl
    rw [e4]
  rw [e3] at g2 g3
  have kk' := kk H1 _ (cX_new (q := q) (by omega)) (cM_newL (by omega) h17 hM hM.2.2.2.2.1 hout g2 g3 g4)
  rw [show cr (aN α σ 17 q) 17 (some (cn σ 17)) = .ref q from congrArg Value.ref aN_n] at kk'
  exact kk'
/-- references copied from the start of one row to the start of another -/
def uC (σ : cS) (i j n : Nat) : cS := (σ.1, σ.2.1, σ.2.2.1, σ.2.2.2.1, σ.2.2.2.2.1, (fun k' i' f' => if k' = 17 ∧ i' = j ∧ f' < n then σ.2.2.2.2.2 17 i f' else σ.2.2.2.2.2 k' i' f'))
theorem uC_e {i j n : Nat} (k' i' : Nat) (q : ¬ (k' = 17 ∧ i' = j)) : cE ca α (uC σ i j n) k' i' = cE ca α σ k' i' := by
  have e : ∀ f', cR (uC σ i j n) k' i' f' = cR σ k' i' f' := fun f' => if_neg fun h => q ⟨h.1, h.2.1⟩
  have e3 : cV α (uC σ i j n) k' i' = cV α σ k' i' := funext fun f' => by unfold cV; rw [e f']; rfl
  unfold cE
  rw [e3]
  by_cases h : k' = 17
  · subst h; rw [show cR (uC σ i j n) 17 i' = cR σ 17 i' from funext e]; rfl
  · rw [if_neg h, if_neg h]; rfl
theorem c_copyq (C : cC p s m args c cc nL own D ca A α0) (hM : cM D ca b A s.heap σ0 α0 σ α H locs) (h17 : 0 < cn σ0 17) {i j t index : Nat} {x y : Option Nat} {n : Int32} (hd : dr σ 17 x = some i) (hd2 : dr σ 17 y = some j) (hz : ¬ i = 0) (hz2 : ¬ j = 0) (hij : ¬ i = j) (ht : cel σ i = t) (ht1 : cel σ j = t) (ht2 : t = 7 ∨ t = 9) (hca : Cond.castable (cRn t) "java/lang/Object" ∈ wn)
    (hl : Cond.methodLink own index arraycopyName ∈ wl) (hn : ¬ n < 0) (hi1 : n.toNatClampNeg ≤ cln σ 17 i) (hj1 : n.toNatClampNeg ≤ cln σ 17 j) (hls : ls.size = nL) (hfr : 1 ≤ R.frames) (hlo : (rest.map fun v => v.category).sum + 18 ≤ R.locals) (hdg : decode cc pc = .ok (.invokestatic index, 3))
    (kk : ∀ (H1 : Heap) (locs1 : List Loc), cM D ca b A s.heap σ0 α0 (uC σ i j n.toNatClampNeg) α H1 locs1 → W p l e R s m args below meth c H1 locs1 cells slots Q (F0 m (pc + 3) ls rest)) : W p l e R s m args below meth c H locs cells slots Q (F0 m pc ls (.int n :: .int 0 :: cr α 17 y :: .int 0 :: cr α 17 x :: rest)) := by
  have hout := c_out17 C hM h17
  obtain ⟨hx, hb, hml, hown, hts, hK, hG⟩ := id C
  obtain ⟨rfl, hi⟩ := dr_of hd
  obtain ⟨rfl, hj⟩ := dr_of hd2
  have hz3 : ¬ (17 = 17 ∧ i = 0) := fun q => hz q.2
  have hz4 : ¬ (17 = 17 ∧ j = 0) := fun q => hz2 q.2
  obtain ⟨q0, hq0⟩ := cL_at (ca := ca) (α := α) (σ := σ) (k := 17) (by omega) hi hz3
  obtain ⟨q1, hq1⟩ := cL_at (ca := ca) (α := α) (σ := σ) (k := 17) (by omega) hj hz4
  have ha := hq0
  rw [cE_arrR, ht] at ha
  have ha1 := hq1
  rw [cE_arrR, ht1] at ha1
  show W p l e R s m args below meth c H locs cells slots Q (F0 m pc ls (.int n :: .int 0 :: .ref (α 17 j) :: .int 0 :: .ref (α 17 i) :: rest))
  have h00 : ((0 : Int32).toNatClampNeg) = 0 := by decide
  refine va_copyq (D := D) (cl := cCl) (tys := cTys ca) (ws := cL ca α σ) (A := A) (H0 := s.heap) (C := cRn t) (E0 := "java/lang/Object") (E1 := "java/lang/Object") hx hb (hml.trans hls.symm) hown (hts _ hl) (hts _ (wl_in (i := 1070) (by decide +kernel))) (hts _ (wl_in (i := 1069) (by decide +kernel))) (hts _ (wl_in (i := 37) (by decide +kernel))) hK (cL_P hM.1) (cL_D hM.2.1) hM.2.2.2.1 q0 q1 5 5 ha ha1 rfl rfl (by decide) (by decide) hn (by rw [h00]; omega) (by rw [h00]; omega) (fun f hf y hy => ?_) (fun comp c0 f1 f2 => ?_) hfr hlo hdg fun H1 locs1 g1 g2 g3 => ?_
  · rw [h00, Nat.zero_add] at hy
    have hv := hM.2.2.1.2 17 i f (by omega) hi
    rw [if_pos rfl, ht] at hv
    cases hc : cR σ 17 i f with
    | none => rw [hc] at hy; cases hy
    | some z =>
      rw [hc] at hy hv
      cases hy
      have hP := hM.1.one (k := t) (by omega) (of_decide_eq_true hv)
      rw [cE_obj (by omega)] at hP
      exact va_recv hK hP (cCl_at t (by omega)) (q0 := 0) rfl
  · obtain ⟨c1, t1, f3, f4, f5⟩ := Cond.castable_spec (va_Nw.use (A := args) rfl (hG.1.2.2.2 _ hca))
    cases f2.symm.trans f3
    cases f1.symm.trans f4
    exact f5
  · have e1 : (Sum.inl (ca 17, cln σ 17 j, .inr (.inr (.inr (.inr (va_cpy (fun j' => (cR σ 17 i j').map (α t)) (fun j' => (cR σ 17 j j').map (α t)) (0 : Int32).toNatClampNeg (0 : Int32).toNatClampNeg n.toNatClampNeg))))) : va_E) = cE ca α (uC σ i j n.toNatClampNeg) 17 j := by
      rw [cE_arrR, h00]
      show _ = Sum.inl (ca 17, cln σ 17 j, _)
      have e2 : (va_cpy (fun j' => (cR σ 17 i j').map (α t)) (fun j' => (cR σ 17 j j').map (α t)) 0 0 n.toNatClampNeg) = fun j' => (cR (uC σ i j n.toNatClampNeg) 17 j j').map (α (cel (uC σ i j n.toNatClampNeg) j)) := funext fun f => by
        show (if 0 ≤ f ∧ f < 0 + n.toNatClampNeg then (cR σ 17 i (0 + (f - 0))).map (α t) else (cR σ 17 j f).map (α t)) = (if 17 = 17 ∧ j = j ∧ f < n.toNatClampNeg then cR σ 17 i f else cR σ 17 j f).map (α (cel σ j))
        rw [ht1]
        by_cases h : f < n.toNatClampNeg
        · rw [if_pos ⟨by omega, by omega⟩, if_pos ⟨rfl, rfl, h⟩]; simp
        · rw [if_neg (by omega), if_neg (fun q => h q.2.2)]
      rw [e2]
    rw [e1] at g1
    refine kk H1 locs1 ⟨cL_set hM.1 hM.2.1 (by omega) hj hz4 hq1 g1 (fun a h1 h2 => by
      have h3 : a < s.heap.size := Nat.lt_of_not_le fun q => h2 (hM.2.2.2.2.1 a q)
      rw [g3.2.1 a h3 h2, hM.2.2.2.1.2.1 a h3 h2]) rfl (Or.inl hout) (fun k' i' hne _ _ => uC_e k' i' hne), hM.2.1, ⟨fun hbt => ?_, fun k' i' f' hk' hi' => ?_⟩, g3, hM.2.2.2.2⟩
    · obtain ⟨w1, w2, w3⟩ := hM.2.2.1.1 hbt
      refine ⟨fun q hq => ?_, w2, w3⟩
      have hk : ∀ q ∈ cBk, q.1 < 7 := by decide
      rw [← w1 q hq]
      exact if_neg fun hh => by have := hk q hq; omega
    · show lvq σ _ (if k' = 17 ∧ i' = j ∧ f' < n.toNatClampNeg then cR σ 17 i f' else cR σ k' i' f') = true
      by_cases q : k' = 17 ∧ i' = j ∧ f' < n.toNatClampNeg
      · rw [if_pos q]
        obtain ⟨rfl, rfl, -⟩ := q
        have hv := hM.2.2.1.2 17 i f' (by omega) hi
        rw [if_pos rfl, ht] at hv
        rw [if_pos rfl]
        show lvq σ (cel σ i') _ = true
        rw [ht1]
        exact hv
      · rw [if_neg q]
        exact hM.2.2.1.2 k' i' f' hk' hi'
theorem c_getmc (C : cC p s m args c cc nL own D ca A α0) (hM : cM D ca b A H0 σ0 α0 σ α H locs) {i index : Nat} {x : Option Nat} (hd : dr σ 10 x = some i) (hl : Cond.fieldLink own index "java/util/ArrayList" "modCount" "I" ∈ wl) (hdg : decode cc pc = .ok (.getfield index, 3))
    (kk : W p l e R s m args below meth c H locs cells slots Q (F0 m (pc + 3) ls (.int (cI σ 10 i 0) :: rest))) : W p l e R s m args below meth c H locs cells slots Q (F0 m pc ls (cr α 10 x :: rest)) := by
  obtain ⟨hx, hb, hml, hown, hts, hK, -⟩ := C
  obtain ⟨rfl, hi⟩ := dr_of hd
  have hP := hM.1.one (k := 10) (by omega) hi
  rw [cE_obj (by omega)] at hP
  show W p l e R s m args below meth c H locs cells slots Q (F0 m pc ls (.ref (α 10 i) :: rest))
  exact va_get (D := D) (ci := 10) (C := cRn 10) (T := cTt 10) (N := cNn 10) hx hb hts (c_in 10 (by omega)) hown hK hP 0 rfl (cCl_at 10 (by omega)) 0 (by decide) (hts _ hl) (fun x h => u_same (hts _ (wl_in (i := 204) (by decide +kernel))) x h) (by rw [cV_at (by decide)]; rfl) hdg kk
theorem c_putmc (C : cC p s m args c cc nL own D ca A α0) (hM : cM D ca b A s.heap σ0 α0 σ α H locs) (h17 : 0 < cn σ0 17) {i index : Nat} {x : Option Nat} {v : Int32} (hd : dr σ 10 x = some i) (hl : Cond.fieldLink own index "java/util/ArrayList" "modCount" "I" ∈ wl) (hdg : decode cc pc = .ok (.putfield index, 3))
    (kk : ∀ (H1 : Heap) (locs1 : List Loc), cM D ca b A s.heap σ0 α0 (uI σ 10 i 0 v) α H1 locs1 → W p l e R s m args below meth c H1 locs1 cells slots Q (F0 m (pc + 3) ls rest)) : W p l e R s m args below meth c H locs cells slots Q (F0 m pc ls (.int v :: cr α 10 x :: rest)) := by
  have hout := c_out17 C hM h17
  obtain ⟨hx, hb, hml, hown, hts, hK, hG⟩ := id C
  obtain ⟨rfl, hi⟩ := dr_of hd
  obtain ⟨q0, hq0⟩ := cL_at (ca := ca) (α := α) (σ := σ) (k := 10) (by omega) hi (by omega)
  have ha := hq0
  rw [cE_obj (by omega)] at ha
  show W p l e R s m args below meth c H locs cells slots Q (F0 m pc ls (.int v :: .ref (α 10 i) :: rest))
  refine va_put (D := D) (ci := 10) (C := cRn 10) (T := cTt 10) (N := cNn 10) (ty := .int) (v := .int v) hx hb hts (c_in 10 (by omega)) (cTy 10) (c_tyok 10 (by omega)) (c_nm 10 (by omega)) hown hK (cL_P hM.1) (cL_D hM.2.1) hM.2.2.2.1 q0 ha (cCl_at 10 (by omega)) 0 (by decide) (hts _ hl) (fun x h => u_same (hts _ (wl_in (i := 204) (by decide +kernel))) x h) rfl (by decide +kernel) rfl rfl (by rw [List.length_map, List.length_range]; decide) hdg fun H1 locs1 g1 g2 g3 => ?_
  rw [uI_o (ca := ca) (by omega) (by decide)] at g1
  refine kk H1 locs1 ⟨cL_set hM.1 hM.2.1 (by omega) hi (by omega) hq0 g1 (fun a h1 h2 => by
    have h3 : a < s.heap.size := Nat.lt_of_not_le fun q => h2 (hM.2.2.2.2.1 a q)
    rw [g3.2.1 a h3 h2, hM.2.2.2.1.2.1 a h3 h2]) rfl (Or.inl hout) (fun k' i' hne _ _ => uI_e k' i' hne), hM.2.1, cSh_n hM.2.2.1 rfl rfl rfl, g3, hM.2.2.2.2⟩
end CDD
