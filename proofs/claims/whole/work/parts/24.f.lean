/-! The start: the law from its entry, out of what is there at the start. -/
section F24
variable {p : Program} {l : Launch} {e : Env} {s : State} {m : MethodId} {below : List Frame} {meth : Method} {c : Code} {Q : State → Prop} {b x1 x2 : Nat} {ls : Array Slot} {D : va_G} {H4 : Heap}
theorem va_K_nil : va_K D [] [] s := ⟨fun k q h => by simp at h, fun k q h => by simp at h⟩
theorem start_a (hfix : p.tables.exec = Jvm.exec ∧ c.code = code ∧ c.maxLocals = 9 ∧ s.vm.findClass RV = some m.cls ∧ ∀ w ∈ wl, w.before #[Value.ref b] s = true) (hl : lv_has ls 9 [(2, .ref x2), (1, .ref x1), (0, .ref b)])
    (kk : ∀ (bo bd : Nat) (cO cOd : ClassId) (H6 : Heap) (ls' : Array Slot), va_K D [] [(cO, .long)] s → va_K D [] [(cOd, .double)] s → va_P D [] (lO bo cO fun _ => 0) H6 → va_P D [] (lOd bd cOd fun _ => 0) H6 → H4.size ≤ bo → bo < bd → bd < H6.size → va_S (fun q => H4.size ≤ q) H4 H6 [] → lv_has ls' 9 [(5, .int (nI 0)), (4, .ref bd), (3, .ref bo), (2, .ref x2), (1, .ref x1), (0, .ref b)] → W p l e room_1 s m #[Value.ref b] below meth c H6 [] 74 8326 Q (F0 m 28 ls' [])) :
    W p l e room_1 s m #[Value.ref b] below meth c H4 [] 72 8324 Q (F0 m 16 ls []) := by
  obtain ⟨hx, hb, hml, hown, hts⟩ := hfix
  refine lv_iconst (v := (1 : Int32)) hx hb dLaw_law_16 (by decide) ?_
  refine va_newa (D := D) (cl := []) (tys := []) (ws := []) (A := fun q => H4.size ≤ q) (H0 := H4) (atype := .long) (ty := .long) (N' := 1) (a0 := (1, .inr (.inl fun _ => 0))) hx hb (hts _ (wl_in (i := 165) (by decide +kernel))) rfl va_K_nil (fun k q h => by simp at h) ⟨fun i j p q h => by simp at h, fun k q h => by simp at h⟩ va_S.rf (fun q h => h) (fun cA => by rw [vp_cell_l]; rfl) (by decide) rfl (Nat.le_of_ble_eq_true rfl) (Nat.le_of_ble_eq_true rfl) (Nat.le_of_ble_eq_true rfl) dLaw_law_17 (fun bo cO H5 hK5 hP5 hD5 hS5 => ?_)
  have hb4 : H4.size ≤ bo := hD5.2 0 _ rfl
  have hb5 : bo < H5.size := (hP5 0 _ rfl).lt
  refine lv_astore_n (lv' := [(3, .ref bo), (2, .ref x2), (1, .ref x1), (0, .ref b)]) hx hb dLaw_law_19 rfl hl (by decide) rfl (fun ls hl => ?_)
  refine lv_iconst (v := (1 : Int32)) hx hb dLaw_law_20 (by decide) ?_
  refine va_newa (D := D) (cl := []) (tys := []) (ws := []) (A := fun q => H5.size ≤ q) (H0 := H5) (atype := .double) (ty := .double) (N' := 1) (a0 := (1, .inr (.inr (.inr (.inl fun _ => 0))))) hx hb (hts _ (wl_in (i := 2424) (by decide +kernel))) rfl va_K_nil (fun k q h => by simp at h) ⟨fun i j p q h => by simp at h, fun k q h => by simp at h⟩ va_S.rf (fun q h => h) (fun cA => by rw [vp_cell_d]; rfl) (by decide) rfl (Nat.le_of_ble_eq_true rfl) (Nat.le_of_ble_eq_true rfl) (Nat.le_of_ble_eq_true rfl) dLaw_law_21 (fun bd cOd H6 hK6 hP6 hD6 hS6 => ?_)
  have hb6 : H5.size ≤ bd := hD6.2 0 _ rfl
  have hb7 : bd < H6.size := (hP6 0 _ rfl).lt
  refine lv_astore (lv' := [(4, .ref bd), (3, .ref bo), (2, .ref x2), (1, .ref x1), (0, .ref b)]) hx hb dLaw_law_23 hl (by decide) rfl (fun ls hl => ?_)
  refine lv_iconst (v := nI 0) hx hb dLaw_law_25 (by decide) ?_
  refine lv_istore (lv' := [(5, .int (nI 0)), (4, .ref bd), (3, .ref bo), (2, .ref x2), (1, .ref x1), (0, .ref b)]) hx hb dLaw_law_26 hl (by decide) rfl (fun ls hl => ?_)
  refine kk bo bd cO cOd H6 ls hK5 hK6 (fun k q hk => (hP5 k q hk).kept (hS6.2.1 _ (hP5 k q hk).lt (Nat.not_le.mpr (hP5 k q hk).lt))) hP6 hb4 (by omega) hb7 ⟨Nat.le_trans hS5.1 hS6.1, fun q h1 h2 => ?_, fun z hz => by cases hz⟩ hl
  rw [hS6.2.1 q (Nat.lt_of_lt_of_le h1 hS5.1) (Nat.not_le.mpr (Nat.lt_of_lt_of_le h1 hS5.1)), hS5.2.1 q h1 h2]
theorem start_all {L : Nat} {xs : Nat → Int32} {Dm : va_G} {ca cm : Nat → ClassId} {α0 : cAl} (hst : l.stackTraces = false) (hL : L ≤ 2560) (hr : meth.sig.returnType = ret) (hlocks : meth.locks = false)
    (hfix : p.tables.exec = Jvm.exec ∧ c.code = code ∧ c.maxLocals = 9 ∧ s.vm.findClass RV = some m.cls ∧ ∀ w ∈ wl, w.before #[Value.ref b] s = true) (hX : va_X b L xs s s.heap) (hbl : b < s.heap.size) (F : sF s D ca α0) (hKm : va_K Dm mCl (mTy cm) s) (hN : lNc s) (hl : lv_has ls 9 [(0, .ref b)]) :
    W p l e room_1 s m #[Value.ref b] below meth c s.heap [] 0 0 (lw_Z below #[Value.ref b] s) (F0 m 0 ls []) := by
  obtain ⟨hK, hG, hP0, h170⟩ := id F
  refine start_c hfix F hl (fun α2 H2 ls2 c1 c2 c3 c4 c5 c6 hl2 => ?_)
  refine start_m (Dm := Dm) (cm := cm) hfix hKm c6.1 hl2 (fun μ H4 ls4 m1 m2 m3 hl4 => ?_)
  refine start_a (D := D) hfix hl4 (fun bo bd cO cOd H6 ls6 k1 k2 o1 o2 r1 r2 r3 s6 hl6 => ?_)
  have hz2 := c6.1
  have hz4 := m3.1
  have hz6 := s6.1
  have hlt : ∀ k i, k < 18 → i < cn cZ k → α2 k i < H2.size := fun k i hk hi => (c1 k i hk hi).lt
  have hkeep : ∀ q, q < H2.size → H6[q]? = H2[q]? := fun q hq => by
    rw [s6.2.1 q (Nat.lt_of_lt_of_le hq hz4) (Nat.not_le.mpr (Nat.lt_of_lt_of_le hq hz4)), m3.2.1 q hq (Nat.not_le.mpr hq)]
  have X : lX p s m c b L xs D Dm ca cm cO cOd α2 H2.size H4.size H6.size bo bd := by
    refine ⟨hfix, ⟨hX, hbl⟩, ⟨hK, hKm, k1, k2⟩, hN, (hG.narrow (fun q hq => hq.1)).to c4 c5, ⟨hz2, hz4, r1, by omega, by omega, r3, by omega⟩, by rw [c5]; exact h170⟩
  have J : lJ s D Dm ca cm cO cOd α2 H2.size H4.size H6.size bo bd μ cZ (mI mZ 46 100) α2 (fun _ => 0) (fun _ => 0) H6 [] := by
    refine ⟨⟨fun k i hk hi => (c1 k i hk hi).kept (hkeep _ (hlt k i hk hi)), ⟨c2.1, fun k i hk hi h => ⟨c2.2 k i hk hi h, fun z => ?_⟩⟩, c3, fun k _ => rfl, rfl, rfl⟩, ⟨fun k q hk => (m1 k q hk).kept (s6.2.1 _ (m1 k q hk).lt (Nat.not_le.mpr (m1 k q hk).lt)), m2.1, fun k q hk => ⟨m2.2 k q hk, (m1 k q hk).lt⟩⟩, ⟨o1, o2⟩, ⟨by omega, fun q h1 h2 => ?_, fun z hz => by cases hz⟩, Nat.le_refl _⟩
    · have := hlt k i hk hi
      omega
    · rw [hkeep q (Nat.lt_of_lt_of_le h1 hz2)]
      exact c6.2.1 q h1 h2
  exact law_loop hst hL X hr hlocks 513 0 74 8326 g0 cZ (mI mZ 46 100) α2 _ _ H6 [] ls6 (Nat.zero_le _) (by omega) (by decide) (by decide) g0_rel J (lv_sub hl6 [5, 4, 3, 2, 1, 0] rfl)
end F24
