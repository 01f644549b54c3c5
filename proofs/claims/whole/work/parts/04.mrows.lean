/-! The reference's instructions over the one state: a row each. -/
theorem m_fitz {v : Int32} (hn : v &&& 1 = v) : fits .boolean (.int v) = true := by
  have h : v = 0 ∨ v = 1 := by
    have h2 : v.toBitVec &&& 1#32 = v.toBitVec := congrArg Int32.toBitVec hn
    have h3 : v.toBitVec = 0#32 ∨ v.toBitVec = 1#32 := by
      generalize v.toBitVec = w at h2
      have h4 := congrArg BitVec.toNat h2
      rw [BitVec.toNat_and, show (1#32 : BitVec 32).toNat = 1 from rfl, Nat.and_one_is_mod] at h4
      rcases (show w.toNat = 0 ∨ w.toNat = 1 by omega) with e | e
      · exact Or.inl (BitVec.eq_of_toNat_eq e)
      · exact Or.inr (BitVec.eq_of_toNat_eq e)
    exact h3.imp (fun e => Int32.toBitVec_inj.mp e) (fun e => Int32.toBitVec_inj.mp e)
  rcases h with rfl | rfl <;> rfl
section MR
variable {p : Program} {l : Launch} {e : Env} {R : Room} {s : State} {m : MethodId} {args : Array Value} {below : List Frame} {meth : Method} {c : Code} {H : Heap} {locs : List Loc} {cells slots : Nat} {Q : State → Prop}
variable {cc : ByteArray} {nL pc : Nat} {ls : Array Slot} {rest : List Value} {D : va_G} {ca : Nat → ClassId} {α : Nat → Nat} {A : Nat → Prop} {H0 : Heap} {σ : mS}
theorem m_geti (C : mC p s m args c cc nL D ca) (hM : mM D ca α A H0 σ H locs) {k index : Nat} (hk : mKd k = 0 ∨ mKd k = 6) (hi : mIx k = index) (hd : decode cc pc = .ok (.getfield index, 3))
    (kk : W p l e R s m args below meth c H locs cells slots Q (F0 m (pc + 3) ls (.int (σ.1 k) :: rest))) : W p l e R s m args below meth c H locs cells slots Q (F0 m pc ls (.ref (α 0) :: rest)) := by
  obtain ⟨hx, hb, hml, hown, hts, hK⟩ := C
  subst hi
  have hl : k < 53 := mKd_lt (by omega)
  exact va_get (D := D) (ci := 0) (C := RX12) (T := TX12) (N := 53) hx hb hts mw_in hown hK hM.1 0 rfl rfl k hl (hts _ (mw_lnk hl)) (fun x h => by rw [← h]; rw [show (TX12 k).1 = RX12 from mw_own k hl]) (by rw [List.getElem?_map, List.getElem?_range hl]; simp [mF, hk]) hd kk
theorem m_getl (C : mC p s m args c cc nL D ca) (hM : mM D ca α A H0 σ H locs) {k index : Nat} (hk : mKd k = 1) (hi : mIx k = index) (hd : decode cc pc = .ok (.getfield index, 3))
    (kk : W p l e R s m args below meth c H locs cells slots Q (F0 m (pc + 3) ls (.long (σ.2.1 k) :: rest))) : W p l e R s m args below meth c H locs cells slots Q (F0 m pc ls (.ref (α 0) :: rest)) := by
  obtain ⟨hx, hb, hml, hown, hts, hK⟩ := C
  subst hi
  have hl : k < 53 := mKd_lt (by omega)
  exact va_get (D := D) (ci := 0) (C := RX12) (T := TX12) (N := 53) hx hb hts mw_in hown hK hM.1 0 rfl rfl k hl (hts _ (mw_lnk hl)) (fun x h => by rw [← h]; rw [show (TX12 k).1 = RX12 from mw_own k hl]) (by rw [List.getElem?_map, List.getElem?_range hl]; simp [mF, hk]) hd kk
theorem m_geta (C : mC p s m args c cc nL D ca) (hM : mM D ca α A H0 σ H locs) {k index : Nat} (hk : 2 ≤ mKd k ∧ mKd k ≤ 5) (hi : mIx k = index) (hd : decode cc pc = .ok (.getfield index, 3))
    (kk : W p l e R s m args below meth c H locs cells slots Q (F0 m (pc + 3) ls (.ref (α (k + 1)) :: rest))) : W p l e R s m args below meth c H locs cells slots Q (F0 m pc ls (.ref (α 0) :: rest)) := by
  obtain ⟨hx, hb, hml, hown, hts, hK⟩ := C
  subst hi
  have hl : k < 53 := mKd_lt (by omega)
  exact va_get (D := D) (ci := 0) (C := RX12) (T := TX12) (N := 53) hx hb hts mw_in hown hK hM.1 0 rfl rfl k hl (hts _ (mw_lnk hl)) (fun x h => by rw [← h]; rw [show (TX12 k).1 = RX12 from mw_own k hl]) (by rw [List.getElem?_map, List.getElem?_range hl]; simp [mF, show ¬ (mKd k = 0 ∨ mKd k = 6) by omega, show ¬ mKd k = 1 by omega]) hd kk
theorem m_puti (C : mC p s m args c cc nL D ca) (hM : mM D ca α A H0 σ H locs) {k index : Nat} {v : Int32} (hk : mKd k = 0) (hi : mIx k = index) (hd : decode cc pc = .ok (.putfield index, 3))
    (kk : ∀ (H1 : Heap) (locs1 : List Loc), mM D ca α A H0 (mI σ k v) H1 locs1 → W p l e R s m args below meth c H1 locs1 cells slots Q (F0 m (pc + 3) ls rest)) : W p l e R s m args below meth c H locs cells slots Q (F0 m pc ls (.int v :: .ref (α 0) :: rest)) := by
  obtain ⟨hx, hb, hml, hown, hts, hK⟩ := C
  subst hi
  have hl : k < 53 := mKd_lt (by omega)
  refine va_put (D := D) (ci := 0) (C := RX12) (T := TX12) (N := 53) (ty := .int) (v := .int v) hx hb hts mw_in tyX12 tyX12_ok nmX12 hown hK hM.1 hM.2.1 hM.2.2 0 rfl rfl k hl (hts _ (mw_lnk hl)) (fun x h => by rw [← h]; rw [show (TX12 k).1 = RX12 from mw_own k hl]) (mw_nf k hl (by omega)) (mw_tyi k hl hk) rfl rfl (by simpa using hl) hd (fun H1 locs1 h1 h2 h3 => ?_)
  rw [mW_I (Or.inl hk)] at h1 h2
  exact kk H1 locs1 ⟨h1, h2, h3⟩
theorem m_putz (C : mC p s m args c cc nL D ca) (hM : mM D ca α A H0 σ H locs) {k index : Nat} {v : Int32} (hk : mKd k = 6) (hn : v &&& 1 = v) (hi : mIx k = index) (hd : decode cc pc = .ok (.putfield index, 3))
    (kk : ∀ (H1 : Heap) (locs1 : List Loc), mM D ca α A H0 (mI σ k v) H1 locs1 → W p l e R s m args below meth c H1 locs1 cells slots Q (F0 m (pc + 3) ls rest)) : W p l e R s m args below meth c H locs cells slots Q (F0 m pc ls (.int v :: .ref (α 0) :: rest)) := by
  obtain ⟨hx, hb, hml, hown, hts, hK⟩ := C
  subst hi
  have hl : k < 53 := mKd_lt (by omega)
  refine va_put (D := D) (ci := 0) (C := RX12) (T := TX12) (N := 53) (ty := .boolean) (v := .int v) hx hb hts mw_in tyX12 tyX12_ok nmX12 hown hK hM.1 hM.2.1 hM.2.2 0 rfl rfl k hl (hts _ (mw_lnk hl)) (fun x h => by rw [← h]; rw [show (TX12 k).1 = RX12 from mw_own k hl]) (mw_nf k hl (by omega)) (mw_tyz k hl hk) (by show Value.int (v &&& 1) = _; rw [hn]) (m_fitz hn) (by simpa using hl) hd (fun H1 locs1 h1 h2 h3 => ?_)
  rw [mW_I (Or.inr hk)] at h1 h2
  exact kk H1 locs1 ⟨h1, h2, h3⟩
theorem m_putl (C : mC p s m args c cc nL D ca) (hM : mM D ca α A H0 σ H locs) {k index : Nat} {v : Int64} (hk : mKd k = 1) (hi : mIx k = index) (hd : decode cc pc = .ok (.putfield index, 3))
    (kk : ∀ (H1 : Heap) (locs1 : List Loc), mM D ca α A H0 (mJ σ k v) H1 locs1 → W p l e R s m args below meth c H1 locs1 cells slots Q (F0 m (pc + 3) ls rest)) : W p l e R s m args below meth c H locs cells slots Q (F0 m pc ls (.long v :: .ref (α 0) :: rest)) := by
  obtain ⟨hx, hb, hml, hown, hts, hK⟩ := C
  subst hi
  have hl : k < 53 := mKd_lt (by omega)
  refine va_put (D := D) (ci := 0) (C := RX12) (T := TX12) (N := 53) (ty := .long) (v := .long v) hx hb hts mw_in tyX12 tyX12_ok nmX12 hown hK hM.1 hM.2.1 hM.2.2 0 rfl rfl k hl (hts _ (mw_lnk hl)) (fun x h => by rw [← h]; rw [show (TX12 k).1 = RX12 from mw_own k hl]) (mw_nf k hl (by omega)) (mw_tyl k hl hk) rfl rfl (by simpa using hl) hd (fun H1 locs1 h1 h2 h3 => ?_)
  rw [mW_J hk] at h1 h2
  exact kk H1 locs1 ⟨h1, h2, h3⟩
theorem m_iald (C : mC p s m args c cc nL D ca) (hM : mM D ca α A H0 σ H locs) {k : Nat} {i : Int32} (hk : mKd k = 2) (hin : vp_in i (mLn k)) (hd : decode cc pc = .ok (.iaload, 1))
    (kk : W p l e R s m args below meth c H locs cells slots Q (F0 m (pc + 1) ls (.int (σ.2.2.1 k i.toNatClampNeg) :: rest))) : W p l e R s m args below meth c H locs cells slots Q (F0 m pc ls (.int i :: .ref (α (k + 1)) :: rest)) := by
  obtain ⟨hx, hb, hml, hown, hts, hK⟩ := C
  obtain ⟨q, hq, h⟩ := mW_at (ca := ca) (α := α) (σ := σ) (mAl_of (k := k) (by omega))
  rw [show mCo σ k = .inl (σ.2.2.1 k) from if_neg (by omega), hk] at h
  exact va_iald hx hb hK hM.1 (q + 1) 0 h rfl hin hd kk
theorem m_zald (C : mC p s m args c cc nL D ca) (hM : mM D ca α A H0 σ H locs) {k : Nat} {i : Int32} (hk : mKd k = 3) (hin : vp_in i (mLn k)) (hd : decode cc pc = .ok (.baload, 1))
    (kk : W p l e R s m args below meth c H locs cells slots Q (F0 m (pc + 1) ls (.int (σ.2.2.1 k i.toNatClampNeg) :: rest))) : W p l e R s m args below meth c H locs cells slots Q (F0 m pc ls (.int i :: .ref (α (k + 1)) :: rest)) := by
  obtain ⟨hx, hb, hml, hown, hts, hK⟩ := C
  obtain ⟨q, hq, h⟩ := mW_at (ca := ca) (α := α) (σ := σ) (mAl_of (k := k) (by omega))
  rw [show mCo σ k = .inl (σ.2.2.1 k) from if_neg (by omega), hk] at h
  exact va_zald hx hb hK hM.1 (q + 1) 1 h rfl hin hd kk
theorem m_cald (C : mC p s m args c cc nL D ca) (hM : mM D ca α A H0 σ H locs) {k : Nat} {i : Int32} (hk : mKd k = 4) (hin : vp_in i (mLn k)) (hd : decode cc pc = .ok (.caload, 1))
    (kk : W p l e R s m args below meth c H locs cells slots Q (F0 m (pc + 1) ls (.int (σ.2.2.1 k i.toNatClampNeg) :: rest))) : W p l e R s m args below meth c H locs cells slots Q (F0 m pc ls (.int i :: .ref (α (k + 1)) :: rest)) := by
  obtain ⟨hx, hb, hml, hown, hts, hK⟩ := C
  obtain ⟨q, hq, h⟩ := mW_at (ca := ca) (α := α) (σ := σ) (mAl_of (k := k) (by omega))
  rw [show mCo σ k = .inl (σ.2.2.1 k) from if_neg (by omega), hk] at h
  exact va_cald hx hb hK hM.1 (q + 1) 2 h rfl hin hd kk
theorem m_lald (C : mC p s m args c cc nL D ca) (hM : mM D ca α A H0 σ H locs) {k : Nat} {i : Int32} (hk : mKd k = 5) (hin : vp_in i (mLn k)) (hd : decode cc pc = .ok (.laload, 1))
    (kk : W p l e R s m args below meth c H locs cells slots Q (F0 m (pc + 1) ls (.long (σ.2.2.2 k i.toNatClampNeg) :: rest))) : W p l e R s m args below meth c H locs cells slots Q (F0 m pc ls (.int i :: .ref (α (k + 1)) :: rest)) := by
  obtain ⟨hx, hb, hml, hown, hts, hK⟩ := C
  obtain ⟨q, hq, h⟩ := mW_at (ca := ca) (α := α) (σ := σ) (mAl_of (k := k) (by omega))
  rw [show mCo σ k = .inr (.inl (σ.2.2.2 k)) from if_pos hk, hk] at h
  exact va_lald hx hb hK hM.1 (q + 1) 3 h rfl hin hd kk
theorem m_iast (C : mC p s m args c cc nL D ca) (hM : mM D ca α A H0 σ H locs) {k : Nat} {i v : Int32} (hk : mKd k = 2) (hin : vp_in i (mLn k)) (hd : decode cc pc = .ok (.iastore, 1))
    (kk : ∀ (H1 : Heap) (locs1 : List Loc), mM D ca α A H0 (mA σ k i.toNatClampNeg v) H1 locs1 → W p l e R s m args below meth c H1 locs1 cells slots Q (F0 m (pc + 1) ls rest)) : W p l e R s m args below meth c H locs cells slots Q (F0 m pc ls (.int v :: .int i :: .ref (α (k + 1)) :: rest)) := by
  obtain ⟨hx, hb, hml, hown, hts, hK⟩ := C
  obtain ⟨q, hq, h⟩ := mW_at (ca := ca) (α := α) (σ := σ) (mAl_of (k := k) (by omega))
  rw [show mCo σ k = .inl (σ.2.2.1 k) from if_neg (by omega)] at h
  refine va_iast hx hb hK hM.1 hM.2.1 hM.2.2 (q + 1) 0 h (by rw [hk]; rfl) hin hd (fun H1 locs1 h1 h2 h3 => ?_)
  rw [mW_A hq (by omega)] at h1 h2
  exact kk H1 locs1 ⟨h1, h2, h3⟩
theorem m_zast (C : mC p s m args c cc nL D ca) (hM : mM D ca α A H0 σ H locs) {k : Nat} {i v : Int32} (hk : mKd k = 3) (hin : vp_in i (mLn k)) (hd : decode cc pc = .ok (.bastore, 1))
    (kk : ∀ (H1 : Heap) (locs1 : List Loc), mM D ca α A H0 (mA σ k i.toNatClampNeg (v &&& 1)) H1 locs1 → W p l e R s m args below meth c H1 locs1 cells slots Q (F0 m (pc + 1) ls rest)) : W p l e R s m args below meth c H locs cells slots Q (F0 m pc ls (.int v :: .int i :: .ref (α (k + 1)) :: rest)) := by
  obtain ⟨hx, hb, hml, hown, hts, hK⟩ := C
  obtain ⟨q, hq, h⟩ := mW_at (ca := ca) (α := α) (σ := σ) (mAl_of (k := k) (by omega))
  rw [show mCo σ k = .inl (σ.2.2.1 k) from if_neg (by omega)] at h
  refine va_zast hx hb hK hM.1 hM.2.1 hM.2.2 (q + 1) 1 h (by rw [hk]; rfl) hin hd (fun H1 locs1 h1 h2 h3 => ?_)
  rw [show vp_nar .boolean v = v &&& 1 from rfl, mW_A hq (by omega)] at h1 h2
  exact kk H1 locs1 ⟨h1, h2, h3⟩
theorem m_cast (C : mC p s m args c cc nL D ca) (hM : mM D ca α A H0 σ H locs) {k : Nat} {i v : Int32} (hk : mKd k = 4) (hin : vp_in i (mLn k)) (hd : decode cc pc = .ok (.castore, 1))
    (kk : ∀ (H1 : Heap) (locs1 : List Loc), mM D ca α A H0 (mA σ k i.toNatClampNeg v.toUInt32.toUInt16.toUInt32.toInt32) H1 locs1 → W p l e R s m args below meth c H1 locs1 cells slots Q (F0 m (pc + 1) ls rest)) : W p l e R s m args below meth c H locs cells slots Q (F0 m pc ls (.int v :: .int i :: .ref (α (k + 1)) :: rest)) := by
  obtain ⟨hx, hb, hml, hown, hts, hK⟩ := C
  obtain ⟨q, hq, h⟩ := mW_at (ca := ca) (α := α) (σ := σ) (mAl_of (k := k) (by omega))
  rw [show mCo σ k = .inl (σ.2.2.1 k) from if_neg (by omega)] at h
  refine va_cast hx hb hK hM.1 hM.2.1 hM.2.2 (q + 1) 2 h (by rw [hk]; rfl) hin hd (fun H1 locs1 h1 h2 h3 => ?_)
  rw [show vp_nar .char v = v.toUInt32.toUInt16.toUInt32.toInt32 from rfl, mW_A hq (by omega)] at h1 h2
  exact kk H1 locs1 ⟨h1, h2, h3⟩
theorem m_last (C : mC p s m args c cc nL D ca) (hM : mM D ca α A H0 σ H locs) {k : Nat} {i : Int32} {v : Int64} (hk : mKd k = 5) (hin : vp_in i (mLn k)) (hd : decode cc pc = .ok (.lastore, 1))
    (kk : ∀ (H1 : Heap) (locs1 : List Loc), mM D ca α A H0 (mL σ k i.toNatClampNeg v) H1 locs1 → W p l e R s m args below meth c H1 locs1 cells slots Q (F0 m (pc + 1) ls rest)) : W p l e R s m args below meth c H locs cells slots Q (F0 m pc ls (.long v :: .int i :: .ref (α (k + 1)) :: rest)) := by
  obtain ⟨hx, hb, hml, hown, hts, hK⟩ := C
  obtain ⟨q, hq, h⟩ := mW_at (ca := ca) (α := α) (σ := σ) (mAl_of (k := k) (by omega))
  rw [show mCo σ k = .inr (.inl (σ.2.2.2 k)) from if_pos hk] at h
  refine va_last hx hb hK hM.1 hM.2.1 hM.2.2 (q + 1) 3 h (by rw [hk]; rfl) hin hd (fun H1 locs1 h1 h2 h3 => ?_)
  rw [mW_L hq hk] at h1 h2
  exact kk H1 locs1 ⟨h1, h2, h3⟩
end MR
/-- a method's words: its own code, and all the good words of the tables -/
abbrev mWs (y : MethodName) (cc : ByteArray) (nL : Nat) (ret : Option FieldType) : List Cond := Cond.code y cc nL ret :: wl
/-- contracts: the answer is o's first part, the state behind it the second -/
abbrev mMetI (l : Launch) (y : MethodName) (cc : ByteArray) (nL : Nat) (ret : Option FieldType) (rm : Room) (D : va_G) (ca : Nat → ClassId) (α : Nat → Nat) (A : Nat → Prop) (σ : mS) (As : List Value) (o : Int32 × mS) : Prop :=
  Met l y (mWs y cc nL ret) rm (va_Pc (.ref (α 0) :: As) (mB D ca α A σ)) (va_Qi (fun r u => (r, u) = o) (mB D ca α A) A) 0 0 A
abbrev mMetL (l : Launch) (y : MethodName) (cc : ByteArray) (nL : Nat) (ret : Option FieldType) (rm : Room) (D : va_G) (ca : Nat → ClassId) (α : Nat → Nat) (A : Nat → Prop) (σ : mS) (As : List Value) (o : Int64 × mS) : Prop :=
  Met l y (mWs y cc nL ret) rm (va_Pc (.ref (α 0) :: As) (mB D ca α A σ)) (va_Ql (fun r u => (r, u) = o) (mB D ca α A) A) 0 0 A
abbrev mMetF (l : Launch) (y : MethodName) (cc : ByteArray) (nL : Nat) (ret : Option FieldType) (rm : Room) (D : va_G) (ca : Nat → ClassId) (α : Nat → Nat) (A : Nat → Prop) (σ : mS) (As : List Value) (o : UInt32 × mS) : Prop :=
  Met l y (mWs y cc nL ret) rm (va_Pc (.ref (α 0) :: As) (mB D ca α A σ)) (va_Qf (fun r u => (r, u) = o) (mB D ca α A) A) 0 0 A
abbrev mMetD (l : Launch) (y : MethodName) (cc : ByteArray) (nL : Nat) (ret : Option FieldType) (rm : Room) (D : va_G) (ca : Nat → ClassId) (α : Nat → Nat) (A : Nat → Prop) (σ : mS) (As : List Value) (o : UInt64 × mS) : Prop :=
  Met l y (mWs y cc nL ret) rm (va_Pc (.ref (α 0) :: As) (mB D ca α A σ)) (va_Qd (fun r u => (r, u) = o) (mB D ca α A) A) 0 0 A
abbrev mMetV (l : Launch) (y : MethodName) (cc : ByteArray) (nL : Nat) (ret : Option FieldType) (rm : Room) (D : va_G) (ca : Nat → ClassId) (α : Nat → Nat) (A : Nat → Prop) (σ : mS) (As : List Value) (o : mS) : Prop :=
  Met l y (mWs y cc nL ret) rm (va_Pc (.ref (α 0) :: As) (mB D ca α A σ)) (va_Qv (fun u => u = o) (mB D ca α A) A) 0 0 A
abbrev mMetSI (l : Launch) (y : MethodName) (cc : ByteArray) (nL : Nat) (ret : Option FieldType) (rm : Room) (D : va_G) (ca : Nat → ClassId) (α : Nat → Nat) (A : Nat → Prop) (σ : mS) (As : List Value) (o : Int32) : Prop :=
  Met l y (mWs y cc nL ret) rm (va_Pc As (mB D ca α A σ)) (va_Qi (fun r u => (r, u) = (o, σ)) (mB D ca α A) A) 0 0 A
abbrev mMetSL (l : Launch) (y : MethodName) (cc : ByteArray) (nL : Nat) (ret : Option FieldType) (rm : Room) (D : va_G) (ca : Nat → ClassId) (α : Nat → Nat) (A : Nat → Prop) (σ : mS) (As : List Value) (o : Int64) : Prop :=
  Met l y (mWs y cc nL ret) rm (va_Pc As (mB D ca α A σ)) (va_Ql (fun r u => (r, u) = (o, σ)) (mB D ca α A) A) 0 0 A
/-- what a call of y by its number asks of the tables -/
def mCallV (own : String) (index : Nat) (y : MethodName) (cc : ByteArray) (nL : Nat) (ret : Option FieldType) (n : Nat) : Prop :=
  (Cond.methodLink own index y ∈ wl ∧ Cond.instanceMethod y ∈ wl ∧ Cond.selects RX12 y y ∈ wl ∧ Cond.initialized RX12 ∈ wl ∧ Cond.code y cc nL ret ∈ wl) ∧ y.cls = RX12 ∧ y.cls ≠ "java/lang/invoke/MethodHandle" ∧ y.cls ≠ "java/lang/invoke/VarHandle" ∧ (parseMethodDescriptor y.desc).map (fun d => d.parameters.length) = some n
def mCallS (own : String) (index : Nat) (y : MethodName) (cc : ByteArray) (nL : Nat) (ret : Option FieldType) (n : Nat) : Prop :=
  (Cond.methodLink own index y ∈ wl ∧ Cond.static y ∈ wl ∧ Cond.initialized y.cls ∈ wl ∧ Cond.code y cc nL ret ∈ wl) ∧ y.cls ≠ "java/lang/invoke/MethodHandle" ∧ y.cls ≠ "java/lang/invoke/VarHandle" ∧ (parseMethodDescriptor y.desc).map (fun d => d.parameters.length) = some n
theorem mws_good {own C : String} {index : Nat} {y : MethodName} {cc : ByteArray} {nL : Nat} {ret : Option FieldType} (h : Cond.methodLink own index y ∈ wl ∧ Cond.instanceMethod y ∈ wl ∧ Cond.selects C y y ∈ wl ∧ Cond.initialized C ∈ wl ∧ Cond.code y cc nL ret ∈ wl) : GoodIn wl (wsV own index C y (mWs y cc nL ret)) := by
  intro w hw
  have hm : w ∈ wl := by
    simp only [wsV, mWs, List.cons_append, List.nil_append, List.mem_cons] at hw
    rcases hw with rfl | rfl | rfl | rfl | rfl | hw
    · exact h.1
    · exact h.2.1
    · exact h.2.2.1
    · exact h.2.2.2.1
    · exact h.2.2.2.2
    · exact hw
  exact ⟨hm, good_of_word (wl_good w hm)⟩
theorem mws_goodS {own : String} {index : Nat} {y : MethodName} {cc : ByteArray} {nL : Nat} {ret : Option FieldType} (h : Cond.methodLink own index y ∈ wl ∧ Cond.static y ∈ wl ∧ Cond.initialized y.cls ∈ wl ∧ Cond.code y cc nL ret ∈ wl) : GoodIn wl (va_wsS own index y (mWs y cc nL ret)) := by
  intro w hw
  have hm : w ∈ wl := by
    simp only [va_wsS, mWs, List.cons_append, List.nil_append, List.mem_cons] at hw
    rcases hw with rfl | rfl | rfl | rfl | hw
    · exact h.1
    · exact h.2.1
    · exact h.2.2.1
    · exact h.2.2.2
    · exact hw
  exact ⟨hm, good_of_word (wl_good w hm)⟩
section MCL
variable {p : Program} {l : Launch} {e : Env} {R : Room} {s : State} {m : MethodId} {args : Array Value} {below : List Frame} {meth : Method} {c : Code} {H : Heap} {locs : List Loc} {Q : State → Prop}
variable {cc : ByteArray} {nL pc : Nat} {ls : Array Slot} {rest st : List Value} {D : va_G} {ca : Nat → ClassId} {α : Nat → Nat} {A : Nat → Prop} {H0 : Heap} {σ : mS}
variable {y : MethodName} {by' : ByteArray} {maxL n index : Nat} {ret : Option FieldType} {rm : Room} {As : List Value}
theorem mM_call {H1 : Heap} {locs1 : List Loc} {u : mS} {t : State} (hB : mB D ca α A u t) (ht : t.heap = H1) (hS : va_S A H0 H1 locs1) : mM D ca α A H0 u H1 locs1 := ⟨by rw [← ht]; exact hB.1, hB.2.2, hS⟩
theorem m_cVi {o : Int32 × mS} (C : mC p s m args c cc nL D ca) (hM : mM D ca α A H0 σ H locs) (hc : mMetI l y by' maxL ret rm D ca α A σ As o) (hw : mCallV RX12 index y by' maxL ret n) (hrm : rm.cells = 0 ∧ rm.slots = 0) (hR : rm.frames + 1 ≤ R.frames ∧ 8 + (maxL + 11) + rm.locals ≤ R.locals) (hn : As.length = n) (hst : st = As.reverse ++ .ref (α 0) :: rest) (hrest : (rest.map fun v => v.category).sum ≤ 8) (hls : ls.size = nL) (hd : decode cc pc = .ok (.invokevirtual index, 3)) (hRc : R.cells = 0 ∧ R.slots = 0)
    (kk : ∀ (H1 : Heap) (locs1 : List Loc), mM D ca α A H0 o.2 H1 locs1 → W p l e R s m args below meth c H1 locs1 0 0 Q (F0 m (pc + 3) ls (.int o.1 :: rest))) : W p l e R s m args below meth c H locs 0 0 Q (F0 m pc ls st) := by
  obtain ⟨hx, hb, hml, hown, hts, hK⟩ := C
  refine va_calli (va_runV (As := As) (rest := rest) ⟨hx, hb, hml, hown, hts⟩ hc (cwV n hts (mws_good hw.1) rfl hrm.1 hrm.2 hw.2 hR) ⟨mB_blind, va_recv hK hM.1 (ci := 0) (q0 := 0) rfl rfl, fun U hU hW => ⟨rfl, by rw [hU]; exact hM.1, va_K.moved hW.alike hK, hM.2.1⟩⟩ rfl hn hls hst (lv_room hrest) hd ⟨by omega, by omega⟩) hM.2.2 (fun q _ h => h) (fun q h => h) (fun r u t H1 locs1 ht hvm hw2 hB hz1 hk1 hS => ?_)
  subst hw2
  exact kk H1 locs1 (mM_call hB ht hS)
theorem m_cVl {o : Int64 × mS} (C : mC p s m args c cc nL D ca) (hM : mM D ca α A H0 σ H locs) (hc : mMetL l y by' maxL ret rm D ca α A σ As o) (hw : mCallV RX12 index y by' maxL ret n) (hrm : rm.cells = 0 ∧ rm.slots = 0) (hR : rm.frames + 1 ≤ R.frames ∧ 8 + (maxL + 11) + rm.locals ≤ R.locals) (hn : As.length = n) (hst : st = As.reverse ++ .ref (α 0) :: rest) (hrest : (rest.map fun v => v.category).sum ≤ 8) (hls : ls.size = nL) (hd : decode cc pc = .ok (.invokevirtual index, 3)) (hRc : R.cells = 0 ∧ R.slots = 0)
    (kk : ∀ (H1 : Heap) (locs1 : List Loc), mM D ca α A H0 o.2 H1 locs1 → W p l e R s m args below meth c H1 locs1 0 0 Q (F0 m (pc + 3) ls (.long o.1 :: rest))) : W p l e R s m args below meth c H locs 0 0 Q (F0 m pc ls st) := by
  obtain ⟨hx, hb, hml, hown, hts, hK⟩ := C
  refine va_calll (va_runV (As := As) (rest := rest) ⟨hx, hb, hml, hown, hts⟩ hc (cwV n hts (mws_good hw.1) rfl hrm.1 hrm.2 hw.2 hR) ⟨mB_blind, va_recv hK hM.1 (ci := 0) (q0 := 0) rfl rfl, fun U hU hW => ⟨rfl, by rw [hU]; exact hM.1, va_K.moved hW.alike hK, hM.2.1⟩⟩ rfl hn hls hst (lv_room hrest) hd ⟨by omega, by omega⟩) hM.2.2 (fun q _ h => h) (fun q h => h) (fun r u t H1 locs1 ht hvm hw2 hB hz1 hk1 hS => ?_)
  subst hw2
  exact kk H1 locs1 (mM_call hB ht hS)
theorem m_cVv {o : mS} (C : mC p s m args c cc nL D ca) (hM : mM D ca α A H0 σ H locs) (hc : mMetV l y by' maxL ret rm D ca α A σ As o) (hw : mCallV RX12 index y by' maxL ret n) (hrm : rm.cells = 0 ∧ rm.slots = 0) (hR : rm.frames + 1 ≤ R.frames ∧ 8 + (maxL + 11) + rm.locals ≤ R.locals) (hn : As.length = n) (hst : st = As.reverse ++ .ref (α 0) :: rest) (hrest : (rest.map fun v => v.category).sum ≤ 8) (hls : ls.size = nL) (hd : decode cc pc = .ok (.invokevirtual index, 3)) (hRc : R.cells = 0 ∧ R.slots = 0)
    (kk : ∀ (H1 : Heap) (locs1 : List Loc), mM D ca α A H0 o H1 locs1 → W p l e R s m args below meth c H1 locs1 0 0 Q (F0 m (pc + 3) ls rest)) : W p l e R s m args below meth c H locs 0 0 Q (F0 m pc ls st) := by
  obtain ⟨hx, hb, hml, hown, hts, hK⟩ := C
  refine va_callv (va_runV (As := As) (rest := rest) ⟨hx, hb, hml, hown, hts⟩ hc (cwV n hts (mws_good hw.1) rfl hrm.1 hrm.2 hw.2 hR) ⟨mB_blind, va_recv hK hM.1 (ci := 0) (q0 := 0) rfl rfl, fun U hU hW => ⟨rfl, by rw [hU]; exact hM.1, va_K.moved hW.alike hK, hM.2.1⟩⟩ rfl hn hls hst (lv_room hrest) hd ⟨by omega, by omega⟩) hM.2.2 (fun q _ h => h) (fun q h => h) (fun u t H1 locs1 ht hvm hw2 hB hz1 hk1 hS => ?_)
  subst hw2
  exact kk H1 locs1 (mM_call hB ht hS)
theorem m_cSi {o : Int32} (C : mC p s m args c cc nL D ca) (hM : mM D ca α A H0 σ H locs) (hc : mMetSI l y by' maxL ret rm D ca α A σ As o) (hw : mCallS RX12 index y by' maxL ret n) (hrm : rm.cells = 0 ∧ rm.slots = 0) (hR : rm.frames + 1 ≤ R.frames ∧ 8 + (maxL + 11) + rm.locals ≤ R.locals) (hn : As.length = n) (hst : st = As.reverse ++ rest) (hrest : (rest.map fun v => v.category).sum ≤ 8) (hls : ls.size = nL) (hd : decode cc pc = .ok (.invokestatic index, 3)) (hRc : R.cells = 0 ∧ R.slots = 0)
    (kk : ∀ (H1 : Heap) (locs1 : List Loc), mM D ca α A H0 σ H1 locs1 → W p l e R s m args below meth c H1 locs1 0 0 Q (F0 m (pc + 3) ls (.int o :: rest))) : W p l e R s m args below meth c H locs 0 0 Q (F0 m pc ls st) := by
  obtain ⟨hx, hb, hml, hown, hts, hK⟩ := C
  refine va_calli (va_runS (As := As) (rest := rest) ⟨hx, hb, hml, hown, hts⟩ hc (va_cwS n hts (mws_goodS hw.1) rfl hrm.1 hrm.2 hw.2 hR) ⟨mB_blind, fun U hU hW => ⟨rfl, by rw [hU]; exact hM.1, va_K.moved hW.alike hK, hM.2.1⟩⟩ rfl hn hls hst (lv_room hrest) hd ⟨by omega, by omega⟩) hM.2.2 (fun q _ h => h) (fun q h => h) (fun r u t H1 locs1 ht hvm hw2 hB hz1 hk1 hS => ?_)
  cases hw2
  exact kk H1 locs1 (mM_call hB ht hS)
theorem m_cSl {o : Int64} (C : mC p s m args c cc nL D ca) (hM : mM D ca α A H0 σ H locs) (hc : mMetSL l y by' maxL ret rm D ca α A σ As o) (hw : mCallS RX12 index y by' maxL ret n) (hrm : rm.cells = 0 ∧ rm.slots = 0) (hR : rm.frames + 1 ≤ R.frames ∧ 8 + (maxL + 11) + rm.locals ≤ R.locals) (hn : As.length = n) (hst : st = As.reverse ++ rest) (hrest : (rest.map fun v => v.category).sum ≤ 8) (hls : ls.size = nL) (hd : decode cc pc = .ok (.invokestatic index, 3)) (hRc : R.cells = 0 ∧ R.slots = 0)
    (kk : ∀ (H1 : Heap) (locs1 : List Loc), mM D ca α A H0 σ H1 locs1 → W p l e R s m args below meth c H1 locs1 0 0 Q (F0 m (pc + 3) ls (.long o :: rest))) : W p l e R s m args below meth c H locs 0 0 Q (F0 m pc ls st) := by
  obtain ⟨hx, hb, hml, hown, hts, hK⟩ := C
  refine va_calll (va_runS (As := As) (rest := rest) ⟨hx, hb, hml, hown, hts⟩ hc (va_cwS n hts (mws_goodS hw.1) rfl hrm.1 hrm.2 hw.2 hR) ⟨mB_blind, fun U hU hW => ⟨rfl, by rw [hU]; exact hM.1, va_K.moved hW.alike hK, hM.2.1⟩⟩ rfl hn hls hst (lv_room hrest) hd ⟨by omega, by omega⟩) hM.2.2 (fun q _ h => h) (fun q h => h) (fun r u t H1 locs1 ht hvm hw2 hB hz1 hk1 hS => ?_)
  cases hw2
  exact kk H1 locs1 (mM_call hB ht hS)
/-- a method's ends -/
theorem m_end {σ : mS} {t : State} (C : mC p s m args c cc nL D ca) (hM : mM D ca α A s.heap σ H locs) (ht : t.heap = H) (hW : s.WarmedH t.vm) : mB D ca α A σ t := ⟨by rw [ht]; exact hM.1, va_K.moved hW.alike C.2.2.2.2.2, hM.2.1⟩
theorem m_ri {o : Int32 × mS} {v : Int32} (C : mC p s m args c cc nL D ca) (hM : mM D ca α A s.heap σ H locs) (hr : meth.sig.returnType = some .int) (hlocks : meth.locks = false) (hd : decode cc pc = .ok (.ireturn, 1)) (h : some (v, σ) = some o) :
    W p l e R s m args below meth c H locs 0 0 (MQ below (va_Qi (fun r u => (r, u) = o) (mB D ca α A) A) args s 0 0 A) (F0 m pc ls [.int v]) :=
  W.iret (v := v) C.1 C.2.1 hr (fun t ht hW => ⟨⟨v, σ, rfl, Option.some.inj h, m_end C hM ht hW⟩, hM.2.2.F ht⟩) hM.2.2.2.2 hd hlocks
theorem m_rz {o : Int32 × mS} {v : Int32} (C : mC p s m args c cc nL D ca) (hM : mM D ca α A s.heap σ H locs) (hr : meth.sig.returnType = some .boolean) (hlocks : meth.locks = false) (hd : decode cc pc = .ok (.ireturn, 1)) (h : (if v &&& 1 = v then some (v, σ) else none) = some o) :
    W p l e R s m args below meth c H locs 0 0 (MQ below (va_Qi (fun r u => (r, u) = o) (mB D ca α A) A) args s 0 0 A) (F0 m pc ls [.int v]) :=
  W.zret (v := v) C.1 C.2.1 hr (by show Value.int (v &&& 1) = _; rw [(ok_of h).1]) (fun t ht hW => ⟨⟨v, σ, rfl, Option.some.inj (ok_of h).2, m_end C hM ht hW⟩, hM.2.2.F ht⟩) hM.2.2.2.2 hd hlocks
theorem m_rc {o : Int32 × mS} {v : Int32} (C : mC p s m args c cc nL D ca) (hM : mM D ca α A s.heap σ H locs) (hr : meth.sig.returnType = some .char) (hlocks : meth.locks = false) (hd : decode cc pc = .ok (.ireturn, 1)) (h : (if v.toUInt32.toUInt16.toUInt32.toInt32 = v then some (v, σ) else none) = some o) :
    W p l e R s m args below meth c H locs 0 0 (MQ below (va_Qi (fun r u => (r, u) = o) (mB D ca α A) A) args s 0 0 A) (F0 m pc ls [.int v]) :=
  W.zret (v := v) C.1 C.2.1 hr (by show Value.int v.toUInt32.toUInt16.toUInt32.toInt32 = _; rw [(ok_of h).1]) (fun t ht hW => ⟨⟨v, σ, rfl, Option.some.inj (ok_of h).2, m_end C hM ht hW⟩, hM.2.2.F ht⟩) hM.2.2.2.2 hd hlocks
theorem m_rl {o : Int64 × mS} {v : Int64} (C : mC p s m args c cc nL D ca) (hM : mM D ca α A s.heap σ H locs) (hr : meth.sig.returnType = some .long) (hlocks : meth.locks = false) (hd : decode cc pc = .ok (.lreturn, 1)) (h : some (v, σ) = some o) :
    W p l e R s m args below meth c H locs 0 0 (MQ below (va_Ql (fun r u => (r, u) = o) (mB D ca α A) A) args s 0 0 A) (F0 m pc ls [.long v]) :=
  W.lret (v := v) C.1 C.2.1 hr (fun t ht hW => ⟨⟨v, σ, rfl, Option.some.inj h, m_end C hM ht hW⟩, hM.2.2.F ht⟩) hM.2.2.2.2 hd hlocks
theorem m_rf {o : UInt32 × mS} {v : UInt32} (C : mC p s m args c cc nL D ca) (hM : mM D ca α A s.heap σ H locs) (hr : meth.sig.returnType = some .float) (hlocks : meth.locks = false) (hd : decode cc pc = .ok (.freturn, 1)) (h : some (v, σ) = some o) :
    W p l e R s m args below meth c H locs 0 0 (MQ below (va_Qf (fun r u => (r, u) = o) (mB D ca α A) A) args s 0 0 A) (F0 m pc ls [.float v]) :=
  W.fret (v := v) C.1 C.2.1 hr (fun t ht hW => ⟨⟨v, σ, rfl, Option.some.inj h, m_end C hM ht hW⟩, hM.2.2.F ht⟩) hM.2.2.2.2 hd hlocks
theorem m_rd {o : UInt64 × mS} {v : UInt64} (C : mC p s m args c cc nL D ca) (hM : mM D ca α A s.heap σ H locs) (hr : meth.sig.returnType = some .double) (hlocks : meth.locks = false) (hd : decode cc pc = .ok (.dreturn, 1)) (h : some (v, σ) = some o) :
    W p l e R s m args below meth c H locs 0 0 (MQ below (va_Qd (fun r u => (r, u) = o) (mB D ca α A) A) args s 0 0 A) (F0 m pc ls [.double v]) :=
  W.dret (v := v) C.1 C.2.1 hr (fun t ht hW => ⟨⟨v, σ, rfl, Option.some.inj h, m_end C hM ht hW⟩, hM.2.2.F ht⟩) hM.2.2.2.2 hd hlocks
theorem m_rv {o : mS} (C : mC p s m args c cc nL D ca) (hM : mM D ca α A s.heap σ H locs) (hr : meth.sig.returnType = none) (hlocks : meth.locks = false) (hd : decode cc pc = .ok (.return_, 1)) (h : some σ = some o) :
    W p l e R s m args below meth c H locs 0 0 (MQ below (va_Qv (fun u => u = o) (mB D ca α A) A) args s 0 0 A) (F0 m pc ls []) :=
  W.vret C.1 C.2.1 hr (fun t ht hW => ⟨⟨σ, rfl, Option.some.inj h, m_end C hM ht hW⟩, hM.2.2.F ht⟩) hM.2.2.2.2 hd hlocks
end MCL
abbrev mGI (p : Program) (l : Launch) (e : Env) (R : Room) (s : State) (m : MethodId) (args : Array Value) (below : List Frame) (meth : Method) (c : Code) (D : va_G) (ca : Nat → ClassId) (α : Nat → Nat) (A : Nat → Prop) (o : Int32 × mS) (H : Heap) (locs : List Loc) (pc : Nat) (ls : Array Slot) (st : List Value) : Prop :=
  W p l e R s m args below meth c H locs 0 0 (MQ below (va_Qi (fun r u => (r, u) = o) (mB D ca α A) A) args s 0 0 A) (F0 m pc ls st)
abbrev mGL (p : Program) (l : Launch) (e : Env) (R : Room) (s : State) (m : MethodId) (args : Array Value) (below : List Frame) (meth : Method) (c : Code) (D : va_G) (ca : Nat → ClassId) (α : Nat → Nat) (A : Nat → Prop) (o : Int64 × mS) (H : Heap) (locs : List Loc) (pc : Nat) (ls : Array Slot) (st : List Value) : Prop :=
  W p l e R s m args below meth c H locs 0 0 (MQ below (va_Ql (fun r u => (r, u) = o) (mB D ca α A) A) args s 0 0 A) (F0 m pc ls st)
abbrev mGF (p : Program) (l : Launch) (e : Env) (R : Room) (s : State) (m : MethodId) (args : Array Value) (below : List Frame) (meth : Method) (c : Code) (D : va_G) (ca : Nat → ClassId) (α : Nat → Nat) (A : Nat → Prop) (o : UInt32 × mS) (H : Heap) (locs : List Loc) (pc : Nat) (ls : Array Slot) (st : List Value) : Prop :=
  W p l e R s m args below meth c H locs 0 0 (MQ below (va_Qf (fun r u => (r, u) = o) (mB D ca α A) A) args s 0 0 A) (F0 m pc ls st)
abbrev mGD (p : Program) (l : Launch) (e : Env) (R : Room) (s : State) (m : MethodId) (args : Array Value) (below : List Frame) (meth : Method) (c : Code) (D : va_G) (ca : Nat → ClassId) (α : Nat → Nat) (A : Nat → Prop) (o : UInt64 × mS) (H : Heap) (locs : List Loc) (pc : Nat) (ls : Array Slot) (st : List Value) : Prop :=
  W p l e R s m args below meth c H locs 0 0 (MQ below (va_Qd (fun r u => (r, u) = o) (mB D ca α A) A) args s 0 0 A) (F0 m pc ls st)
abbrev mGV (p : Program) (l : Launch) (e : Env) (R : Room) (s : State) (m : MethodId) (args : Array Value) (below : List Frame) (meth : Method) (c : Code) (D : va_G) (ca : Nat → ClassId) (α : Nat → Nat) (A : Nat → Prop) (o : mS) (H : Heap) (locs : List Loc) (pc : Nat) (ls : Array Slot) (st : List Value) : Prop :=
  W p l e R s m args below meth c H locs 0 0 (MQ below (va_Qv (fun u => u = o) (mB D ca α A) A) args s 0 0 A) (F0 m pc ls st)
