/-! The reference's object: its fields by number, as one state (ints, longs, int arrays, long arrays). -/
def mKs : List Nat := [0, 2, 0, 2, 0, 3, 5, 2, 2, 0, 2, 2, 2, 4, 2, 5, 0, 2, 2, 0, 6, 2, 2, 3, 2, 2, 2, 2, 2, 2, 5, 2, 2, 0, 0, 0, 2, 3, 2, 1, 2, 2, 0, 2, 5, 0, 0, 2, 2, 0, 2, 2, 0]
def mLs : List Nat := [0, 30, 0, 320, 0, 12, 12, 72, 72, 0, 12, 12, 12, 12, 12, 12, 0, 6, 6, 0, 0, 80, 960, 960, 960, 80, 2400, 80, 80, 80, 80, 640, 80, 0, 0, 0, 12, 12, 12, 0, 31, 31, 0, 12, 12, 0, 0, 80, 80, 0, 12, 200, 0]
def mIs : List Nat := [128, 7, 139, 13, 146, 16, 20, 24, 27, 157, 30, 33, 36, 39, 43, 46, 160, 49, 52, 187, 163, 55, 58, 61, 64, 67, 70, 73, 76, 79, 82, 85, 88, 207, 210, 190, 91, 94, 97, 193, 100, 103, 235, 106, 109, 309, 112, 116, 119, 312, 122, 125, 330]
def mAl : List Nat := [1, 3, 5, 6, 7, 8, 10, 11, 12, 13, 14, 15, 17, 18, 21, 22, 23, 24, 25, 26, 27, 28, 29, 30, 31, 32, 36, 37, 38, 40, 41, 43, 44, 47, 48, 50, 51]
def mKd (k : Nat) : Nat := mKs.getD k 9
def mLn (k : Nat) : Nat := mLs.getD k 0
def mIx (k : Nat) : Nat := mIs.getD k 0
theorem mw_lay : ∀ k, k < 53 → (tables_1[([1899, 1901, 1903, 1905, 1907, 1909, 1911, 1913, 1915, 1917, 1919, 1921, 1923, 1925, 1927, 1929, 1931, 1933, 1935, 1937, 1939, 1941, 1943, 1945, 1947, 1949, 1951, 1953, 1955, 1957, 1959, 1961, 1963, 1965, 1967, 1969, 1971, 1973, 1975, 1977, 1979, 1981, 1983, 1985, 1987, 1989, 1991, 1993, 1995, 1997, 1999, 2001, 2003] : List Nat).getD k 0]? = some (u_lay RX12 TX12 k) ∧ goodWord (u_lay RX12 TX12 k) = true) := by decide +kernel
theorem mw_lnk0 : ∀ k, k < 53 → (tables_1[([1846, 1847, 1848, 1849, 1850, 1851, 1852, 1853, 1854, 1855, 1856, 1857, 1858, 1859, 1860, 1861, 1862, 1863, 1864, 1865, 1866, 1867, 1868, 1869, 1870, 1871, 1872, 1873, 1874, 1875, 1876, 1877, 1878, 1879, 1880, 1881, 1882, 1883, 1884, 1885, 1886, 1887, 1888, 1889, 1890, 1891, 1892, 1893, 1894, 1895, 1896, 1897, 1898] : List Nat).getD k 0]? = some (.fieldLink RX12 (mIx k) RX12 (TX12 k).2.1 (TX12 k).2.2.1) ∧ goodWord (.fieldLink RX12 (mIx k) RX12 (TX12 k).2.1 (TX12 k).2.2.1) = true) := by decide +kernel
theorem mw_lnk {k : Nat} (h : k < 53) : Cond.fieldLink RX12 (mIx k) RX12 (TX12 k).2.1 (TX12 k).2.2.1 ∈ wl := wl_in (mw_lnk0 k h)
theorem mw_in : ∀ w ∈ wsX120, w ∈ wl := by
  intro w hw
  obtain ⟨k, hk, rfl⟩ := List.mem_map.mp hw
  exact wl_in (mw_lay k (List.mem_range.mp hk))
theorem mw_own : ∀ k, k < 53 → (TX12 k).1 = RX12 := by decide +kernel
theorem mw_nf : ∀ k, k < 53 → ¬ (2 ≤ mKd k ∧ mKd k ≤ 5) → (TX12 k).2.2.2 = false := by decide +kernel
theorem mw_tyi : ∀ k, k < 53 → mKd k = 0 → parseFieldDescriptor (TX12 k).2.2.1 = some .int := by decide +kernel
theorem mw_tyz : ∀ k, k < 53 → mKd k = 6 → parseFieldDescriptor (TX12 k).2.2.1 = some .boolean := by decide +kernel
theorem mw_tyl : ∀ k, k < 53 → mKd k = 1 → parseFieldDescriptor (TX12 k).2.2.1 = some .long := by decide +kernel
theorem mKd_lt {k : Nat} (h : mKd k ≠ 9) : k < 53 := by
  rcases Nat.lt_or_ge k 53 with q | q
  · exact q
  · exact absurd (by unfold mKd; rw [List.getD_eq_getElem?_getD, List.getElem?_eq_none (by exact q)]; rfl) h
abbrev mS : Type := (Nat → Int32) × (Nat → Int64) × (Nat → Nat → Int32) × (Nat → Nat → Int64)
def mF (α : Nat → Nat) (σ : mS) (k : Nat) : Value := if mKd k = 0 ∨ mKd k = 6 then .int (σ.1 k) else if mKd k = 1 then .long (σ.2.1 k) else .ref (α (k + 1))
def mCo (σ : mS) (k : Nat) : ((Nat → Int32) ⊕ (Nat → Int64) ⊕ (Nat → UInt32) ⊕ (Nat → UInt64) ⊕ (Nat → Option Nat)) := if mKd k = 5 then .inr (.inl (σ.2.2.2 k)) else .inl (σ.2.2.1 k)
def mX (ca : Nat → ClassId) (α : Nat → Nat) (σ : mS) (k : Nat) : Nat × va_E := (α (k + 1), .inl (ca (mKd k), mLn k, mCo σ k))
def mW (ca : Nat → ClassId) (α : Nat → Nat) (σ : mS) : va_W := (α 0, .inr (0, (List.range 53).map (mF α σ))) :: mAl.map (mX ca α σ)
abbrev mCl : List vw_C := [(RX12, TX12, 53)]
abbrev mTy (ca : Nat → ClassId) : List (ClassId × FieldType) := [(ca 2, .int), (ca 3, .boolean), (ca 4, .char), (ca 5, .long)]
def mB (D : va_G) (ca : Nat → ClassId) (α : Nat → Nat) (A : Nat → Prop) (u : mS) (t : State) : Prop := va_P D mCl (mW ca α u) t.heap ∧ va_K D mCl (mTy ca) t ∧ va_D A (mW ca α u)
def mM (D : va_G) (ca : Nat → ClassId) (α : Nat → Nat) (A : Nat → Prop) (H0 : Heap) (σ : mS) (H : Heap) (locs : List Loc) : Prop := va_P D mCl (mW ca α σ) H ∧ va_D A (mW ca α σ) ∧ va_S A H0 H locs
def mC (p : Program) (s : State) (m : MethodId) (args : Array Value) (c : Code) (cc : ByteArray) (nL : Nat) (D : va_G) (ca : Nat → ClassId) : Prop := p.tables.exec = Jvm.exec ∧ c.code = cc ∧ c.maxLocals = nL ∧ s.vm.findClass RX12 = some m.cls ∧ (∀ w ∈ wl, w.before args s = true) ∧ va_K D mCl (mTy ca) s
theorem mB_blind {D : va_G} {ca : Nat → ClassId} {α : Nat → Nat} {A : Nat → Prop} {u : mS} {av : List Value} : FrameBlind (va_Pc av (mB D ca α A u)) := fun _ _ _ _ q => ⟨q.1, q.2.1, va_K.moved (Vm.Alike.refl _) q.2.2.1, q.2.2.2⟩
def mI (σ : mS) (k : Nat) (v : Int32) : mS := (upd σ.1 k v, σ.2)
def mJ (σ : mS) (k : Nat) (v : Int64) : mS := (σ.1, vp_updL σ.2.1 k v, σ.2.2)
def mA (σ : mS) (k i : Nat) (v : Int32) : mS := (σ.1, σ.2.1, (fun j => if j = k then upd (σ.2.2.1 k) i v else σ.2.2.1 j), σ.2.2.2)
def mL (σ : mS) (k i : Nat) (v : Int64) : mS := (σ.1, σ.2.1, σ.2.2.1, (fun j => if j = k then vp_updL (σ.2.2.2 k) i v else σ.2.2.2 j))
theorem xx_map_set {β : Type} {n k : Nat} {f f' : Nat → β} {x : β} (h : ∀ j, j < n → f' j = if j = k then x else f j) : ((List.range n).map f).set k x = (List.range n).map f' := by
  apply List.ext_getElem?
  intro j
  rw [List.getElem?_set, List.getElem?_map, List.getElem?_map, List.length_map, List.length_range]
  by_cases hj : j < n
  · rw [List.getElem?_range hj]
    by_cases hk : k = j
    · subst hk; simp [h k hj, hj]
    · rw [if_neg hk]; simp [h j hj, Ne.symm hk]
  · have e : (List.range n)[j]? = none := List.getElem?_eq_none (by rw [List.length_range]; omega)
    rw [e]
    by_cases hk : k = j
    · subst hk; simp [hj]
    · rw [if_neg hk]; rfl
theorem xx_lmap_set {β : Type} {l : List Nat} (hn : ∀ (i j k : Nat), l[i]? = some k → l[j]? = some k → i = j) {q k : Nat} (hq : l[q]? = some k) {g g' : Nat → β} {x : β} (h : ∀ j, g' j = if j = k then x else g j) : (l.map g).set q x = l.map g' := by
  apply List.ext_getElem?
  intro j
  rw [List.getElem?_set, List.getElem?_map, List.getElem?_map, List.length_map]
  have hql : q < l.length := (List.getElem?_eq_some_iff.mp hq).1
  by_cases hk : q = j
  · subst hk; rw [if_pos rfl, if_pos hql, hq]; simp [h k]
  · rw [if_neg hk]
    cases hj : l[j]? with
    | none => rfl
    | some z =>
      have hz : z ≠ k := by
        intro e
        subst e
        exact hk (hn q j z hq hj)
      simp [h z, hz]
theorem mW_I {ca : Nat → ClassId} {α : Nat → Nat} {σ : mS} {k : Nat} {v : Int32} (hk : mKd k = 0 ∨ mKd k = 6) : (mW ca α σ).set 0 (α 0, .inr (0, ((List.range 53).map (mF α σ)).set k (.int v))) = mW ca α (mI σ k v) := by
  have e : ((List.range 53).map (mF α σ)).set k (.int v) = (List.range 53).map (mF α (mI σ k v)) := xx_map_set fun j hj => by
    by_cases hjk : j = k
    · subst hjk; simp [mF, mI, upd, hk]
    · rw [if_neg hjk]; simp [mF, mI, upd, hjk]
  rw [e]; rfl
theorem mW_J {ca : Nat → ClassId} {α : Nat → Nat} {σ : mS} {k : Nat} {v : Int64} (hk : mKd k = 1) : (mW ca α σ).set 0 (α 0, .inr (0, ((List.range 53).map (mF α σ)).set k (.long v))) = mW ca α (mJ σ k v) := by
  have e : ((List.range 53).map (mF α σ)).set k (.long v) = (List.range 53).map (mF α (mJ σ k v)) := xx_map_set fun j hj => by
    by_cases hjk : j = k
    · subst hjk; simp [mF, mJ, vp_updL, hk]
    · rw [if_neg hjk]; simp [mF, mJ, vp_updL, hjk]
  rw [e]; rfl
theorem mAl_nd : ∀ (i j k : Nat), mAl[i]? = some k → mAl[j]? = some k → i = j := va_nd_inj mAl (by decide +kernel)
theorem mW_A {ca : Nat → ClassId} {α : Nat → Nat} {σ : mS} {k q i : Nat} {v : Int32} (hq : mAl[q]? = some k) (hk : mKd k ≠ 5) : (mW ca α σ).set (q + 1) (α (k + 1), .inl (ca (mKd k), mLn k, .inl (upd (σ.2.2.1 k) i v))) = mW ca α (mA σ k i v) := by
  have e : (mAl.map (mX ca α σ)).set q (α (k + 1), .inl (ca (mKd k), mLn k, .inl (upd (σ.2.2.1 k) i v))) = mAl.map (mX ca α (mA σ k i v)) := xx_lmap_set mAl_nd hq fun j => by
    by_cases hjk : j = k
    · subst hjk; simp [mX, mCo, mA, hk]
    · rw [if_neg hjk]; simp [mX, mCo, mA, hjk]
  show _ :: _ = _
  rw [e]; rfl
theorem mW_L {ca : Nat → ClassId} {α : Nat → Nat} {σ : mS} {k q i : Nat} {v : Int64} (hq : mAl[q]? = some k) (hk : mKd k = 5) : (mW ca α σ).set (q + 1) (α (k + 1), .inl (ca (mKd k), mLn k, .inr (.inl (vp_updL (σ.2.2.2 k) i v)))) = mW ca α (mL σ k i v) := by
  have e : (mAl.map (mX ca α σ)).set q (α (k + 1), .inl (ca (mKd k), mLn k, .inr (.inl (vp_updL (σ.2.2.2 k) i v)))) = mAl.map (mX ca α (mL σ k i v)) := xx_lmap_set mAl_nd hq fun j => by
    by_cases hjk : j = k
    · subst hjk; simp [mX, mCo, mL, hk]
    · rw [if_neg hjk]; simp [mX, mCo, mL, hjk]
  show _ :: _ = _
  rw [e]; rfl
theorem mW_at {ca : Nat → ClassId} {α : Nat → Nat} {σ : mS} {k : Nat} (h : k ∈ mAl) : ∃ q, mAl[q]? = some k ∧ (mW ca α σ)[q + 1]? = some (α (k + 1), .inl (ca (mKd k), mLn k, mCo σ k)) := by
  obtain ⟨q, hq⟩ := List.getElem?_of_mem h
  refine ⟨q, hq, ?_⟩
  show (mAl.map (mX ca α σ))[q]? = _
  rw [List.getElem?_map, hq]; rfl
theorem mAl_of {k : Nat} (h : 2 ≤ mKd k ∧ mKd k ≤ 5) : k ∈ mAl := by
  have h2 : ∀ k, k < 53 → 2 ≤ mKd k ∧ mKd k ≤ 5 → k ∈ mAl := by decide +kernel
  exact h2 k (mKd_lt (by omega)) h
theorem ok_of {c : Prop} [Decidable c] {β : Type} {a : Option β} {o : β} (h : (if c then a else none) = some o) : c ∧ a = some o := by
  by_cases q : c
  · rw [if_pos q] at h; exact ⟨q, h⟩
  · rw [if_neg q] at h; cases h
theorem br_T {c : Prop} [Decidable c] {β : Type} {a b : β} {o : β} (q : c) (h : (if c then a else b) = o) : a = o := by rw [if_pos q] at h; exact h
theorem br_F {c : Prop} [Decidable c] {β : Type} {a b : β} {o : β} (q : ¬ c) (h : (if c then a else b) = o) : b = o := by rw [if_neg q] at h; exact h
theorem bd_of {β γ : Type} {x : Option β} {f : β → Option γ} {o : γ} (h : x.bind f = some o) : ∃ a, x = some a ∧ f a = some o := by
  cases x with
  | none => cases h
  | some a => exact ⟨a, rfl, h⟩
theorem ko_of {c : Prop} [Decidable c] {β : Type} {a : Option β} {o : β} (h : (if c then none else a) = some o) : ¬ c ∧ a = some o := by
  by_cases q : c
  · rw [if_pos q] at h; cases h
  · rw [if_neg q] at h; exact ⟨q, h⟩

