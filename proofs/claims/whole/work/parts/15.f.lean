/-! What stays: frames on both sides. -/
/-- of the reference: all fields but some are as they were -/
def mFr (ks : List Nat) (τ τ' : mS) : Prop := ∀ k, k ∉ ks → τ'.1 k = τ.1 k ∧ τ'.2.1 k = τ.2.1 k ∧ τ'.2.2.1 k = τ.2.2.1 k ∧ τ'.2.2.2 k = τ.2.2.2 k
theorem mFr.rf (ks : List Nat) (τ : mS) : mFr ks τ τ := fun _ _ => ⟨rfl, rfl, rfl, rfl⟩
theorem mFr.tr {k1 : List Nat} {a b c : mS} (h : mFr k1 a b) (h2 : mFr k1 b c) : mFr k1 a c := fun k hk => by
  obtain ⟨e1, e2, e3, e4⟩ := h k hk
  obtain ⟨f1, f2, f3, f4⟩ := h2 k hk
  exact ⟨f1.trans e1, f2.trans e2, f3.trans e3, f4.trans e4⟩
theorem mFr.wk {k1 k2 : List Nat} {a b : mS} (h : mFr k1 a b) (hs : ∀ k ∈ k1, k ∈ k2) : mFr k2 a b := fun k hk => h k fun q => hk (hs k q)
theorem mFr.I {ks : List Nat} {σ : mS} {k : Nat} {v : Int32} (h : k ∈ ks) : mFr ks σ (mI σ k v) := fun j hj => by
  have : j ≠ k := fun e => hj (e ▸ h)
  exact ⟨if_neg this, rfl, rfl, rfl⟩
theorem mFr.J {ks : List Nat} {σ : mS} {k : Nat} {v : Int64} (h : k ∈ ks) : mFr ks σ (mJ σ k v) := fun j hj => by
  have : j ≠ k := fun e => hj (e ▸ h)
  exact ⟨rfl, if_neg this, rfl, rfl⟩
theorem mFr.A {ks : List Nat} {σ : mS} {k i : Nat} {v : Int32} (h : k ∈ ks) : mFr ks σ (mA σ k i v) := fun j hj => by
  have : j ≠ k := fun e => hj (e ▸ h)
  exact ⟨rfl, rfl, if_neg this, rfl⟩
theorem mFr.L {ks : List Nat} {σ : mS} {k i : Nat} {v : Int64} (h : k ∈ ks) : mFr ks σ (mL σ k i v) := fun j hj => by
  have : j ≠ k := fun e => hj (e ▸ h)
  exact ⟨rfl, rfl, rfl, if_neg this⟩
def mWk : List Nat := [3, 4, 5, 6, 7, 8, 9, 10, 11, 12, 13, 14, 15, 16, 17, 18, 19]
theorem MWd.fr {ks : List Nat} {τ τ' : mS} {w : Wd} (hW : MWd τ w) (h : mFr ks τ τ') (hk : ∀ k ∈ mWk, k ∉ ks) : MWd τ' w := by
  have g : ∀ k ∈ mWk, τ'.1 k = τ.1 k ∧ τ'.2.1 k = τ.2.1 k ∧ τ'.2.2.1 k = τ.2.2.1 k ∧ τ'.2.2.2 k = τ.2.2.2 k := fun k q => h k (hk k q)
  have gi : ∀ k ∈ mWk, τ'.1 k = τ.1 k := fun k q => (g k q).1
  have ga : ∀ k ∈ mWk, τ'.2.2.1 k = τ.2.2.1 k := fun k q => (g k q).2.2.1
  have gl : ∀ k ∈ mWk, τ'.2.2.2 k = τ.2.2.2 k := fun k q => (g k q).2.2.2
  unfold MWd
  rw [gi 4 (by decide), gi 9 (by decide), gi 16 (by decide), gi 19 (by decide), ga 3 (by decide), ga 5 (by decide), ga 7 (by decide), ga 8 (by decide), ga 10 (by decide), ga 11 (by decide), ga 12 (by decide), ga 13 (by decide), ga 14 (by decide), ga 17 (by decide), ga 18 (by decide), gl 6 (by decide), gl 15 (by decide)]
  exact hW
theorem mA_at (σ : mS) (k i : Nat) (v : Int32) (j : Nat) : (mA σ k i v).2.2.1 k j = if j = i then v else σ.2.2.1 k j := by
  show (if k = k then upd (σ.2.2.1 k) i v else σ.2.2.1 k) j = _
  rw [if_pos rfl]; rfl
theorem mA_ne (σ : mS) {k k' : Nat} (i : Nat) (v : Int32) (h : k' ≠ k) : (mA σ k i v).2.2.1 k' = σ.2.2.1 k' := if_neg h
/-- of the class: what is there stays, but for what some objects hold -/
def cFr (ps : List (Nat × Nat)) (σ σ' : cS) : Prop := (∀ k, cn σ k ≤ cn σ' k) ∧ ∀ k i, i < cn σ k → cln σ' k i = cln σ k i ∧ (k = 17 → cel σ' i = cel σ i) ∧ ((k, i) ∉ ps → cI σ' k i = cI σ k i ∧ cJ σ' k i = cJ σ k i ∧ cR σ' k i = cR σ k i)
theorem cFr.rf (ps : List (Nat × Nat)) (σ : cS) : cFr ps σ σ := ⟨fun _ => Nat.le_refl _, fun _ _ _ => ⟨rfl, fun _ => rfl, fun _ => ⟨rfl, rfl, rfl⟩⟩⟩
theorem cFr.tr {ps : List (Nat × Nat)} {a b c : cS} (h : cFr ps a b) (h2 : cFr ps b c) : cFr ps a c := ⟨fun k => Nat.le_trans (h.1 k) (h2.1 k), fun k i hi => by
  obtain ⟨e1, e2, e3⟩ := h.2 k i hi
  obtain ⟨f1, f2, f3⟩ := h2.2 k i (Nat.lt_of_lt_of_le hi (h.1 k))
  exact ⟨f1.trans e1, fun q => (f2 q).trans (e2 q), fun q => ⟨(f3 q).1.trans (e3 q).1, (f3 q).2.1.trans (e3 q).2.1, (f3 q).2.2.trans (e3 q).2.2⟩⟩⟩
theorem cFr.wk {p1 p2 : List (Nat × Nat)} {a b : cS} (h : cFr p1 a b) (hs : ∀ q ∈ p1, q ∈ p2) : cFr p2 a b := ⟨h.1, fun k i hi => ⟨(h.2 k i hi).1, (h.2 k i hi).2.1, fun q => (h.2 k i hi).2.2 fun z => q (hs _ z)⟩⟩
theorem cFr.I {ps : List (Nat × Nat)} {σ : cS} {k i f : Nat} {v : Int32} (h : (k, i) ∈ ps) : cFr ps σ (uI σ k i f v) := ⟨fun _ => Nat.le_refl _, fun k' i' _ => ⟨rfl, fun _ => rfl, fun q => ⟨funext fun f' => if_neg fun z => q (by obtain ⟨rfl, rfl, -⟩ := z; exact h), rfl, rfl⟩⟩⟩
theorem cFr.J {ps : List (Nat × Nat)} {σ : cS} {k i f : Nat} {v : Int64} (h : (k, i) ∈ ps) : cFr ps σ (uJ σ k i f v) := ⟨fun _ => Nat.le_refl _, fun k' i' _ => ⟨rfl, fun _ => rfl, fun q => ⟨rfl, funext fun f' => if_neg fun z => q (by obtain ⟨rfl, rfl, -⟩ := z; exact h), rfl⟩⟩⟩
theorem cFr.R {ps : List (Nat × Nat)} {σ : cS} {k i f : Nat} {v : Option Nat} (h : (k, i) ∈ ps) : cFr ps σ (uR σ k i f v) := ⟨fun _ => Nat.le_refl _, fun k' i' _ => ⟨rfl, fun _ => rfl, fun q => ⟨rfl, rfl, funext fun f' => if_neg fun z => q (by obtain ⟨rfl, rfl, -⟩ := z; exact h)⟩⟩⟩
theorem cFr.N {ps : List (Nat × Nat)} {σ : cS} {k n t : Nat} : cFr ps σ (uN σ k n t) := ⟨fun k' => by
  show cn σ k' ≤ if k' = k then cn σ k + 1 else cn σ k'
  split
  · rename_i h; rw [h]; omega
  · exact Nat.le_refl _, fun k' i' hi => by
  have hne : ¬ (k' = k ∧ i' = σ.1 k) := fun z => by
    obtain ⟨rfl, rfl⟩ := z
    exact absurd hi (Nat.lt_irrefl _)
  exact ⟨if_neg hne, fun h17 => if_neg fun z => hne ⟨h17.trans z.1.symm, by rw [z.1]; exact z.2⟩, fun _ => ⟨funext fun _ => if_neg hne, funext fun _ => if_neg hne, funext fun _ => if_neg hne⟩⟩⟩
