/-! The class's objects and arrays, by kind and number, as one state. Kinds: 0 Lorewick, 1 Text, 2 World, 3 Rules, 4 Tree, 5 Shop, 6 State, 7 Node, 8 Command, 9 Sale, 10 ArrayList, 11 StringBuilder; arrays: 12 int, 13 boolean, 14 char, 15 long, 16 byte, 17 references (its number 0: the empty one of ArrayList's statics); constants: 18 Verb, 19 String. -/
def cRn (k : Nat) : String := match k with
  | 0 => RX11 | 1 => RX7 | 2 => RX10 | 3 => RX3 | 4 => RX8 | 5 => RX5 | 6 => RX6 | 7 => RX2 | 8 => RX1 | 9 => RX4 | 10 => RJx4a65c | _ => RJ4
def cTt (k : Nat) : u_T := match k with
  | 0 => TX11 | 1 => TX7 | 2 => TX10 | 3 => TX3 | 4 => TX8 | 5 => TX5 | 6 => TX6 | 7 => TX2 | 8 => TX1 | 9 => TX4 | 10 => TJx4a65c | _ => TJ4
def cNn (k : Nat) : Nat := match k with
  | 0 => 7 | 1 => 4 | 2 => 17 | 3 => 2 | 4 => 3 | 5 => 6 | 6 => 4 | 7 => 6 | 8 => 3 | 9 => 3 | 10 => 3 | _ => 4
def cTy (k : Nat) : Nat → FieldType := match k with
  | 0 => tyX11 | 1 => tyX7 | 2 => tyX10 | 3 => tyX3 | 4 => tyX8 | 5 => tyX5 | 6 => tyX6 | 7 => tyX2 | 8 => tyX1 | 9 => tyX4 | 10 => tyJx4a65c | _ => tyJ4
abbrev cCl : List vw_C := [(RX11, TX11, 7), (RX7, TX7, 4), (RX10, TX10, 17), (RX3, TX3, 2), (RX8, TX8, 3), (RX5, TX5, 6), (RX6, TX6, 4), (RX2, TX2, 6), (RX1, TX1, 3), (RX4, TX4, 3), (RJx4a65c, TJx4a65c, 3), (RJ4, TJ4, 4)]
theorem cCl_at : ∀ k, k < 12 → cCl[k]? = some (cRn k, cTt k, cNn k) := fun k hk => match k, hk with
  | 0, _ => rfl | 1, _ => rfl | 2, _ => rfl | 3, _ => rfl | 4, _ => rfl | 5, _ => rfl | 6, _ => rfl | 7, _ => rfl | 8, _ => rfl | 9, _ => rfl | 10, _ => rfl | 11, _ => rfl
  | n + 12, h => absurd h (by omega)
/-- a field's kind: 0 int, 1 long, 2 reference, 6 boolean, 7 byte -/
def cKl : List (List Nat) := [[2, 2, 2, 2, 2, 2, 2], [2, 2, 2, 0], [2, 0, 2, 2, 2, 2, 0, 2, 2, 2, 2, 2, 2, 0, 2, 2, 0], [2, 2], [2, 2, 0], [2, 2, 0, 2, 0, 0], [0, 2, 2, 2], [0, 2, 2, 2, 1, 1], [2, 0, 0], [0, 2, 0], [0, 2, 0], [2, 7, 6, 0]]
def cTl : List (List Nat) := [[1, 2, 3, 4, 5, 6, 11], [14, 12, 12, 0], [15, 0, 13, 15, 12, 12, 0, 12, 12, 12, 14, 12, 15, 0, 12, 12, 0], [2, 12], [10, 12, 0], [12, 15, 0, 10, 0, 0], [0, 12, 12, 13], [0, 7, 8, 6, 0, 0], [18, 0, 0], [0, 7, 0], [0, 17, 0], [16, 0, 0, 0]]
def cK (k f : Nat) : Nat := (cKl.getD k []).getD f 9
/-- a reference field's target -/
def cTg (k f : Nat) : Nat := (cTl.getD k []).getD f 0
theorem xx_getD {β : Type} {l : List β} {k : Nat} {d : β} (h : l.length ≤ k) : l.getD k d = d := by
  rw [List.getD_eq_getElem?_getD, List.getElem?_eq_none h]; rfl
theorem cK_lt {k f : Nat} (h : cK k f ≠ 9) : k < 12 ∧ f < cNn k := by
  have hk : k < 12 := by
    rcases Nat.lt_or_ge k 12 with q | q
    · exact q
    · exact absurd (by unfold cK; rw [show cKl.getD k [] = [] from xx_getD q]; rfl) h
  refine ⟨hk, ?_⟩
  have h2 : ∀ k, k < 12 → (cKl.getD k []).length = cNn k := by decide +kernel
  rcases Nat.lt_or_ge f (cNn k) with q | q
  · exact q
  · exact absurd (by unfold cK; exact xx_getD (by rw [h2 k hk]; exact q)) h
abbrev cS : Type := (Nat → Nat) × (Nat → Nat → Nat) × (Nat → Nat) × (Nat → Nat → Nat → Int32) × (Nat → Nat → Nat → Int64) × (Nat → Nat → Nat → Option Nat)
/-- how many of a kind; an array's length; what kind of objects an array of references holds; ints, longs, references by kind, number and place -/
def cn (σ : cS) : Nat → Nat := σ.1
def cln (σ : cS) : Nat → Nat → Nat := σ.2.1
def cel (σ : cS) : Nat → Nat := σ.2.2.1
def cI (σ : cS) : Nat → Nat → Nat → Int32 := σ.2.2.2.1
def cJ (σ : cS) : Nat → Nat → Nat → Int64 := σ.2.2.2.2.1
def cR (σ : cS) : Nat → Nat → Nat → Option Nat := σ.2.2.2.2.2
def uI (σ : cS) (k i f : Nat) (v : Int32) : cS := (σ.1, σ.2.1, σ.2.2.1, (fun k' i' f' => if k' = k ∧ i' = i ∧ f' = f then v else σ.2.2.2.1 k' i' f'), σ.2.2.2.2)
def uJ (σ : cS) (k i f : Nat) (v : Int64) : cS := (σ.1, σ.2.1, σ.2.2.1, σ.2.2.2.1, (fun k' i' f' => if k' = k ∧ i' = i ∧ f' = f then v else σ.2.2.2.2.1 k' i' f'), σ.2.2.2.2.2)
def uR (σ : cS) (k i f : Nat) (v : Option Nat) : cS := (σ.1, σ.2.1, σ.2.2.1, σ.2.2.2.1, σ.2.2.2.2.1, (fun k' i' f' => if k' = k ∧ i' = i ∧ f' = f then v else σ.2.2.2.2.2 k' i' f'))
/-- a new one of kind k (an array of kind 12 and on: of length n, for objects of kind t), all zero -/
def uN (σ : cS) (k n t : Nat) : cS := ((fun k' => if k' = k then σ.1 k + 1 else σ.1 k'), (fun k' i' => if k' = k ∧ i' = σ.1 k then n else σ.2.1 k' i'), (fun i' => if k = 17 ∧ i' = σ.1 17 then t else σ.2.2.1 i'),
  (fun k' i' f' => if k' = k ∧ i' = σ.1 k then 0 else σ.2.2.2.1 k' i' f'), (fun k' i' f' => if k' = k ∧ i' = σ.1 k then 0 else σ.2.2.2.2.1 k' i' f'), (fun k' i' f' => if k' = k ∧ i' = σ.1 k then none else σ.2.2.2.2.2 k' i' f'))
abbrev cAl : Type := Nat → Nat → Nat
/-- a reference's value -/
abbrev cr (α : cAl) (k : Nat) (x : Option Nat) : Value := va_rf (x.map (α k))
def cV (α : cAl) (σ : cS) (k i f : Nat) : Value := if cK k f = 2 then va_rf ((cR σ k i f).map (α (cTg k f))) else if cK k f = 1 then .long (cJ σ k i f) else .int (cI σ k i f)
def cE (ca : Nat → ClassId) (α : cAl) (σ : cS) (k i : Nat) : va_E := if k < 12 then .inr (k, (List.range (cNn k)).map (cV α σ k i)) else .inl (ca k, cln σ k i, if k = 15 then .inr (.inl (cJ σ 15 i)) else if k = 17 then .inr (.inr (.inr (.inr (fun j => (cR σ 17 i j).map (α (cel σ i)))))) else .inl (cI σ k i))
abbrev cTys (ca : Nat → ClassId) : List (ClassId × FieldType) := [(ca 12, .int), (ca 13, .boolean), (ca 14, .char), (ca 15, .long), (ca 16, .byte), (ca 17, .object "java/lang/Object")]
/-- the empty row that was there before all: of it the tables say its class and length alone -/
def cAz (q : Nat × va_E) (H : Heap) : Prop := ∃ (c : ClassId) (g : vp_A) (cell : Cell), q.2 = .inl (c, g) ∧ g.1 = 0 ∧ H[q.1]? = some cell ∧ cell.cls = c ∧ (∀ z, cell.vm ≠ .statics z) ∧ cell.slots.size = 0
def cAt (D : va_G) (k i : Nat) (q : Nat × va_E) (H : Heap) : Prop := if k = 17 ∧ i = 0 then cAz q H else va_at D cCl q H
theorem cAt.kept {D : va_G} {k i : Nat} {q : Nat × va_E} {H H1 : Heap} (h : cAt D k i q H) (e : H1[q.1]? = H[q.1]?) : cAt D k i q H1 := by
  unfold cAt at h ⊢
  by_cases z : k = 17 ∧ i = 0
  · rw [if_pos z] at h ⊢
    obtain ⟨c, g, cell, h1, h2, h3, h4⟩ := h
    exact ⟨c, g, cell, h1, h2, e.trans h3, h4⟩
  · rw [if_neg z] at h ⊢
    exact va_at.kept h e
theorem cAt.lt {D : va_G} {k i : Nat} {q : Nat × va_E} {H : Heap} (h : cAt D k i q H) : q.1 < H.size := by
  unfold cAt at h
  by_cases z : k = 17 ∧ i = 0
  · rw [if_pos z] at h
    obtain ⟨c, g, cell, h1, h2, h3, h4⟩ := h
    exact (Array.getElem?_eq_some_iff.mp h3).1
  · rw [if_neg z] at h
    exact va_at.lt h
theorem cAt.ob {D : va_G} {k i : Nat} {q : Nat × va_E} {H : Heap} (h : cAt D k i q H) (z : ¬ (k = 17 ∧ i = 0)) : va_at D cCl q H := by
  unfold cAt at h
  rwa [if_neg z] at h
theorem cAt.mk {D : va_G} {k i : Nat} {q : Nat × va_E} {H : Heap} (z : ¬ (k = 17 ∧ i = 0)) (h : va_at D cCl q H) : cAt D k i q H := by
  unfold cAt
  rwa [if_neg z]
theorem cAt.zz {D : va_G} {q : Nat × va_E} {H : Heap} (h : cAt D 17 0 q H) : cAz q H := by
  unfold cAt at h
  rwa [if_pos ⟨rfl, rfl⟩] at h
def cP (D : va_G) (ca : Nat → ClassId) (α : cAl) (σ : cS) (H : Heap) : Prop := ∀ k i, k < 18 → i < cn σ k → cAt D k i (α k i, cE ca α σ k i) H
def cD (A : Nat → Prop) (α : cAl) (σ : cS) : Prop := (∀ k i k' i', k < 18 → k' < 18 → i < cn σ k → i' < cn σ k' → α k i = α k' i' → k = k' ∧ i = i') ∧ ∀ k i, k < 18 → i < cn σ k → ¬ (k = 17 ∧ i = 0) → A (α k i)
/-- the references that stay as the constructors made them: (kind, number, field, target) -/
def cBk : List (Nat × Nat × Nat × Nat) := [(0, 0, 0, 0), (0, 0, 1, 0), (0, 0, 2, 0), (0, 0, 3, 0), (0, 0, 4, 0), (0, 0, 5, 0), (0, 0, 6, 0), (1, 0, 0, 0), (1, 0, 1, 0), (1, 0, 2, 1), (2, 0, 0, 0), (2, 0, 2, 0), (2, 0, 3, 1), (2, 0, 4, 2), (2, 0, 5, 3), (2, 0, 7, 4), (2, 0, 8, 5), (2, 0, 9, 6), (2, 0, 10, 1), (2, 0, 11, 7), (2, 0, 12, 2), (2, 0, 14, 8), (2, 0, 15, 9), (3, 0, 0, 0), (3, 0, 1, 10), (4, 0, 0, 0), (4, 0, 1, 11), (5, 0, 0, 12), (5, 0, 1, 3), (5, 0, 3, 1), (6, 0, 1, 13), (6, 0, 2, 14), (6, 0, 3, 1)]
/-- how many there are of a kind at least, behind the constructors -/
def cLb : List Nat := [1, 1, 1, 1, 1, 1, 1, 0, 0, 0, 2, 1, 15, 2, 2, 4, 1, 1]
/-- null, or one of those that are -/
def lvq (σ : cS) (k : Nat) (x : Option Nat) : Bool := match x with
  | none => true
  | some i => decide (i < cn σ k)
/-- every reference that is held is of one that is -/
def cVd (σ : cS) : Prop := ∀ k i f, k < 18 → i < cn σ k → lvq σ (if k = 17 then cel σ i else cTg k f) (cR σ k i f) = true
def cLns : List (Nat × Nat × Nat) := [(14, 0, 30), (12, 0, 4), (12, 1, 4), (15, 0, 40), (13, 0, 12), (15, 1, 12), (12, 2, 72), (12, 3, 72), (12, 4, 12), (12, 5, 12), (12, 6, 12), (14, 1, 12), (12, 7, 12), (15, 2, 12), (12, 8, 6), (12, 9, 6), (12, 10, 12), (12, 11, 40), (12, 12, 12), (15, 3, 12), (12, 13, 12), (12, 14, 12), (13, 1, 12)]
def cSh (b : Bool) (σ : cS) : Prop := (b = true → (∀ q ∈ cBk, cR σ q.1 q.2.1 q.2.2.1 = some q.2.2.2) ∧ (∀ k, k < 18 → cLb.getD k 0 ≤ cn σ k) ∧ (∀ q ∈ cLns, cln σ q.1 q.2.1 = q.2.2)) ∧ cVd σ
/-- since the start: none is gone, and where they lie is as it was -/
def cX (σ0 : cS) (α0 : cAl) (σ : cS) (α : cAl) : Prop := (∀ k, cn σ0 k ≤ cn σ k) ∧ (∀ k i, i < cn σ0 k → α k i = α0 k i) ∧ ∀ k, 18 ≤ k → α k = α0 k
def cM (D : va_G) (ca : Nat → ClassId) (b : Bool) (A : Nat → Prop) (H0 : Heap) (σ0 : cS) (α0 : cAl) (σ : cS) (α : cAl) (H : Heap) (locs : List Loc) : Prop := cP D ca α σ H ∧ cD A α σ ∧ cSh b σ ∧ va_S A H0 H locs ∧ (∀ q, H0.size ≤ q → A q) ∧ cX σ0 α0 σ α
theorem cX.rf {σ : cS} {α : cAl} : cX σ α σ α := ⟨fun _ => Nat.le_refl _, fun _ _ _ => rfl, fun _ _ => rfl⟩
theorem cX.tr {σ0 σ σ1 : cS} {α0 α α1 : cAl} (h : cX σ0 α0 σ α) (h1 : cX σ α σ1 α1) : cX σ0 α0 σ1 α1 := ⟨fun k => Nat.le_trans (h.1 k) (h1.1 k), fun k i hi => (h1.2.1 k i (Nat.lt_of_lt_of_le hi (h.1 k))).trans (h.2.1 k i hi), fun k hk => (h1.2.2 k hk).trans (h.2.2 k hk)⟩
theorem cX.val {σ0 σ : cS} {α0 α : cAl} (h : cX σ0 α0 σ α) {k : Nat} {x : Option Nat} (hx : lvq σ0 k x = true) : cr α0 k x = cr α k x := by
  cases x with
  | none => rfl
  | some i => show Value.ref (α0 k i) = Value.ref (α k i); rw [h.2.1 k i (of_decide_eq_true hx)]
/-- a reference that is one of those that are -/
def dr (σ : cS) (k : Nat) (x : Option Nat) : Option Nat := match x with
  | none => none
  | some i => if i < cn σ k then some i else none
theorem dr_of {σ : cS} {k : Nat} {x : Option Nat} {i : Nat} (h : dr σ k x = some i) : x = some i ∧ i < cn σ k := by
  cases x with
  | none => cases h
  | some j =>
    unfold dr at h
    by_cases q : j < cn σ k
    · simp only [if_pos q] at h; cases h; exact ⟨rfl, q⟩
    · simp only [if_neg q] at h; cases h
theorem dr_mk {σ : cS} {k i : Nat} (h : i < cn σ k) : dr σ k (some i) = some i := by
  show (if i < cn σ k then some i else none) = some i
  rw [if_pos h]
section CB
variable {D : va_G} {ca : Nat → ClassId} {b : Bool} {A : Nat → Prop} {H0 H H1 : Heap} {σ0 σ σ' : cS} {α0 α : cAl} {locs locs1 : List Loc}
/-- one that is there since the constructors -/
theorem cM.cst (hM : cM D ca true A H0 σ0 α0 σ α H locs) (k j : Nat) (h : (decide (k < 18) && decide (j < cLb.getD k 0)) = true) : dr σ k (some j) = some j := by
  simp only [Bool.and_eq_true, decide_eq_true_eq] at h
  exact dr_mk (Nat.lt_of_lt_of_le h.2 ((hM.2.2.1.1 rfl).2.1 k h.1))
theorem cP.upd {k i : Nat} (hP : cP D ca α σ H) (hD : cD A α σ) (hk : k < 18) (hi : i < cn σ k) (hn : cn σ' = cn σ) (h1 : va_at D cCl (α k i, cE ca α σ' k i) H1) (oq : ∀ q, q ≠ α k i → H1[q]? = H[q]?) (he : ∀ k' i', ¬ (k' = k ∧ i' = i) → cE ca α σ' k' i' = cE ca α σ k' i') (hz : ¬ (k = 17 ∧ i = 0) := by omega) : cP D ca α σ' H1 := by
  intro k' i' hk' hi'
  rw [hn] at hi'
  by_cases q : k' = k ∧ i' = i
  · obtain ⟨rfl, rfl⟩ := q; exact cAt.mk hz h1
  · rw [he k' i' q]
    exact (hP k' i' hk' hi').kept (oq _ fun e => q (hD.1 k' i' k i hk' hk hi' hi e))
theorem uI_e {k i f : Nat} {v : Int32} (k' i' : Nat) (q : ¬ (k' = k ∧ i' = i)) : cE ca α (uI σ k i f v) k' i' = cE ca α σ k' i' := by
  have e : ∀ f', cI (uI σ k i f v) k' i' f' = cI σ k' i' f' := fun f' => if_neg fun h => q ⟨h.1, h.2.1⟩
  have e2 : cI (uI σ k i f v) k' i' = cI σ k' i' := funext e
  unfold cE
  rw [e2, show cV α (uI σ k i f v) k' i' = cV α σ k' i' from funext fun f' => by unfold cV; rw [e f']; rfl]
  rfl
theorem uJ_e {k i f : Nat} {v : Int64} (k' i' : Nat) (q : ¬ (k' = k ∧ i' = i)) : cE ca α (uJ σ k i f v) k' i' = cE ca α σ k' i' := by
  have e : ∀ f', cJ (uJ σ k i f v) k' i' f' = cJ σ k' i' f' := fun f' => if_neg fun h => q ⟨h.1, h.2.1⟩
  have e3 : cV α (uJ σ k i f v) k' i' = cV α σ k' i' := funext fun f' => by unfold cV; rw [e f']; rfl
  unfold cE
  rw [e3]
  by_cases h : k' = 15
  · subst h; rw [show cJ (uJ σ k i f v) 15 i' = cJ σ 15 i' from funext e]; rfl
  · rw [if_neg h, if_neg h]; rfl
theorem uR_e {k i f : Nat} {v : Option Nat} (k' i' : Nat) (q : ¬ (k' = k ∧ i' = i)) : cE ca α (uR σ k i f v) k' i' = cE ca α σ k' i' := by
  have e : ∀ f', cR (uR σ k i f v) k' i' f' = cR σ k' i' f' := fun f' => if_neg fun h => q ⟨h.1, h.2.1⟩
  have e3 : cV α (uR σ k i f v) k' i' = cV α σ k' i' := funext fun f' => by unfold cV; rw [e f']; rfl
  unfold cE
  rw [e3]
  by_cases h : k' = 17
  · subst h; rw [show cR (uR σ k i f v) 17 i' = cR σ 17 i' from funext e]; rfl
  · rw [if_neg h, if_neg h]; rfl
theorem cE_obj {k i : Nat} (hk : k < 12) : cE ca α σ k i = .inr (k, (List.range (cNn k)).map (cV α σ k i)) := if_pos hk
theorem cV_at {k i f : Nat} (hf : f < cNn k) : ((List.range (cNn k)).map (cV α σ k i))[f]? = some (cV α σ k i f) := by rw [List.getElem?_map, List.getElem?_range hf]; rfl
theorem uI_o {k i f : Nat} {v : Int32} (hk : k < 12) (hf : cK k f ≠ 1 ∧ cK k f ≠ 2) : Sum.inr (k, ((List.range (cNn k)).map (cV α σ k i)).set f (.int v)) = cE ca α (uI σ k i f v) k i := by
  rw [cE_obj hk]
  refine congrArg (fun l => Sum.inr (k, l)) (xx_map_set fun j hj => ?_)
  by_cases h : j = f
  · subst h; rw [if_pos rfl]; unfold cV; rw [if_neg hf.2, if_neg hf.1]; exact congrArg Value.int (if_pos ⟨rfl, rfl, rfl⟩)
  · rw [if_neg h]; unfold cV; rw [show cI (uI σ k i f v) k i j = cI σ k i j from if_neg fun q => h q.2.2]; rfl
theorem uJ_o {k i f : Nat} {v : Int64} (hk : k < 12) (hf : cK k f = 1) : Sum.inr (k, ((List.range (cNn k)).map (cV α σ k i)).set f (.long v)) = cE ca α (uJ σ k i f v) k i := by
  rw [cE_obj hk]
  refine congrArg (fun l => Sum.inr (k, l)) (xx_map_set fun j hj => ?_)
  by_cases h : j = f
  · subst h; rw [if_pos rfl]; unfold cV; rw [if_neg (by omega), if_pos hf]; exact congrArg Value.long (if_pos ⟨rfl, rfl, rfl⟩)
  · rw [if_neg h]; unfold cV; rw [show cJ (uJ σ k i f v) k i j = cJ σ k i j from if_neg fun q => h q.2.2]; rfl
theorem uR_o {k i f : Nat} {v : Option Nat} (hk : k < 12) (hf : cK k f = 2) : Sum.inr (k, ((List.range (cNn k)).map (cV α σ k i)).set f (cr α (cTg k f) v)) = cE ca α (uR σ k i f v) k i := by
  rw [cE_obj hk]
  refine congrArg (fun l => Sum.inr (k, l)) (xx_map_set fun j hj => ?_)
  by_cases h : j = f
  · subst h; rw [if_pos rfl]; unfold cV; rw [if_pos hf]; rw [show cR (uR σ k i j v) k i j = v from if_pos ⟨rfl, rfl, rfl⟩]
  · rw [if_neg h]; unfold cV; rw [show cR (uR σ k i f v) k i j = cR σ k i j from if_neg fun q => h q.2.2]; rfl
theorem uI_a {k i f : Nat} {v : Int32} (hk : 12 ≤ k) (hk2 : k ≠ 15 ∧ k ≠ 17) : (Sum.inl (ca k, cln σ k i, .inl (upd (cI σ k i) f v)) : va_E) = cE ca α (uI σ k i f v) k i := by
  unfold cE
  rw [if_neg (by omega), if_neg hk2.1, if_neg hk2.2]
  have e : upd (cI σ k i) f v = cI (uI σ k i f v) k i := funext fun j => by
    show (if j = f then v else cI σ k i j) = if k = k ∧ i = i ∧ j = f then v else cI σ k i j
    by_cases h : j = f <;> simp [h]
  rw [e]; rfl
theorem uJ_a {i f : Nat} {v : Int64} : (Sum.inl (ca 15, cln σ 15 i, .inr (.inl (vp_updL (cJ σ 15 i) f v))) : va_E) = cE ca α (uJ σ 15 i f v) 15 i := by
  unfold cE
  rw [if_neg (by omega), if_pos rfl]
  have e : vp_updL (cJ σ 15 i) f v = cJ (uJ σ 15 i f v) 15 i := funext fun j => by
    show (if j = f then v else cJ σ 15 i j) = if 15 = 15 ∧ i = i ∧ j = f then v else cJ σ 15 i j
    by_cases h : j = f <;> simp [h]
  rw [e]; rfl
theorem cE_arr {k i : Nat} (hk : 12 ≤ k) (h : k ≠ 15 ∧ k ≠ 17) : cE ca α σ k i = .inl (ca k, cln σ k i, .inl (cI σ k i)) := by unfold cE; rw [if_neg (by omega), if_neg h.1, if_neg h.2]
theorem cE_arrJ {i : Nat} : cE ca α σ 15 i = .inl (ca 15, cln σ 15 i, .inr (.inl (cJ σ 15 i))) := by unfold cE; rw [if_neg (by omega), if_pos rfl]
theorem cE_arrR {i : Nat} : cE ca α σ 17 i = .inl (ca 17, cln σ 17 i, .inr (.inr (.inr (.inr (fun j => (cR σ 17 i j).map (α (cel σ i))))))) := by unfold cE; rw [if_neg (by omega), if_neg (by omega), if_pos rfl]
/-- one cell of the world, as a world -/
theorem cP.one {k i : Nat} (hP : cP D ca α σ H) (hk : k < 18) (hi : i < cn σ k) (hz : ¬ (k = 17 ∧ i = 0) := by omega) : va_P D cCl [(α k i, cE ca α σ k i)] H := fun j q hj => by
  match j, hj with
  | 0, hj => cases hj; exact (hP k i hk hi).ob hz
  | j + 1, hj => simp at hj
/-- the empty row's length -/
theorem cP.z0 (hP : cP D ca α σ H) (hi : 0 < cn σ 17) : cln σ 17 0 = 0 := by
  obtain ⟨c, g, cell, h1, h2, -⟩ := (hP 17 0 (by omega) hi).zz
  have h3 : cE ca α σ 17 0 = .inl (c, g) := h1
  rw [cE_arrR] at h3
  cases h3
  exact h2
end CB
theorem c_in : ∀ k, k < 12 → ∀ w ∈ u_ws (cRn k) (cTt k) (cNn k), w ∈ wl := by
  have h : ∀ k, k < 12 → ∀ f, f < cNn k → (tables_1[((([[325, 327, 329, 331, 333, 335, 337], [63, 65, 67, 69], [130, 132, 134, 136, 138, 140, 142, 144, 146, 148, 150, 152, 154, 156, 158, 160, 162], [175, 177], [219, 221, 223], [245, 247, 249, 251, 253, 255], [276, 278, 280, 282], [994, 996, 998, 1000, 1002, 1004], [951, 953, 955], [1453, 1455, 1457], [209, 205, 207], [308, 310, 312, 314]] : List (List Nat)).getD k []).getD f 0)]? = some (u_lay (cRn k) (cTt k) f) ∧ goodWord (u_lay (cRn k) (cTt k) f) = true) := by decide +kernel
  intro k hk w hw
  obtain ⟨f, hf, rfl⟩ := List.mem_map.mp hw
  exact wl_in (h k hk f (List.mem_range.mp hf))
theorem c_tyok : ∀ k, k < 12 → ∀ f, f < cNn k → parseFieldDescriptor (cTt k f).2.2.1 = some (cTy k f) := by decide +kernel
theorem c_nm : ∀ k, k < 12 → ∀ a, a < cNn k → ∀ b, b < cNn k → a ≠ b → (cTt k a).2.1 ≠ (cTt k b).2.1 := by decide +kernel
theorem c_ty0 : ∀ k, k < 12 → ∀ f, f < cNn k → cK k f = 0 → cTy k f = .int := by decide +kernel
theorem c_ty6 : ∀ k, k < 12 → ∀ f, f < cNn k → cK k f = 6 → cTy k f = .boolean := by decide +kernel
theorem c_ty7 : ∀ k, k < 12 → ∀ f, f < cNn k → cK k f = 7 → cTy k f = .byte := by decide +kernel
theorem c_ty1 : ∀ k, k < 12 → ∀ f, f < cNn k → cK k f = 1 → cTy k f = .long := by decide +kernel
def c_isR (t : FieldType) : Bool := match t with
  | .object _ => true
  | .array _ => true
  | _ => false
theorem c_ty2 : ∀ k, k < 12 → ∀ f, f < cNn k → cK k f = 2 → c_isR (cTy k f) = true := by decide +kernel
theorem c_narR {t : FieldType} (h : c_isR t = true) (r : Option Nat) : narrow t (va_rf r) = va_rf r ∧ fits t (va_rf r) = true := by
  cases r <;> cases t <;> first | exact ⟨rfl, rfl⟩ | exact absurd h (by simp [c_isR])
