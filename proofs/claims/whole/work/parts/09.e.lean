/-! The world as one list of cells; rows of references stored, made and copied. -/
def cL (ca : Nat → ClassId) (α : cAl) (σ : cS) : va_W := (List.range 18).flatMap fun k => ((List.range (cn σ k)).filter (fun i => !(k == 17 && i == 0))).map fun i => (α k i, cE ca α σ k i)
theorem cL_mem {ca : Nat → ClassId} {α : cAl} {σ : cS} {x : Nat × va_E} : x ∈ cL ca α σ ↔ ∃ k i, k < 18 ∧ i < cn σ k ∧ ¬ (k = 17 ∧ i = 0) ∧ x = (α k i, cE ca α σ k i) := by
  unfold cL
  simp only [List.mem_flatMap, List.mem_map, List.mem_filter, List.mem_range, Bool.not_eq_true', Bool.and_eq_false_imp, beq_iff_eq, beq_eq_false_iff_ne, ne_eq]
  constructor
  · rintro ⟨k, hk, i, ⟨hi, h⟩, rfl⟩
    exact ⟨k, i, hk, hi, fun q => h q.1 q.2, rfl⟩
  · rintro ⟨k, i, hk, hi, h, rfl⟩
    exact ⟨k, hk, i, ⟨hi, fun q1 q2 => h ⟨q1, q2⟩⟩, rfl⟩
theorem cL_at {ca : Nat → ClassId} {α : cAl} {σ : cS} {k i : Nat} (hk : k < 18) (hi : i < cn σ k) (h : ¬ (k = 17 ∧ i = 0)) : ∃ q : Nat, (cL ca α σ)[q]? = some (α k i, cE ca α σ k i) := List.getElem?_of_mem (cL_mem.mpr ⟨k, i, hk, hi, h, rfl⟩)
section CLL
variable {D : va_G} {ca : Nat → ClassId} {b : Bool} {A : Nat → Prop} {H0 H H1 : Heap} {σ0 σ σ' : cS} {α0 α : cAl} {locs locs1 : List Loc}
theorem cL_P (hP : cP D ca α σ H) : va_P D cCl (cL ca α σ) H := fun j q hj => by
  obtain ⟨k, i, hk, hi, hz, rfl⟩ := cL_mem.mp (List.mem_of_getElem? hj)
  exact (hP k i hk hi).ob hz
theorem cL_nd (hD : cD A α σ) : (cL ca α σ).Pairwise (fun x y => x.1 ≠ y.1) := by
  unfold cL
  rw [List.pairwise_flatMap]
  refine ⟨fun k hk => ?_, ?_⟩
  · rw [List.pairwise_map]
    refine List.Pairwise.imp_of_mem (R := (· < ·)) (fun {i j} h1 h2 h3 => ?_) (List.Pairwise.filter _ List.pairwise_lt_range)
    intro e
    have h4 := hD.1 k i k j (List.mem_range.mp hk) (List.mem_range.mp hk) (List.mem_range.mp ((List.mem_filter.mp h1).1)) (List.mem_range.mp ((List.mem_filter.mp h2).1)) e
    omega
  · refine List.Pairwise.imp_of_mem (R := (· < ·)) (fun {k k'} h1 h2 h3 => ?_) List.pairwise_lt_range
    intro x hx y hy e
    obtain ⟨i, hi, rfl⟩ := List.mem_map.mp hx
    obtain ⟨j, hj, rfl⟩ := List.mem_map.mp hy
    have h4 := hD.1 k i k' j (List.mem_range.mp h1) (List.mem_range.mp h2) (List.mem_range.mp ((List.mem_filter.mp hi).1)) (List.mem_range.mp ((List.mem_filter.mp hj).1)) e
    omega
theorem cL_D (hD : cD A α σ) : va_D A (cL ca α σ) := by
  refine ⟨fun i j p q hi hj e => ?_, fun j q hj => ?_⟩
  · have h := List.pairwise_iff_getElem.mp (cL_nd (ca := ca) hD)
    obtain ⟨hi1, rfl⟩ := List.getElem?_eq_some_iff.mp hi
    obtain ⟨hj1, rfl⟩ := List.getElem?_eq_some_iff.mp hj
    rcases Nat.lt_trichotomy i j with g | g | g
    · exact absurd e (h i j hi1 hj1 g)
    · exact g
    · exact absurd e.symm (h j i hj1 hi1 g)
  · obtain ⟨k, i, hk, hi, h, rfl⟩ := cL_mem.mp (List.mem_of_getElem? hj)
    exact hD.2 k i hk hi h
/-- one cell set anew in the list, by a change of the state at that place alone -/
theorem cL_set {k i q : Nat} (hP : cP D ca α σ H) (hD : cD A α σ) (hk : k < 18) (hi : i < cn σ k) (hz : ¬ (k = 17 ∧ i = 0)) (hq : (cL ca α σ)[q]? = some (α k i, cE ca α σ k i)) (h1 : va_P D cCl ((cL ca α σ).set q (α k i, cE ca α σ' k i)) H1) (hS : ∀ a : Nat, a < H.size → ¬ A a → H1[a]? = H[a]?) (hn : cn σ' = cn σ) (h17 : ¬ A (α 17 0) ∨ cn σ 17 = 0) (he : ∀ k' i', ¬ (k' = k ∧ i' = i) → k' < 18 → i' < cn σ k' → cE ca α σ' k' i' = cE ca α σ k' i') : cP D ca α σ' H1 := by
  intro k' i' hk' hi'
  rw [hn] at hi'
  by_cases e : k' = k ∧ i' = i
  · obtain ⟨rfl, rfl⟩ := e
    have := h1 q (α k' i', cE ca α σ' k' i') (by rw [List.getElem?_set_self (List.getElem?_eq_some_iff.mp hq).1])
    exact cAt.mk hz this
  · rw [he k' i' e hk' hi']
    by_cases z : k' = 17 ∧ i' = 0
    · obtain ⟨rfl, rfl⟩ := z
      have h2 := hP 17 0 hk' hi'
      refine h2.kept (hS _ h2.lt (h17.resolve_right (by omega)))
    · obtain ⟨q2, hq2⟩ := cL_at (ca := ca) (α := α) hk' hi' z
      refine cAt.mk z (h1 q2 _ ?_)
      rw [List.getElem?_set_ne, hq2]
      intro e2
      subst e2
      have h3 := Prod.mk.inj (Option.some.inj (hq.symm.trans hq2))
      exact e (by have := hD.1 k i k' i' hk hk' hi hi' h3.1; omega)
end CLL
