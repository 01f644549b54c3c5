/-! The class's states: what a write makes of them; burning. -/
def cWk : List (Nat × Nat) := [(2, 0), (15, 0), (13, 0), (15, 1), (15, 2), (12, 2), (12, 3), (12, 4), (12, 5), (12, 6), (12, 7), (12, 8), (12, 9), (14, 1)]
def cLbs (σ : cS) : Prop := ∀ k, k < 18 → cLb.getD k 0 ≤ cn σ k
theorem cLbs.fr {ps : List (Nat × Nat)} {σ σ' : cS} (h : cLbs σ) (hf : cFr ps σ σ') : cLbs σ' := fun k hk => Nat.le_trans (h k hk) (hf.1 k)
theorem cWk_lb : ∀ q ∈ cWk, q.1 < 18 ∧ q.2 < cLb.getD q.1 0 := by decide
theorem CWd.fr {ps : List (Nat × Nat)} {σ σ' : cS} {w : Wd} (hW : CWd σ w) (hl : cLbs σ) (h : cFr ps σ σ') (hk : ∀ q ∈ ps, q ∉ cWk) : CWd σ' w := by
  have g : ∀ k i, (k, i) ∈ cWk → cI σ' k i = cI σ k i ∧ cJ σ' k i = cJ σ k i := fun k i q => by
    have q2 := cWk_lb _ q
    obtain ⟨e1, e2, -⟩ := (h.2 k i (Nat.lt_of_lt_of_le q2.2 (hl k q2.1))).2.2 fun z => hk _ z q
    exact ⟨e1, e2⟩
  have gi : ∀ k i, (k, i) ∈ cWk → cI σ' k i = cI σ k i := fun k i q => (g k i q).1
  have gj : ∀ k i, (k, i) ∈ cWk → cJ σ' k i = cJ σ k i := fun k i q => (g k i q).2
  unfold CWd
  rw [gi 2 0 (by decide), gi 13 0 (by decide), gi 12 2 (by decide), gi 12 3 (by decide), gi 12 4 (by decide), gi 12 5 (by decide), gi 12 6 (by decide), gi 12 7 (by decide), gi 12 8 (by decide), gi 12 9 (by decide), gi 14 1 (by decide), gj 15 0 (by decide), gj 15 1 (by decide), gj 15 2 (by decide)]
  exact hW
/-- the cells of a State -/
def cSc (i : Nat) : List (Nat × Nat) := [(6, i), (12, 13 + 2 * i), (12, 14 + 2 * i), (13, 1 + i)]
theorem cSc_W (i : Nat) : ∀ q ∈ cSc i, q ∉ cWk := by
  intro q hq
  simp only [cSc, List.mem_cons, List.not_mem_nil, or_false] at hq
  rcases hq with rfl | rfl | rfl | rfl <;> simp [cWk] <;> omega
theorem cSc_ne {i j : Nat} (h : i ≠ j) : ∀ q ∈ cSc i, q ∉ cSc j := by
  intro q hq
  simp only [cSc, List.mem_cons, List.not_mem_nil, or_false] at hq ⊢
  rcases hq with rfl | rfl | rfl | rfl <;> simp <;> omega
/-- a State that is not written stays -/
theorem RSt.fr {ps : List (Nat × Nat)} {σ σ' : cS} {i : Nat} {s : St} (hm : RSt σ i s) (h : cFr ps σ σ') (hk : ∀ q ∈ ps, q ∉ cSc i) : RSt σ' i s := by
  obtain ⟨⟨a1, a2, a3, a4⟩, ⟨b1, b2, b3, b4, b5⟩, e0, hm⟩ := hm
  have g6 := (h.2 6 i a1).2.2 fun z => hk _ z (by simp [cSc])
  have g1 := h.2 12 (13 + 2 * i) (by omega)
  have g2 := h.2 12 (14 + 2 * i) b1
  have g3 := h.2 13 (1 + i) b2
  have f1 := g1.2.2 fun z => hk _ z (by simp [cSc])
  have f2 := g2.2.2 fun z => hk _ z (by simp [cSc])
  have f3 := g3.2.2 fun z => hk _ z (by simp [cSc])
  refine ⟨⟨Nat.lt_of_lt_of_le a1 (h.1 6), ?_, ?_, ?_⟩, ⟨Nat.lt_of_lt_of_le b1 (h.1 12), Nat.lt_of_lt_of_le b2 (h.1 13), g1.1.trans b3, g2.1.trans b4, g3.1.trans b5⟩, ?_, fun x hx => ?_⟩
  · rw [g6.2.2]; exact a2
  · rw [g6.2.2]; exact a3
  · rw [g6.2.2]; exact a4
  · rw [g6.1]; exact e0
  · rw [f1.1, f2.1, f3.1]; exact hm x hx
theorem uI_at (σ : cS) (k i f : Nat) (v : Int32) (j : Nat) : cI (uI σ k i f v) k i j = if j = f then v else cI σ k i j := by
  show (if k = k ∧ i = i ∧ j = f then v else cI σ k i j) = _
  simp
theorem uI_ne (σ : cS) {k i k' i' : Nat} (f : Nat) (v : Int32) (h : ¬ (k' = k ∧ i' = i)) : cI (uI σ k i f v) k' i' = cI σ k' i' := funext fun j => if_neg fun z => h ⟨z.1, z.2.1⟩
def sFu (s : St) (x v : Nat) : St := (s.1, s.2.1, (fun y => if y = x then v else s.2.2.1 y), s.2.2.2)
def sOn (s : St) (x : Nat) (b : Bool) : St := (s.1, s.2.1, s.2.2.1, fun y => if y = x then b else s.2.2.2 y)
def sRm (s : St) (r : Nat) : St := (r, s.2)
theorem RSt.uRm {σ : cS} {i : Nat} {s : St} (h : RSt σ i s) (r : Nat) : RSt (uI σ 6 i 0 (nI r)) i (sRm s r) := by
  refine ⟨h.1, h.2.1, ?_, fun x hx => ?_⟩
  · rw [uI_at]; rfl
  · rw [uI_ne _ _ _ (by omega), uI_ne _ _ _ (by omega), uI_ne _ _ _ (by omega)]
    exact h.2.2.2 x hx
theorem RSt.uPl {σ : cS} {i : Nat} {s : St} (h : RSt σ i s) (x v : Nat) : RSt (uI σ 12 (13 + 2 * i) x (nI v)) i (sPut s x v) := by
  refine ⟨h.1, h.2.1, ?_, fun y hy => ?_⟩
  · rw [uI_ne _ _ _ (by omega)]; exact h.2.2.1
  · rw [uI_at, uI_ne _ _ _ (by omega), uI_ne _ _ _ (by omega)]
    obtain ⟨e1, e2, e3⟩ := h.2.2.2 y hy
    refine ⟨?_, e2, e3⟩
    show _ = nI (if y = x then v else s.2.1 y)
    split
    · rfl
    · exact e1
theorem RSt.uFu {σ : cS} {i : Nat} {s : St} (h : RSt σ i s) (x v : Nat) : RSt (uI σ 12 (14 + 2 * i) x (nI v)) i (sFu s x v) := by
  refine ⟨h.1, h.2.1, ?_, fun y hy => ?_⟩
  · rw [uI_ne _ _ _ (by omega)]; exact h.2.2.1
  · rw [uI_at, uI_ne _ _ _ (by omega), uI_ne _ _ _ (by omega)]
    obtain ⟨e1, e2, e3⟩ := h.2.2.2 y hy
    refine ⟨e1, ?_, e3⟩
    show _ = nI (if y = x then v else s.2.2.1 y)
    split
    · rfl
    · exact e2
theorem RSt.uOn {σ : cS} {i : Nat} {s : St} (h : RSt σ i s) (x : Nat) (b : Bool) : RSt (uI σ 13 (1 + i) x (bI b)) i (sOn s x b) := by
  refine ⟨h.1, h.2.1, ?_, fun y hy => ?_⟩
  · rw [uI_ne _ _ _ (by omega)]; exact h.2.2.1
  · rw [uI_at, uI_ne _ _ _ (by omega), uI_ne _ _ _ (by omega)]
    obtain ⟨e1, e2, e3⟩ := h.2.2.2 y hy
    refine ⟨e1, e2, ?_⟩
    show _ = bI (if y = x then b else s.2.2.2 y)
    split
    · rfl
    · exact e3
theorem sBurnTo_step (w : Wd) (s : St) {k : Nat} (h : sBrn w s k = true) : sBurnTo w s (k + 1) = sOn (sFu (sBurnTo w s k) k (s.fu k - 1)) k (decide (1 < s.fu k)) := by
  have e1 : ∀ x, (sBurnTo w s (k + 1)).2.2.1 x = (sOn (sFu (sBurnTo w s k) k (s.fu k - 1)) k (decide (1 < s.fu k))).2.2.1 x := fun x => by
    show _ = if x = k then s.fu k - 1 else (sBurnTo w s k).2.2.1 x
    by_cases q : x = k
    · subst q; rw [if_pos rfl]; exact (sBurnTo_on w s h).1
    · rw [if_neg q]; exact (sBurnTo_ne w s q).1
  have e2 : ∀ x, (sBurnTo w s (k + 1)).2.2.2 x = (sOn (sFu (sBurnTo w s k) k (s.fu k - 1)) k (decide (1 < s.fu k))).2.2.2 x := fun x => by
    show _ = if x = k then decide (1 < s.fu k) else (sBurnTo w s k).2.2.2 x
    by_cases q : x = k
    · subst q; rw [if_pos rfl]; exact (sBurnTo_on w s h).2
    · rw [if_neg q]; exact (sBurnTo_ne w s q).2
  exact congr (congrArg Prod.mk rfl) (congr (congrArg Prod.mk rfl) (congr (congrArg Prod.mk (funext e1)) (funext e2)))
