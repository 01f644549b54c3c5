/-! A further node's object: the class's side. -/
def sZero : St := (0, fun _ => 0, fun _ => 0, fun _ => false)
theorem dr_eq {σ : cS} {k i : Nat} {x : Option Nat} (h : x = some i) (hi : i < cn σ k) : dr σ k x = some i := by rw [h]; exact dr_mk hi
section D18
variable {σ : cS} {i j : Nat}
theorem fc_X6init_s (hi : i < cn σ 6) (h0 : i ≠ 0) (z : cI σ 6 i 0 = 0) (h12 : cn σ 12 = 13 + 2 * i) (h13 : cn σ 13 = 1 + i) : ∃ σ', fc_X6_init σ (some i) = some σ' ∧ RSt σ' i sZero ∧ cFr [(6, i)] σ σ' ∧ ∀ k, cn σ' k = if k = 12 then cn σ 12 + 2 else if k = 13 then cn σ 13 + 1 else cn σ k := by
  obtain ⟨σ1, e1⟩ : ∃ σ1, σ1 = uN σ 12 12 0 := ⟨_, rfl⟩
  obtain ⟨σ2, e2⟩ : ∃ σ2, σ2 = uR σ1 6 i 1 (some (cn σ 12)) := ⟨_, rfl⟩
  obtain ⟨σ3, e3⟩ : ∃ σ3, σ3 = uN σ2 12 12 0 := ⟨_, rfl⟩
  obtain ⟨σ4, e4⟩ : ∃ σ4, σ4 = uR σ3 6 i 2 (some (cn σ2 12)) := ⟨_, rfl⟩
  obtain ⟨σ5, e5⟩ : ∃ σ5, σ5 = uN σ4 13 12 0 := ⟨_, rfl⟩
  obtain ⟨σ6, e6⟩ : ∃ σ6, σ6 = uR σ5 6 i 3 (some (cn σ4 13)) := ⟨_, rfl⟩
  have n1' : ∀ k, cn σ1 k = if k = 12 then cn σ 12 + 1 else cn σ k := fun k => by rw [e1, cn_uN]
  have n2' : ∀ k, cn σ2 k = cn σ1 k := fun k => by rw [e2]; rfl
  have n3' : ∀ k, cn σ3 k = if k = 12 then cn σ2 12 + 1 else cn σ2 k := fun k => by rw [e3, cn_uN]
  have n4' : ∀ k, cn σ4 k = cn σ3 k := fun k => by rw [e4]; rfl
  have n5' : ∀ k, cn σ5 k = if k = 13 then cn σ4 13 + 1 else cn σ4 k := fun k => by rw [e5, cn_uN]
  have n6' : ∀ k, cn σ6 k = cn σ5 k := fun k => by rw [e6]; rfl
  have a1 : cn σ2 12 = 14 + 2 * i := by rw [n2', n1', if_pos rfl]; omega
  have a2 : cn σ4 13 = 1 + i := by rw [n4', n3', if_neg (by decide), n2', n1', if_neg (by decide)]; exact h13
  have nf : ∀ k, cn σ6 k = if k = 12 then cn σ 12 + 2 else if k = 13 then cn σ 13 + 1 else cn σ k := by
    intro k
    rw [n6', n5']
    by_cases k13 : k = 13
    · rw [if_pos k13, if_neg (by omega), if_pos k13, a2, h13]
    · rw [if_neg k13, n4', n3']
      by_cases k12 : k = 12
      · rw [if_pos k12, if_pos k12, a1, h12]
        omega
      · rw [if_neg k12, if_neg k12, if_neg k13, n2', n1', if_neg k12]
  have d1 : dr σ1 6 (some i) = some i := dr_mk (by rw [n1', if_neg (by decide)]; exact hi)
  have d3 : dr σ3 6 (some i) = some i := dr_mk (by rw [n3', if_neg (by decide), n2', n1', if_neg (by decide)]; exact hi)
  have d5 : dr σ5 6 (some i) = some i := dr_mk (by rw [n5', if_neg (by decide), n4', n3', if_neg (by decide), n2', n1', if_neg (by decide)]; exact hi)
  have q0 : (¬ lvq σ 6 (some i) = true) ↔ False := lvq_mk hi
  have q1 : (¬ lvq σ1 12 (some (cn σ 12)) = true) ↔ False := lvq_mk (by rw [n1', if_pos rfl]; omega)
  have q2 : (¬ lvq σ2 6 (some i) = true) ↔ False := lvq_mk (by rw [n2', n1', if_neg (by decide)]; exact hi)
  have q3 : (¬ lvq σ3 12 (some (cn σ2 12)) = true) ↔ False := lvq_mk (by rw [n3', if_pos rfl]; omega)
  have q4 : (¬ lvq σ4 6 (some i) = true) ↔ False := lvq_mk (by rw [n4', n3', if_neg (by decide), n2', n1', if_neg (by decide)]; exact hi)
  have q5 : (¬ lvq σ5 13 (some (cn σ4 13)) = true) ↔ False := lvq_mk (by rw [n5', if_pos rfl]; omega)
  have h0' : ¬ ¬ i ≠ 0 := fun h => h h0
  refine ⟨σ6, ?_, ?_, ?_, nf⟩
  · unfold fc_X6_init
    rw [dr_mk hi, Option.bind_some]
    simp only [q0, if_false]
    rw [← e1, d1, Option.bind_some, if_neg h0']
    simp only [q1, if_false]
    rw [← e2]
    simp only [q2, if_false]
    rw [← e3, d3, Option.bind_some, if_neg h0']
    simp only [q3, if_false]
    rw [← e4]
    simp only [q4, if_false]
    rw [← e5, d5, Option.bind_some, if_neg h0']
    simp only [q5, if_false]
    rw [← e6]
  · have r1 : cR σ6 6 i 1 = some (13 + 2 * i) := by
      rw [e6, uR_at, if_neg (by decide), e5, zR_uN, if_neg (fun z => absurd z.1 (by decide)), e4, uR_at, if_neg (by decide), e3, zR_uN, if_neg (fun z => absurd z.1 (by decide)), e2, uR_at, if_pos rfl, h12]
    have r2 : cR σ6 6 i 2 = some (14 + 2 * i) := by
      rw [e6, uR_at, if_neg (by decide), e5, zR_uN, if_neg (fun z => absurd z.1 (by decide)), e4, uR_at, if_pos rfl, a1]
    have r3 : cR σ6 6 i 3 = some (1 + i) := by
      rw [e6, uR_at, if_pos rfl, a2]
    have I : cI σ6 = cI σ5 := by rw [e6]; rfl
    have I4 : cI σ4 = cI σ3 := by rw [e4]; rfl
    have I2 : cI σ2 = cI σ1 := by rw [e2]; rfl
    have L : cln σ6 = cln σ5 := by rw [e6]; rfl
    have L4 : cln σ4 = cln σ3 := by rw [e4]; rfl
    have L2 : cln σ2 = cln σ1 := by rw [e2]; rfl
    have iA : ∀ x, cI σ6 12 (13 + 2 * i) x = 0 := fun x => by
      rw [I, e5, zI_uN, if_neg (fun z => absurd z.1 (by decide)), I4, e3, zI_uN, a1, if_neg (fun z => by have := z.2; omega), I2, e1, zI_uN, h12, if_pos ⟨rfl, rfl⟩]
    have iB : ∀ x, cI σ6 12 (14 + 2 * i) x = 0 := fun x => by
      rw [I, e5, zI_uN, if_neg (fun z => absurd z.1 (by decide)), I4, e3, zI_uN, a1, if_pos ⟨rfl, rfl⟩]
    have iC : ∀ x, cI σ6 13 (1 + i) x = 0 := fun x => by
      rw [I, e5, zI_uN, a2, if_pos ⟨rfl, rfl⟩]
    have i0 : cI σ6 6 i 0 = 0 := by
      rw [I, e5, zI_uN, if_neg (fun z => absurd z.1 (by decide)), I4, e3, zI_uN, if_neg (fun z => absurd z.1 (by decide)), I2, e1, zI_uN, if_neg (fun z => absurd z.1 (by decide))]
      exact z
    refine ⟨⟨by rw [nf, if_neg (by decide), if_neg (by decide)]; exact hi, r1, r2, r3⟩, ⟨by rw [nf, if_pos rfl]; omega, by rw [nf, if_neg (by decide), if_pos rfl]; omega, ?_, ?_, ?_⟩, i0, fun x _ => ⟨iA x, iB x, iC x⟩⟩
    · rw [L, e5, zL_uN, if_neg (fun z => absurd z.1 (by decide)), L4, e3, zL_uN, a1, if_neg (fun z => by have := z.2; omega), L2, e1, zL_uN, h12, if_pos ⟨rfl, rfl⟩]
    · rw [L, e5, zL_uN, if_neg (fun z => absurd z.1 (by decide)), L4, e3, zL_uN, a1, if_pos ⟨rfl, rfl⟩]
    · rw [L, e5, zL_uN, a2, if_pos ⟨rfl, rfl⟩]
  · rw [e6, e5, e4, e3, e2, e1]
    exact ((((cFr.N.tr (cFr.R List.mem_cons_self)).tr cFr.N).tr (cFr.R List.mem_cons_self)).tr cFr.N).tr (cFr.R List.mem_cons_self)
/-- a node's object -/
def RNd (σ : cS) (j num : Nat) (pa : Option Nat) (c i : Nat) (sg : Int64) : Prop := cI σ 7 j 0 = nI num ∧ cR σ 7 j 1 = pa ∧ cR σ 7 j 2 = some c ∧ cR σ 7 j 3 = some i ∧ cJ σ 7 j 4 = sg ∧ cJ σ 7 j 5 = 0
theorem uJ_at (σ : cS) (k i f : Nat) (v : Int64) (j : Nat) : cJ (uJ σ k i f v) k i j = if j = f then v else cJ σ k i j := by
  show (if k = k ∧ i = i ∧ j = f then v else _) = _
  by_cases q : j = f
  · rw [if_pos q, if_pos ⟨rfl, rfl, q⟩]
  · rw [if_neg q, if_neg (fun h => q h.2.2)]
    rfl
theorem fc_X2init_s {num c : Nat} {pa : Option Nat} {s : St} {sg : Int64} (hj : j < cn σ 7) (hpa : lvq σ 7 pa = true) (hc : c < cn σ 8) (hi : i = cn σ 6) (h0 : i ≠ 0) (h12 : cn σ 12 = 13 + 2 * i) (h13 : cn σ 13 = 1 + i) (h6 : RSt σ 0 s) (z5 : cJ σ 7 j 5 = 0) : ∃ σ', fc_X2_init σ (some j) (nI num) pa (some c) (some 0) sg = some σ' ∧ RNd σ' j num pa c i sg ∧ RSt σ' i s ∧ cFr [(7, j)] σ σ' ∧ ∀ k, cn σ' k = if k = 6 then cn σ 6 + 1 else if k = 12 then cn σ 12 + 2 else if k = 13 then cn σ 13 + 1 else cn σ k := by
  have lf : ∀ {σ1 σ2 : cS} {k : Nat} {x : Option Nat}, lvq σ1 k x = true → cn σ1 k ≤ cn σ2 k → ((¬ lvq σ2 k x = true) ↔ False) := by
    intro σ1 σ2 k x h hk
    cases x with
    | none => exact iff_false_intro fun z => z rfl
    | some a => exact lvq_mk (Nat.lt_of_lt_of_le (of_decide_eq_true h) hk)
  have lm : ∀ {σ1 : cS} {k a : Nat}, a < cn σ1 k → lvq σ1 k (some a) = true := fun h => decide_eq_true h
  have z06 : 0 < cn σ 6 := h6.1.1
  obtain ⟨σ1, e1⟩ : ∃ σ1, σ1 = uN σ 6 0 0 := ⟨_, rfl⟩
  have m1 : ∀ k, cn σ1 k = if k = 6 then cn σ 6 + 1 else cn σ k := fun k => by rw [e1, cn_uN]
  have g1 : ∀ k, cn σ k ≤ cn σ1 k := fun k => by
    rw [m1]; split
    · next h => rw [h]; omega
    · exact Nat.le_refl _
  obtain ⟨σ2, b1, b2, b3, b4⟩ := fc_X6init_s (σ := σ1) (i := i) (by rw [m1, if_pos rfl]; omega) h0 (by rw [e1, zI_uN, hi, if_pos ⟨rfl, rfl⟩]) (by rw [m1, if_neg (by decide)]; exact h12) (by rw [m1, if_neg (by decide)]; exact h13)
  have g2 : ∀ k, cn σ1 k ≤ cn σ2 k := b3.1
  have f1 : cFr [] σ σ1 := by rw [e1]; exact cFr.N
  have f2 : cFr [] σ σ2 := by
    have h : cFr [(6, i)] σ σ2 := (f1.wk (fun q hq => by cases hq)).tr b3
    exact h.ge (by omega)
  obtain ⟨σ3, e3⟩ : ∃ σ3, σ3 = uR σ2 7 j 3 (some i) := ⟨_, rfl⟩
  obtain ⟨σ4, e4⟩ : ∃ σ4, σ4 = uI σ3 7 j 0 (nI num) := ⟨_, rfl⟩
  obtain ⟨σ5, e5⟩ : ∃ σ5, σ5 = uR σ4 7 j 1 pa := ⟨_, rfl⟩
  obtain ⟨σ6, e6⟩ : ∃ σ6, σ6 = uR σ5 7 j 2 (some c) := ⟨_, rfl⟩
  have n6 : cn σ6 = cn σ2 := by rw [e6, e5, e4, e3]; rfl
  have n5 : cn σ5 = cn σ2 := by rw [e5, e4, e3]; rfl
  have n4 : cn σ4 = cn σ2 := by rw [e4, e3]; rfl
  have f6 : cFr [(7, j)] σ2 σ6 := by
    rw [e6, e5, e4, e3]
    exact (((cFr.R List.mem_cons_self).tr (cFr.I List.mem_cons_self)).tr (cFr.R List.mem_cons_self)).tr (cFr.R List.mem_cons_self)
  have r0 : RSt σ6 0 s := (h6.fr f2 (fun q hq => by cases hq)).fr f6 (fun q hq => by rw [List.mem_singleton] at hq; rw [hq]; unfold cSc; simp)
  have ri : RSt σ6 i sZero := b2.fr f6 (fun q hq => by rw [List.mem_singleton] at hq; rw [hq]; unfold cSc; simp)
  obtain ⟨σ7, c1, c2, c3, c4⟩ := fc_copy_s h0 r0 ri
  have i6 : i < cn σ2 6 := b2.1.1
  have ck : cR σ6 7 j 3 = some i := by
    rw [e6, uR_at, if_neg (by decide), e5, uR_at, if_neg (by decide), e4]
    show cR σ3 7 j 3 = _
    rw [e3, uR_at, if_pos rfl]
  have j7 : ∀ {σ' : cS}, (∀ k, cn σ k ≤ cn σ' k) → j < cn σ' 7 := fun h => Nat.lt_of_lt_of_le hj (h 7)
  have le2 : ∀ k, cn σ k ≤ cn σ2 k := fun k => Nat.le_trans (g1 k) (g2 k)
  have nc : (7, j) ∉ cSc i := by unfold cSc; simp
  have hj6 : j < cn σ6 7 := by rw [n6]; exact j7 le2
  obtain ⟨w1, w2, w3⟩ := (c3.2 7 j hj6).2.2 nc
  refine ⟨uJ σ7 7 j 4 sg, ?_, ?_, ?_, ?_, ?_⟩
  · unfold fc_X2_init
    have hcn : cn σ 8 ≤ cn σ 8 := Nat.le_refl _
    simp only [dr_mk hj, Option.bind_some, lf (lm hj) (Nat.le_refl _), lf hpa (Nat.le_refl _), lf (lm hc) (Nat.le_refl _), lf (lm z06) (Nat.le_refl _), if_false]
    rw [← e1, ← hi]
    simp only [dr_mk (show i < cn σ1 6 by rw [m1, if_pos rfl]; omega), Option.bind_some, lf (lm hj) (g1 7), lf hpa (g1 7), lf (lm hc) (g1 8), lf (lm z06) (g1 6), lf (lm (show i < cn σ1 6 by rw [m1, if_pos rfl]; omega)) (Nat.le_refl _), if_false, b1]
    simp only [dr_mk (j7 le2), Option.bind_some, lf (lm i6) (Nat.le_refl _), if_false]
    rw [← e3, ← e4, ← e5, ← e6]
    simp only [lf hpa (show cn σ 7 ≤ cn σ4 7 by rw [n4]; exact le2 7), lf (lm hc) (show cn σ 8 ≤ cn σ5 8 by rw [n5]; exact le2 8), if_false, ck, dr_mk (show i < cn σ6 6 by rw [n6]; exact i6), Option.bind_some, c1, dr_mk (show j < cn σ7 7 by rw [c4]; exact hj6)]
  · have kR : ∀ f, cR (uJ σ7 7 j 4 sg) 7 j f = cR σ6 7 j f := fun f => congrFun w3 f
    have kI : ∀ f, cI (uJ σ7 7 j 4 sg) 7 j f = cI σ6 7 j f := fun f => congrFun w1 f
    refine ⟨?_, ?_, ?_, ?_, ?_, ?_⟩
    · rw [kI, e6, e5]
      show cI σ4 7 j 0 = _
      rw [e4, uI_at, if_pos rfl]
    · rw [kR, e6, uR_at, if_neg (by decide), e5, uR_at, if_pos rfl]
    · rw [kR, e6, uR_at, if_pos rfl]
    · rw [kR]; exact ck
    · rw [uJ_at, if_pos rfl]
    · rw [uJ_at, if_neg (by decide), w2, e6, e5, e4, e3]
      show cJ σ2 7 j 5 = 0
      rw [((f2.2 7 j hj).2.2 (by intro h; cases h)).2.1]
      exact z5
  · exact c2.fr (cFr.J (List.mem_singleton.mpr rfl)) (fun q hq => by rw [List.mem_singleton] at hq; rw [hq]; exact nc)
  · have h : cFr ([(7, j)] ++ cSc i) σ (uJ σ7 7 j 4 sg) := (((f2.wk (fun q hq => by cases hq)).tr (f6.wk (fun q hq => List.mem_append_left _ hq))).tr (c3.wk (fun q hq => List.mem_append_right _ hq))).tr (cFr.J (List.mem_append_left _ (List.mem_singleton.mpr rfl)))
    refine ⟨h.1, fun k x hx => ?_⟩
    obtain ⟨p1, p2, p3⟩ := h.2 k x hx
    refine ⟨p1, p2, fun hn => p3 fun hq => ?_⟩
    rcases List.mem_append.mp hq with hq | hq
    · exact hn hq
    · unfold cSc at hq
      simp at hq
      rcases hq with ⟨rfl, rfl⟩ | ⟨rfl, rfl⟩ | ⟨rfl, rfl⟩ | ⟨rfl, rfl⟩ <;> omega
  · intro k
    show cn σ7 k = _
    rw [c4, n6, b4, m1, m1, m1]
    by_cases k12 : k = 12
    · subst k12; rfl
    · rw [if_neg k12]
      by_cases k13 : k = 13
      · subst k13; rfl
      · rw [if_neg k13, if_neg k12, if_neg k13]
end D18
