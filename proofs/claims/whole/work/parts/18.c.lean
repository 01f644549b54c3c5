/-! A list's further element: the class's side. -/
theorem cFr.ge {ps : List (Nat × Nat)} {σ σ' : cS} {k i : Nat} (h : cFr ((k, i) :: ps) σ σ') (hi : cn σ k ≤ i) : cFr ps σ σ' := ⟨h.1, fun k' i' hi' => by
  obtain ⟨h1, h2, h3⟩ := h.2 k' i' hi'
  refine ⟨h1, h2, fun q => h3 fun z => ?_⟩
  rcases List.mem_cons.mp z with z | z
  · obtain ⟨rfl, rfl⟩ := Prod.mk.inj z
    omega
  · exact q z⟩
theorem cFr.C {ps : List (Nat × Nat)} {σ : cS} {i j n : Nat} (h : (17, j) ∈ ps) : cFr ps σ (uC σ i j n) := ⟨fun _ => Nat.le_refl _, fun k' i' _ => ⟨rfl, fun _ => rfl, fun q => ⟨rfl, rfl, funext fun f' => if_neg fun z => q (by obtain ⟨rfl, rfl, -⟩ := z; exact h)⟩⟩⟩
theorem shr1 : ∀ c, c < 200 → (nI c) >>> ((1 : Int32) &&& 31) = nI (c / 2) := by decide +kernel
theorem uR_ne (σ : cS) {k i k' i' : Nat} (f : Nat) (v : Option Nat) (h : ¬ (k' = k ∧ i' = i)) : cR (uR σ k i f v) k' i' = cR σ k' i' := funext fun j => if_neg fun z => h ⟨z.1, z.2.1⟩
theorem uR_at (σ : cS) (k i f : Nat) (v : Option Nat) (j : Nat) : cR (uR σ k i f v) k i j = if j = f then v else cR σ k i j := by
  show (if k = k ∧ i = i ∧ j = f then v else _) = _
  by_cases q : j = f
  · rw [if_pos q, if_pos ⟨rfl, rfl, q⟩]
  · rw [if_neg q, if_neg (fun h => q h.2.2)]
    rfl
theorem zI_uN (σ : cS) (k n t k' i' f : Nat) : cI (uN σ k n t) k' i' f = if k' = k ∧ i' = cn σ k then 0 else cI σ k' i' f := rfl
theorem zJ_uN (σ : cS) (k n t k' i' f : Nat) : cJ (uN σ k n t) k' i' f = if k' = k ∧ i' = cn σ k then 0 else cJ σ k' i' f := rfl
theorem zR_uN (σ : cS) (k n t k' i' f : Nat) : cR (uN σ k n t) k' i' f = if k' = k ∧ i' = cn σ k then none else cR σ k' i' f := rfl
theorem zL_uN (σ : cS) (k n t k' i' : Nat) : cln (uN σ k n t) k' i' = if k' = k ∧ i' = cn σ k then n else cln σ k' i' := rfl
theorem zE_uN (σ : cS) (k n t i' : Nat) : cel (uN σ k n t) i' = if k = 17 ∧ i' = cn σ 17 then t else cel σ i' := rfl
section C18
variable {l n k e : Nat} {σ : cS}
theorem fc_add_11 {e2 : Nat} (hl : l < cn σ 10) (he : e2 < cn σ 17) (h0 : e2 ≠ 0) (hc : cel σ e2 = k) (hk : k = 7 ∨ k = 9) (hn : n < cn σ k) (hln : n < cln σ 17 e2) (hb : n < 100) : fc_Jx4a65c_add_72be8_11 k σ (some l) (some n) (some e2) (nI n) = some (uI (uR σ 17 e2 n (some n)) 10 l 2 (nI (n + 1))) := by
  have c1 : (nI n).toNatClampNeg = n := jCl (by omega)
  have x1 : ¬ cln σ 17 e2 ≤ n := by omega
  have y : (nI n < (0 : Int32) ∨ False) = False := by
    rw [n0, jLt (by omega) (by omega)]
    simp
  have hl2 : l < cn (uR σ 17 e2 n (some n)) 10 := hl
  unfold fc_Jx4a65c_add_72be8_11
  simp only [dr_mk he, Option.bind_some, h0, not_false_eq_true, not_true_eq_false, if_false, hc, dr_mk hn, hk, c1, x1, y, dr_mk hl2, n1, jAdd]
/-- what is had behind an addition -/
def LAd (σ σ' : cS) (l n k e : Nat) : Prop := CLs σ' l (n + 1) k ∧ cn σ' 10 = cn σ 10 ∧ (∀ j, j ≠ 17 → cn σ' j = cn σ j) ∧ ((cR σ' 10 l 1 = some e ∧ e ≠ 0 ∧ cFr [(10, l), (17, e)] σ σ') ∨ (cR σ' 10 l 1 = some (cn σ 17) ∧ cFr [(10, l)] σ σ'))
theorem fc_ladd_s (h : CLs σ l n k) (hk : k = 7 ∨ k = 9) (hb : n < 100) (hx : n < cn σ k) (h0 : cln σ 17 0 = 0) (h17 : 0 < cn σ 17) (he0 : cR σ 10 l 1 = some e) : ∃ σ', fc_Jx4a65c_add_9ea2d σ (some l) (some n) k = some (1, σ') ∧ LAd σ σ' l n k e := by
  obtain ⟨h1, h2, e', h3, h4, h5, h6, h7, h8⟩ := h
  rw [he0] at h3
  have h3 := Option.some.inj h3
  subst h3
  obtain ⟨σ1, hσ1⟩ : ∃ σ1, σ1 = uI σ 10 l 0 (cI σ 10 l 0 + 1) := ⟨_, rfl⟩
  have f1 : cFr [(10, l)] σ σ1 := by rw [hσ1]; exact cFr.I List.mem_cons_self
  have a1 : l < cn σ1 10 := by rw [hσ1]; exact h1
  have a2 : cI σ1 10 l 2 = nI n := by rw [hσ1, uI_at, if_neg (by decide)]; exact h2
  have a3 : cR σ1 = cR σ := by rw [hσ1]; rfl
  have a4 : cn σ1 = cn σ := by rw [hσ1]; rfl
  have a5 : cln σ1 = cln σ := by rw [hσ1]; rfl
  have a6 : cel σ1 = cel σ := by rw [hσ1]; rfl
  have lk : (¬ lvq σ1 k (some n) = true) ↔ False := lvq_mk (by rw [a4]; exact hx)
  have llk : (¬ lvq σ1 10 (some l) = true) ↔ False := lvq_mk a1
  have fin : ∀ (σ2 : cS) (e2 : Nat), cn σ2 10 = cn σ 10 → e2 < cn σ2 17 → e2 ≠ 0 → cel σ2 e2 = k → n < cn σ2 k → n < cln σ2 17 e2 → cln σ2 17 e2 ≤ 200 → (∀ j, j ≠ 17 → cn σ2 j = cn σ j) → cI σ2 10 l 2 = nI n → cR σ2 10 l 1 = some e2 → (∀ i, i < n → cR σ2 17 e2 i = some i) → ((e2 = e ∧ cFr [(10, l), (17, e)] σ σ2) ∨ (e2 = cn σ 17 ∧ cFr [(10, l)] σ σ2)) → ∃ σ', fc_Jx4a65c_add_72be8_11 k σ2 (some l) (some n) (some e2) (nI n) = some σ' ∧ LAd σ σ' l n k e := by
    intro σ2 e2 c10 he2 hz hcel hnk hln hl200 hcn hI hR hEl hF
    refine ⟨_, fc_add_11 (by rw [c10]; exact h1) he2 hz hcel hk hnk hln hb, ⟨⟨?_, ?_, e2, ?_, he2, hln, fun _ => hcel, fun i hi => ?_, hl200⟩, c10, hcn, ?_⟩⟩
    · show l < cn σ2 10
      rw [c10]; exact h1
    · rw [uI_at, if_pos rfl]
    · show cR (uR σ2 17 e2 n (some n)) 10 l 1 = _
      rw [uR_ne _ _ _ (by omega)]; exact hR
    · show cR (uR σ2 17 e2 n (some n)) 17 e2 i = _
      rw [uR_at]
      by_cases q : i = n
      · rw [if_pos q, q]
      · rw [if_neg q]; exact hEl i (by omega)
    · have hR' : cR (uI (uR σ2 17 e2 n (some n)) 10 l 2 (nI (n + 1))) 10 l 1 = some e2 := by
        show cR (uR σ2 17 e2 n (some n)) 10 l 1 = _
        rw [uR_ne _ _ _ (by omega)]; exact hR
      rcases hF with ⟨he, hF⟩ | ⟨he, hF⟩
      · left
        rw [hR', he]
        refine ⟨rfl, by rw [← he]; exact hz, ?_⟩
        exact (hF.tr (cFr.R (by rw [← he]; exact List.mem_cons_of_mem _ List.mem_cons_self))).tr (cFr.I List.mem_cons_self)
      · right
        rw [hR', he]
        refine ⟨rfl, ?_⟩
        have hF2 : cFr [(17, e2), (10, l)] σ (uI (uR σ2 17 e2 n (some n)) 10 l 2 (nI (n + 1))) := ((hF.wk (fun q hq => List.mem_cons_of_mem _ hq)).tr (cFr.R List.mem_cons_self)).tr (cFr.I (List.mem_cons_of_mem _ List.mem_cons_self))
        rw [he] at hF2
        exact hF2.ge (Nat.le_refl _)
  have key : ∃ σ', fc_Jx4a65c_add_72be8 σ1 (some l) (some n) (cR σ1 10 l 1) (cI σ1 10 l 2) k = some σ' ∧ LAd σ σ' l n k e := by
    unfold fc_Jx4a65c_add_72be8
    rw [a3, he0, a2, dr_mk (show e < cn σ1 17 by rw [a4]; exact h4), Option.bind_some, a5]
    by_cases q : n = cln σ 17 e
    · rw [if_pos (by rw [← q]), dr_mk a1, Option.bind_some]
      simp only [llk, lk, if_false]
      unfold fc_Jx4a65c_grow_d5877 fc_Jx4a65c_grow_92f84
      simp only [dr_mk a1, Option.bind_some, a2, a3, he0, n1, jAdd, dr_mk (show e < cn σ1 17 by rw [a4]; exact h4), a5]
      simp only [← q]
      have big : e ≠ 0 → ∃ σ', (((fc_Jx4a65c_grow_92f84_20 k σ1 (some l) (nI (n + 1)) (nI n)).bind fun r_2 => some (r_2.1, r_2.2)).bind fun r_3 => fc_Jx4a65c_add_72be8_11 k r_3.2 (some l) (some n) r_3.1 (nI n)) = some σ' ∧ LAd σ σ' l n k e := by
        intro hz
        obtain ⟨m, hm⟩ : ∃ m, m = n + (if 1 < n / 2 then n / 2 else 1) := ⟨_, rfl⟩
        have hm1 : n < m ∧ m ≤ 150 := by rw [hm]; split <;> omega
        have nl : fc_J8_newLength_cabcc σ1 (nI n) (nI (n + 1) - nI n) (nI n >>> ((1 : Int32) &&& 31)) = some (nI m, σ1) := by
          unfold fc_J8_newLength_cabcc
          rw [shr1 n (by omega), jSub (by omega), show n + 1 - n = 1 by omega]
          have e1 : nI n + (if nI 1 < nI (n / 2) then nI (n / 2) else nI 1) = nI m := by
            rw [hm]
            by_cases z : 1 < n / 2
            · rw [if_pos z, if_pos (by rw [jLt (by omega) (by omega)]; exact z), jAdd]
            · rw [if_neg z, if_neg (by rw [jLt (by omega) (by omega)]; exact z), jAdd]
          rw [e1, if_neg (show ¬ nI m ≤ 0 by rw [n0, jLe (by omega) (by omega)]; omega), if_neg (show ¬ (2147483639 : Int32) < nI m by rw [show (2147483639 : Int32) = nI 2147483639 from rfl, nI_ltI (by omega) (by omega)]; omega)]
        have cp : fc_AR_copy σ1 (some e) (nI m) k = some (some (cn σ 17), uC (uN σ1 17 m k) e (cn σ 17) n) := by
          unfold fc_AR_copy
          rw [dr_mk (show e < cn σ1 17 by rw [a4]; exact h4), Option.bind_some, a4, a5, a6, ← q, jCl (show m < 100000 by omega)]
          refine (if_neg (fun h => h ⟨?_, by omega, by omega, h6 (Or.inr hz), hz, hk⟩)).trans rfl
          show nI 0 ≤ nI m
          rw [jLe (by omega) (by omega)]; omega
        unfold fc_Jx4a65c_grow_92f84_20
        rw [nl, Option.bind_some, dr_mk a1, Option.bind_some]
        simp only [llk, if_false]
        rw [a3, he0, cp, Option.bind_some]
        obtain ⟨σ2, hσ2⟩ : ∃ σ2, σ2 = uC (uN σ1 17 m k) e (cn σ 17) n := ⟨_, rfl⟩
        have c17 : cn σ2 17 = cn σ 17 + 1 := by
          rw [hσ2]
          show cn (uN σ1 17 m k) 17 = _
          rw [cn_uN, if_pos rfl, a4]
        have cO : ∀ j, j ≠ 17 → cn σ2 j = cn σ j := by
          intro j hj
          rw [hσ2]
          show cn (uN σ1 17 m k) j = _
          rw [cn_uN, if_neg hj, a4]
        have l10 : l < cn σ2 10 := by rw [cO 10 (by decide)]; exact h1
        rw [← hσ2]
        simp only [dr_mk l10, Option.bind_some, lvq_mk (show cn σ 17 < cn σ2 17 by rw [c17]; omega), if_false]
        have fC : cFr [(10, l)] σ σ2 := by
          have g : cFr [(17, cn σ 17), (10, l)] σ σ2 := by
            rw [hσ2]
            exact ((f1.wk (fun q hq => List.mem_cons_of_mem _ hq)).tr cFr.N).tr (cFr.C List.mem_cons_self)
          exact g.ge (Nat.le_refl _)
        have iN : ∀ i f, cI σ2 10 i f = cI σ1 10 i f := by
          intro i f
          rw [hσ2]
          show cI (uN σ1 17 m k) 10 i f = _
          rw [zI_uN, if_neg (fun z => absurd z.1 (by decide))]
        have eN : cR σ2 17 (cn σ 17) = fun f => if f < n then cR σ1 17 e f else none := by
          rw [hσ2]
          funext f
          show (if 17 = 17 ∧ cn σ 17 = cn σ 17 ∧ f < n then cR (uN σ1 17 m k) 17 e f else cR (uN σ1 17 m k) 17 (cn σ 17) f) = _
          have e1 : cR (uN σ1 17 m k) 17 e f = cR σ1 17 e f := by
            rw [zR_uN, a4, if_neg (fun z => by have := z.2; omega)]
          have e2 : cR (uN σ1 17 m k) 17 (cn σ 17) f = none := by
            rw [zR_uN, a4, if_pos ⟨rfl, rfl⟩]
          rw [e1, e2]
          by_cases z : f < n
          · rw [if_pos ⟨rfl, rfl, z⟩, if_pos z]
          · rw [if_neg (fun h => z h.2.2), if_neg z]
        refine fin (uR σ2 10 l 1 (some (cn σ 17))) (cn σ 17) (cO 10 (by decide)) (by show _ < cn σ2 17; rw [c17]; omega) (by omega) ?_ (by show n < cn σ2 k; rw [cO k (by omega)]; exact hx) ?_ ?_ cO ?_ ?_ ?_ (Or.inr ⟨rfl, fC.tr (cFr.R List.mem_cons_self)⟩)
        · show cel σ2 (cn σ 17) = k
          rw [hσ2]
          show cel (uN σ1 17 m k) (cn σ 17) = k
          rw [zE_uN, a4, if_pos ⟨rfl, rfl⟩]
        · show n < cln σ2 17 (cn σ 17)
          have : cln σ2 17 (cn σ 17) = m := by
            rw [hσ2]
            show cln (uN σ1 17 m k) 17 (cn σ 17) = m
            rw [zL_uN, a4, if_pos ⟨rfl, rfl⟩]
          omega
        · show cln σ2 17 (cn σ 17) ≤ 200
          have : cln σ2 17 (cn σ 17) = m := by
            rw [hσ2]
            show cln (uN σ1 17 m k) 17 (cn σ 17) = m
            rw [zL_uN, a4, if_pos ⟨rfl, rfl⟩]
          omega
        · show cI σ2 10 l 2 = _
          rw [iN]; exact a2
        · rw [uR_at, if_pos rfl]
        · intro i hi
          rw [uR_ne _ _ _ (by omega), eN]
          show (if i < n then cR σ1 17 e i else none) = _
          rw [if_pos hi, a3]
          exact h7 i hi
      by_cases qn : n = 0
      · rw [if_neg (show ¬ (0 : Int32) < nI n by rw [n0, jLt (by omega) (by omega)]; omega)]
        simp only [lvq_mk (show e < cn σ1 17 by rw [a4]; exact h4), if_false]
        by_cases qe : e = 0
        · rw [if_pos (by rw [qe])]
          have m1 : (if (10 : Int32) < nI (n + 1) then nI (n + 1) else (10 : Int32)) = nI 10 := by
            rw [show (10 : Int32) = nI 10 from rfl, if_neg (by rw [jLt (by omega) (by omega)]; omega)]
          have m2 : (nI 10).toNatClampNeg = 10 := rfl
          rw [m1, m2]
          have l10 : l < cn (uN σ1 17 10 k) 10 := by rw [cn_uN, if_neg (by decide)]; exact a1
          have l17 : cn σ1 17 < cn (uN σ1 17 10 k) 17 := by rw [cn_uN, if_pos rfl]; omega
          rw [if_neg (show ¬ ¬ ¬ nI 10 < 0 by decide), if_neg (show ¬ ¬ 10 ≤ 200 by decide)]
          simp only [llk, if_false, dr_mk l10, Option.bind_some, lvq_mk l17]
          refine fin (uR (uN σ1 17 10 k) 10 l 1 (some (cn σ1 17))) (cn σ1 17) (by show cn (uN σ1 17 10 k) 10 = _; rw [cn_uN, if_neg (by decide), a4]) l17 (by rw [a4]; omega) ?_ ?_ ?_ ?_ ?_ ?_ ?_ ?_ ?_
          · show cel (uN σ1 17 10 k) (cn σ1 17) = k
            rw [zE_uN, if_pos ⟨rfl, rfl⟩]
          · show n < cn (uN σ1 17 10 k) k
            rw [cn_uN, if_neg (by omega), a4]; exact hx
          · show n < cln (uN σ1 17 10 k) 17 (cn σ1 17)
            have : cln (uN σ1 17 10 k) 17 (cn σ1 17) = 10 := by rw [zL_uN, if_pos ⟨rfl, rfl⟩]
            omega
          · show cln (uN σ1 17 10 k) 17 (cn σ1 17) ≤ 200
            have : cln (uN σ1 17 10 k) 17 (cn σ1 17) = 10 := by rw [zL_uN, if_pos ⟨rfl, rfl⟩]
            omega
          · intro j hj
            show cn (uN σ1 17 10 k) j = _
            rw [cn_uN, if_neg hj, a4]
          · show cI (uN σ1 17 10 k) 10 l 2 = _
            have : cI (uN σ1 17 10 k) 10 l 2 = cI σ1 10 l 2 := by rw [zI_uN, if_neg (fun z => absurd z.1 (by decide))]
            rw [this]; exact a2
          · rw [uR_at, if_pos rfl]
          · intro i hi
            omega
          · refine Or.inr ⟨by rw [a4], ?_⟩
            exact (f1.tr cFr.N).tr (cFr.R List.mem_cons_self)
        · rw [if_neg (fun z => qe (Option.some.inj z))]
          exact big qe
      · rw [if_pos (show (0 : Int32) < nI n by rw [n0, jLt (by omega) (by omega)]; omega)]
        exact big (fun z => by rw [z, h0] at h5; omega)
    · rw [if_neg (fun z => q ((jEq (by omega) (by omega)).mp z))]
      · have hz : e ≠ 0 := fun z => by rw [z, h0] at q h5; omega
        refine fin σ1 e (by rw [a4]) (by rw [a4]; exact h4) hz (by rw [a6]; exact h6 (Or.inr hz)) (by rw [a4]; exact hx) (by rw [a5]; omega) (by rw [a5]; exact h8) (fun j _ => by rw [a4]) a2 (by rw [a3]; exact he0) (fun i hi => by rw [a3]; exact h7 i hi) (Or.inl ⟨rfl, f1.wk (fun q hq => by rw [List.mem_singleton] at hq; rw [hq]; exact List.mem_cons_self)⟩)
  obtain ⟨σ', k1, k2⟩ := key
  refine ⟨σ', ?_, k2⟩
  unfold fc_Jx4a65c_add_9ea2d
  rw [dr_mk h1, Option.bind_some, ← hσ1, k1, Option.bind_some]
  exact if_pos (by decide)
end C18
