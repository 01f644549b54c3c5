/-! The verb of what is typed, the reference's side; the thing of a part. -/
def sPt (l : List Nat) (j : Nat) : Nat × Nat := (sCuts l).getD j (0, 0)
def sPart (l : List Nat) (j : Nat) : List Nat := sSeg l (sPt l j).1 ((sPt l j).2 - (sPt l j).1)
def sOnly (l : List Nat) : Option Nat := if (sPt l 1).2 - (sPt l 1).1 = 1 then sDir (l.getD (sPt l 1).1 0) else none
/-- the verb's number, 0 for none -/
def sVerb (l : List Nat) : Nat :=
  if cutOk (sCuts l) = false then 0
  else if (sCuts l).length = 1 then (if sPart l 0 = tN 8 then 10 else if sPart l 0 = tN 10 then 11 else 0)
  else if (sCuts l).length = 4 then (if sPart l 0 = tN 9 then (if sPart l 2 = tN 15 then 9 else 0) else 0)
  else if (sCuts l).length = 2 then
    (if sPart l 0 = tN 1 then (if sOnly l = none then 0 else 1) else if sPart l 0 = tN 2 then 2 else if sPart l 0 = tN 3 then 3 else if sPart l 0 = tN 4 then 4 else if sPart l 0 = tN 5 then 5
     else if sPart l 0 = tN 6 then 6 else if sPart l 0 = tN 7 then 7 else if sPart l 0 = tN 8 then 8 else 0)
  else 0
theorem sPt_e {l : List Nat} {j : Nat} (h : j < (sCuts l).length) : (sCuts l)[j]? = some (sPt l j) := by
  unfold sPt
  rw [List.getD_eq_getElem?_getD, List.getElem?_eq_getElem h]
  rfl
theorem sPt_in {l : List Nat} {j : Nat} (h : j < (sCuts l).length) : (sPt l j).1 ≤ (sPt l j).2 ∧ (sPt l j).2 ≤ l.length := sCuts_in (List.mem_of_getElem? (sPt_e h))
theorem cutF_no {l : List Nat} : ∀ (d b k : Nat), k + d = l.length → b ≤ k → (∀ i, b ≤ i → i < k → l.getD i 0 ≠ 32) → ∀ p ∈ cutF l d b k, ∀ i, p.1 ≤ i → i < p.2 → l.getD i 0 ≠ 32 := by
  intro d
  induction d with
  | zero =>
    intro b k hk hb h p hp i h1 h2
    have hp : p ∈ [(b, k)] := hp
    rw [List.mem_singleton] at hp
    subst hp
    exact h i h1 h2
  | succ d ih =>
    intro b k hk hb h p hp
    unfold cutF at hp
    by_cases q : l.getD k 0 = 32
    · rw [if_pos q] at hp
      rcases List.mem_cons.mp hp with rfl | hp
      · exact fun i h1 h2 => h i h1 h2
      · exact ih _ _ (by omega) (Nat.le_refl _) (fun i h1 h2 => by omega) p hp
    · rw [if_neg q] at hp
      refine ih _ _ (by omega) (by omega) (fun i h1 h2 => ?_) p hp
      by_cases e : i = k
      · rw [e]; exact q
      · exact h i h1 (by omega)
theorem sPart_no {l : List Nat} {j : Nat} (h : j < (sCuts l).length) : ∀ c ∈ sPart l j, c ≠ 32 := by
  intro c hc
  obtain ⟨h1, h2⟩ := sPt_in h
  have g := cutF_no (l := l) l.length 0 0 (by omega) (Nat.le_refl _) (fun i h1 h2 => by omega) _ (List.mem_of_getElem? (sPt_e h))
  obtain ⟨k, hk, rfl⟩ := List.getElem_of_mem hc
  unfold sPart at hk ⊢
  have hlen := sSeg_len (l := l) (i := (sPt l j).1) (d := (sPt l j).2 - (sPt l j).1) (by omega)
  have e := sSeg_get (l := l) (i := (sPt l j).1) (d := (sPt l j).2 - (sPt l j).1) (k := k) (by omega)
  rw [if_pos (by omega), gD hk] at e
  rw [e]
  exact g _ (by omega) (by omega)
theorem sPart_lt {l : List Nat} (hl : isTx l) {j : Nat} (h : j < (sCuts l).length) : ∀ c ∈ sPart l j, 97 ≤ c ∧ c ≤ 122 := by
  intro c hc
  have h1 := hl.2 c (sSeg_mem hc)
  have h2 := sPart_no h c hc
  omega
theorem cuts_len (l : List Nat) : (sCuts l).length ≤ l.length + 1 := by
  have g : ∀ d b k, (cutF l d b k).length ≤ d + 1 := by
    intro d
    induction d with
    | zero => intro b k; exact Nat.le_refl _
    | succ d ih =>
      intro b k
      unfold cutF
      split
      · rw [List.length_cons]
        have := ih (k + 1) (k + 1)
        omega
      · have := ih b (k + 1)
        omega
  exact g _ _ _
theorem rows_e : fm_row 108 111 111 107 0 = some (sumM (tN 8)) ∧ fm_row 119 97 105 116 0 = some (sumM (tN 10)) ∧ fm_row 112 117 116 0 0 = some (sumM (tN 9)) ∧ fm_row 105 110 0 0 0 = some (sumM (tN 15)) ∧ fm_row 103 111 0 0 0 = some (sumM (tN 1)) ∧ fm_row 116 97 107 101 0 = some (sumM (tN 2)) ∧ fm_row 100 114 111 112 0 = some (sumM (tN 3)) ∧ fm_row 111 112 101 110 0 = some (sumM (tN 4)) ∧ fm_row 99 108 111 115 101 = some (sumM (tN 5)) ∧ fm_row 108 105 103 104 116 = some (sumM (tN 6)) ∧ fm_row 100 111 117 115 101 = some (sumM (tN 7)) := by decide +kernel
theorem tN_ab : ∀ i ∈ ([1, 2, 3, 4, 5, 6, 7, 8, 9, 10, 15] : List Nat), (tN i).length ≤ 5 ∧ ∀ c ∈ tN i, 97 ≤ c ∧ c ≤ 122 := by decide +kernel
section V17
variable {l : List Nat} {τ : mS}
theorem fm_isPt (hl : isTx l) (hX : MTx τ l) (hR : MRc τ (sCuts l)) {j i : Nat} (hj : j < (sCuts l).length) (hi : i < 17) (hb : (tN i).length ≤ 5 ∧ ∀ c ∈ tN i, 97 ≤ c ∧ c ≤ 122) : fm_isPart τ (nI j) (sumM (tN i)) = some (bI (decide (sPart l j = tN i)), τ) := by
  obtain ⟨h1, h2⟩ := sPt_in hj
  obtain ⟨e1, e2⟩ := hR.2 j _ (sPt_e hj)
  have h3 := cuts_len l
  have h30 := hl.1
  rw [fm_isPart_s hl hX (by omega) h1 h2 e1 e2 (sPart_no hj)]
  congr 3
  rw [decide_eq_decide]
  exact sumM_eq hb.1 hb.2 (sPart_lt hl hj)
theorem fm_verb_t (hl : isTx l) (hX : MTx τ l) (hR : MRc τ (sCuts l)) (b : Bool) (f : Nat) (hb : cutOk (sCuts l) = b) : fm_verb_8 (f + 1) τ (bI b) (nI (sCuts l).length) = some (nI (sVerb l), τ) := by
  have h30 := hl.1
  have h3 := cuts_len l
  have h0 : 0 < (sCuts l).length := List.length_pos_iff.mpr (cut_ne _ _ _ _)
  obtain ⟨r1, r2, r3, r4, r5, r6, r7, r8, r9, r10, r11⟩ := rows_e
  rw [fm_verb_8, hR.1, if_pos (by rw [jLe (by omega) (by omega)]; omega)]
  cases b with
  | false =>
    have : sVerb l = 0 := by
      unfold sVerb
      rw [if_pos hb]
    rw [if_pos (show bI false = 0 from rfl), this]
    rfl
  | true =>
    rw [if_neg (show ¬ bI true = 0 by decide)]
    have p0 : ∀ i, i < 17 → ((tN i).length ≤ 5 ∧ ∀ c ∈ tN i, 97 ≤ c ∧ c ≤ 122) → fm_isPart τ 0 (sumM (tN i)) = some (bI (decide (sPart l 0 = tN i)), τ) := fun i hi hb => fm_isPt hl hX hR (j := 0) (i := i) h0 hi hb
    unfold sVerb fm_verb_110 fm_verb_161 fm_verb_162 fm_verb_230 fm_verb_231 fm_verb_395
    rw [if_neg (show ¬ cutOk (sCuts l) = false by rw [hb]; decide)]
    simp only [r1, r2, r3, r4, r5, r6, r7, r8, r9, r10, r11, Option.bind_some]
    simp only [p0 8 (by decide) (tN_ab 8 (by decide)), p0 10 (by decide) (tN_ab 10 (by decide)), p0 9 (by decide) (tN_ab 9 (by decide)), p0 1 (by decide) (tN_ab 1 (by decide)), p0 2 (by decide) (tN_ab 2 (by decide)), p0 3 (by decide) (tN_ab 3 (by decide)), p0 4 (by decide) (tN_ab 4 (by decide)), p0 5 (by decide) (tN_ab 5 (by decide)), p0 6 (by decide) (tN_ab 6 (by decide)), p0 7 (by decide) (tN_ab 7 (by decide)), Option.bind_some, bI_if, decide_eq_true_eq]
    by_cases q1 : (sCuts l).length = 1
    · rw [if_pos (show nI (sCuts l).length = (1 : Int32) by rw [q1]; rfl), if_pos (show (sCuts l).length = 1 from q1)]
      by_cases a1 : sPart l 0 = tN 8
      · rw [if_pos a1, if_pos a1]; rfl
      · rw [if_neg a1, if_neg a1]
        by_cases a2 : sPart l 0 = tN 10
        · rw [if_pos a2, if_pos a2]; rfl
        · rw [if_neg a2, if_neg a2]; rfl
    · rw [if_neg (show ¬ nI (sCuts l).length = (1 : Int32) from fun h => q1 ((jEq (b := 1) (by omega) (by omega)).mp h)), if_neg (show ¬ (sCuts l).length = 1 from q1)]
      by_cases q4 : (sCuts l).length = 4
      · rw [if_pos (show nI (sCuts l).length = (4 : Int32) by rw [q4]; rfl), if_pos (show (sCuts l).length = 4 from q4)]
        have p2 := fm_isPt hl hX hR (j := 2) (i := 15) (by omega) (by decide) (tN_ab 15 (by decide))
        by_cases a1 : sPart l 0 = tN 9
        · rw [if_pos a1, if_pos a1]
          rw [show ((2 : Int32) = nI 2) from rfl, p2]
          simp only [Option.bind_some, bI_if, decide_eq_true_eq]
          by_cases a2 : sPart l 2 = tN 15
          · rw [if_pos a2, if_pos a2]; rfl
          · rw [if_neg a2, if_neg a2]; rfl
        · rw [if_neg a1, if_neg a1]; rfl
      · rw [if_neg (show ¬ nI (sCuts l).length = (4 : Int32) from fun h => q4 ((jEq (b := 4) (by omega) (by omega)).mp h)), if_neg (show ¬ (sCuts l).length = 4 from q4)]
        by_cases q2 : (sCuts l).length = 2
        · rw [if_pos (show nI (sCuts l).length = (2 : Int32) by rw [q2]; rfl), if_pos (show (sCuts l).length = 2 from q2)]
          by_cases a1 : sPart l 0 = tN 1
          · rw [if_pos a1, if_pos a1]
            obtain ⟨h1, h2⟩ := sPt_in (l := l) (j := 1) (by omega)
            obtain ⟨e1, e2⟩ := hR.2 1 _ (sPt_e (by omega))
            unfold sOnly
            have c1 : (nI 1).toNatClampNeg = 1 := rfl
            simp (disch := omega) only [n1, c1, e1, e2, jLt, Nat.not_lt_zero, false_or, show (31 ≤ 1) = False from eq_false (by decide), if_false, jSub, jEq]
            by_cases a2 : (sPt l 1).2 - (sPt l 1).1 = 1
            · have x1 : ¬ 30 ≤ (sPt l 1).1 := by omega
              have c2 : (nI (sPt l 1).1).toNatClampNeg = (sPt l 1).1 := jCl (by omega)
              have e3 := hX.2 (sPt l 1).1 (by omega)
              have g3 := getD_tx hl (show (sPt l 1).1 < l.length by omega)
              rw [if_pos a2, if_pos a2]
              simp only [x1, c2, if_false, e3, fm_directionOf_s (show l.getD (sPt l 1).1 0 < 100000 by omega), Option.bind_some]
              have y : ∀ a, a < 100000 → (nI a < (0 : Int32) ∨ False) = False := fun a ha => by
                rw [n0, jLt ha (by omega)]
                simp
              simp only [y 1 (by omega), y (sPt l 1).1 (by omega), if_false]
              cases q : sDir (l.getD (sPt l 1).1 0) with
              | none => rfl
              | some d =>
                have hd := (sDir_lt q).1
                exact (if_neg (show ¬ oI (some d) = (-1 : Int32) from fun h => (jM1 (a := d) (by omega)).mp h)).trans rfl
            · rw [if_neg a2, if_neg a2, if_pos rfl]; rfl
          · rw [if_neg a1, if_neg a1]
            by_cases b2 : sPart l 0 = tN 2
            · rw [if_pos b2, if_pos b2]; rfl
            · rw [if_neg b2, if_neg b2]
              by_cases b3 : sPart l 0 = tN 3
              · rw [if_pos b3, if_pos b3]; rfl
              · rw [if_neg b3, if_neg b3]
                by_cases b4 : sPart l 0 = tN 4
                · rw [if_pos b4, if_pos b4]; rfl
                · rw [if_neg b4, if_neg b4]
                  by_cases b5 : sPart l 0 = tN 5
                  · rw [if_pos b5, if_pos b5]; rfl
                  · rw [if_neg b5, if_neg b5]
                    by_cases b6 : sPart l 0 = tN 6
                    · rw [if_pos b6, if_pos b6]; rfl
                    · rw [if_neg b6, if_neg b6]
                      by_cases b7 : sPart l 0 = tN 7
                      · rw [if_pos b7, if_pos b7]; rfl
                      · rw [if_neg b7, if_neg b7]
                        by_cases b8 : sPart l 0 = tN 8
                        · rw [if_pos b8, if_pos b8]; rfl
                        · rw [if_neg b8, if_neg b8]; rfl
        · rw [if_neg (show ¬ nI (sCuts l).length = (2 : Int32) from fun h => q2 ((jEq (b := 2) (by omega) (by omega)).mp h)), if_neg (show ¬ (sCuts l).length = 2 from q2)]; rfl
theorem fm_verb_l (hl : isTx l) (hX : MTx τ l) (hR : MRc τ (sCuts l)) : ∀ (d k : Nat) (b : Bool) (f : Nat), k + d = (sCuts l).length → d < f → (b && cutOk ((sCuts l).drop k)) = cutOk (sCuts l) → fm_verb_8 f τ (bI b) (nI k) = some (nI (sVerb l), τ) := by
  have h30 := hl.1
  have h3 := cuts_len l
  intro d
  induction d with
  | zero =>
    intro k b f hk hf hb
    obtain ⟨f, rfl⟩ : ∃ k, f = k + 1 := ⟨f - 1, by omega⟩
    obtain rfl : k = (sCuts l).length := by omega
    rw [List.drop_length, show cutOk [] = true from rfl, Bool.and_true] at hb
    exact fm_verb_t hl hX hR b f hb.symm
  | succ d ih =>
    intro k b f hk hf hb
    obtain ⟨f, rfl⟩ : ∃ k, f = k + 1 := ⟨f - 1, by omega⟩
    have x1 : ¬ (sCuts l).length ≤ k := by omega
    have x2 : ¬ 31 ≤ k := by omega
    have c1 : (nI k).toNatClampNeg = k := jCl (by omega)
    obtain ⟨h1, h2⟩ := sPt_in (l := l) (j := k) (by omega)
    obtain ⟨e1, e2⟩ := hR.2 k _ (sPt_e (by omega))
    have o0 : bI b &&& nI 0 = bI false := by cases b <;> decide
    have o1 : bI b &&& nI 1 = bI b := by cases b <;> decide
    have hk2 : (sCuts l).drop k = sPt l k :: (sCuts l).drop (k + 1) := by
      rw [List.drop_eq_getElem_cons (by omega)]
      congr 1
      have := sPt_e (l := l) (j := k) (by omega)
      rw [List.getElem?_eq_getElem (by omega)] at this
      exact Option.some.inj this
    have hc : cutOk ((sCuts l).drop k) = (decide ((sPt l k).1 < (sPt l k).2) && cutOk ((sCuts l).drop (k + 1))) := by
      rw [hk2]
      rfl
    rw [fm_verb_8, hR.1]
    unfold fm_verb_37
    simp (disch := omega) only [n0, n1, jLe, jLt, x1, x2, c1, e1, e2, Nat.not_lt_zero, false_or, if_false, o0, o1, jAdd]
    rw [hc] at hb
    by_cases q : (sPt l k).2 ≤ (sPt l k).1
    · rw [if_pos q]
      rw [decide_eq_false (by omega), Bool.false_and, Bool.and_false] at hb
      exact ih (k + 1) false f (by omega) (by omega) (by rw [Bool.false_and]; exact hb)
    · rw [if_neg q]
      rw [decide_eq_true (by omega), Bool.true_and] at hb
      exact ih (k + 1) b f (by omega) (by omega) hb
theorem fm_verb_s (hl : isTx l) (hX : MTx τ l) : ∃ τ', fm_verb τ = some (nI (sVerb l), τ') ∧ MRc τ' (sCuts l) ∧ mFr [40, 41, 42] τ τ' := by
  obtain ⟨τ', e, h1, h2⟩ := fm_parts_s hl hX
  refine ⟨τ', ?_, h1, h2⟩
  have h3 := cuts_len l
  have h30 := hl.1
  unfold fm_verb
  rw [e, Option.bind_some]
  exact fm_verb_l hl (hX.fr h2 (by decide) (by decide)) h1 (sCuts l).length 0 true 3000 (by omega) (by omega) (by rw [List.drop_zero, Bool.true_and])
end V17
