/-! What is typed, understood: the class's side, whole. -/
def sUnd (w : Wd) (l : List Nat) : Option Cm := if sVerb l = 0 then none else some (sCmd w l (sVerb l))
theorem f15_some {p : Nat → Bool} {v : Nat} (hv : v < 15) (h : p v = true) (hn : ∀ i, i < v → p i = false) : (List.range' 0 15).find? p = some v := by
  have hs : ((List.range' 0 15).find? p).isSome := by
    rw [List.find?_isSome]
    exact ⟨v, List.mem_range'_1.mpr ⟨by omega, by omega⟩, h⟩
  have e : List.range' 0 15 = List.range' 0 v ++ List.range' (0 + v) (15 - v) := by
    rw [List.range'_append_1, show v + (15 - v) = 15 by omega]
  have h0 : (List.range' 0 v).find? p = none := by
    rw [List.find?_eq_none]
    intro y hy
    rw [List.mem_range'_1] at hy
    rw [hn y (by omega)]
    exact Bool.false_ne_true
  rw [e, List.find?_append, h0, Option.none_or, show 15 - v = (14 - v) + 1 by omega, List.range'_succ, List.find?_cons, Nat.zero_add, h]
theorem f15_none {p : Nat → Bool} (hn : ∀ i, i < 15 → p i = false) : (List.range' 0 15).find? p = none := by
  rw [List.find?_eq_none]
  intro y hy
  rw [List.mem_range'_1] at hy
  rw [hn y (by omega)]
  exact Bool.false_ne_true
section E17
variable {l : List Nat} {σ : cS} {w : Wd}
theorem sV0_no {n : Nat} (hn : sDiv (sCuts l) = n) (i : Nat) (h : vPn.getD i 0 ≠ n ∨ sPart l 0 ≠ tN (vT.getD i 0)) : sV0 l i = false := decide_eq_false (fun z => by
  rcases h with h | h
  · exact h (z.2.1.trans hn)
  · exact h z.2.2)
theorem sV0_yes {n : Nat} (hn : sDiv (sCuts l) = n) (h0 : 0 < n) {i : Nat} (h : vPn.getD i 0 = n) (h2 : sPart l 0 = tN (vT.getD i 0)) : sV0 l i = true := decide_eq_true ⟨by omega, h.trans hn.symm, h2⟩
/-- the verb that the class finds by the first part -/
def sFind (l : List Nat) : Option Nat :=
  if sDiv (sCuts l) = 1 then (if sPart l 0 = tN 8 then some 10 else if sPart l 0 = tN 10 then some 11 else none)
  else if sDiv (sCuts l) = 4 then (if sPart l 0 = tN 9 then some 9 else none)
  else if sDiv (sCuts l) = 2 then
    (if sPart l 0 = tN 1 then some 1 else if sPart l 0 = tN 2 then some 2 else if sPart l 0 = tN 3 then some 3 else if sPart l 0 = tN 4 then some 4 else if sPart l 0 = tN 5 then some 5
     else if sPart l 0 = tN 6 then some 6 else if sPart l 0 = tN 7 then some 7 else if sPart l 0 = tN 8 then some 8 else none)
  else none
theorem lt15 {i : Nat} (h : i < 15) : i = 0 ∨ i = 1 ∨ i = 2 ∨ i = 3 ∨ i = 4 ∨ i = 5 ∨ i = 6 ∨ i = 7 ∨ i = 8 ∨ i = 9 ∨ i = 10 ∨ i = 11 ∨ i = 12 ∨ i = 13 ∨ i = 14 := by omega
theorem sFind_e (l : List Nat) : (List.range' 0 15).find? (sV0 l) = sFind l := by
  unfold sFind
  by_cases q1 : sDiv (sCuts l) = 1
  · rw [if_pos q1]
    by_cases a1 : sPart l 0 = tN 8
    · rw [if_pos a1]
      refine f15_some (by omega) (sV0_yes q1 (by omega) rfl a1) fun i hi => sV0_no q1 i (Or.inl ?_)
      revert i; decide
    · rw [if_neg a1]
      by_cases a2 : sPart l 0 = tN 10
      · rw [if_pos a2]
        refine f15_some (by omega) (sV0_yes q1 (by omega) rfl a2) fun i hi => sV0_no q1 i ?_
        rcases lt15 (show i < 15 by omega) with rfl | rfl | rfl | rfl | rfl | rfl | rfl | rfl | rfl | rfl | rfl | rfl | rfl | rfl | rfl <;> first | exact Or.inl (by decide) | exact Or.inr a1 | exact absurd hi (by decide)
      · rw [if_neg a2]
        refine f15_none fun i hi => sV0_no q1 i ?_
        rcases lt15 hi with rfl | rfl | rfl | rfl | rfl | rfl | rfl | rfl | rfl | rfl | rfl | rfl | rfl | rfl | rfl <;> first | exact Or.inl (by decide) | exact Or.inr a1 | exact Or.inr a2
  · rw [if_neg q1]
    by_cases q4 : sDiv (sCuts l) = 4
    · rw [if_pos q4]
      by_cases a1 : sPart l 0 = tN 9
      · rw [if_pos a1]
        refine f15_some (by omega) (sV0_yes q4 (by omega) rfl a1) fun i hi => sV0_no q4 i (Or.inl ?_)
        revert i; decide
      · rw [if_neg a1]
        refine f15_none fun i hi => sV0_no q4 i ?_
        rcases lt15 hi with rfl | rfl | rfl | rfl | rfl | rfl | rfl | rfl | rfl | rfl | rfl | rfl | rfl | rfl | rfl <;> first | exact Or.inl (by decide) | exact Or.inr a1
    · rw [if_neg q4]
      by_cases q2 : sDiv (sCuts l) = 2
      · rw [if_pos q2]
        have st : ∀ v, 1 ≤ v → v ≤ 8 → (∀ i, 1 ≤ i → i < v → sPart l 0 ≠ tN i) → sPart l 0 = tN v → (List.range' 0 15).find? (sV0 l) = some v := by
          intro v h1 h8 hn hv
          have e : ∀ v, v < 9 → 1 ≤ v → vPn.getD v 0 = 2 ∧ vT.getD v 0 = v := by decide
          refine f15_some (by omega) (sV0_yes q2 (by omega) (e v (by omega) h1).1 (by rw [(e v (by omega) h1).2]; exact hv)) fun i hi => sV0_no q2 i ?_
          by_cases i0 : i = 0
          · rw [i0]; exact Or.inl (by decide)
          · refine Or.inr ?_
            rw [(e i (by omega) (by omega)).2]
            exact hn i (by omega) hi
        by_cases a1 : sPart l 0 = tN 1
        · rw [if_pos a1]; exact st 1 (by omega) (by omega) (fun i h1 h2 => by omega) a1
        · rw [if_neg a1]
          by_cases a2 : sPart l 0 = tN 2
          · rw [if_pos a2]
            exact st 2 (by omega) (by omega) (fun i h1 h2 => by obtain rfl : i = 1 := by omega
                                                                exact a1) a2
          · rw [if_neg a2]
            by_cases a3 : sPart l 0 = tN 3
            · rw [if_pos a3]
              refine st 3 (by omega) (by omega) (fun i h1 h2 => ?_) a3
              rcases (show i = 1 ∨ i = 2 by omega) with rfl | rfl <;> assumption
            · rw [if_neg a3]
              by_cases a4 : sPart l 0 = tN 4
              · rw [if_pos a4]
                refine st 4 (by omega) (by omega) (fun i h1 h2 => ?_) a4
                rcases (show i = 1 ∨ i = 2 ∨ i = 3 by omega) with rfl | rfl | rfl <;> assumption
              · rw [if_neg a4]
                by_cases a5 : sPart l 0 = tN 5
                · rw [if_pos a5]
                  refine st 5 (by omega) (by omega) (fun i h1 h2 => ?_) a5
                  rcases (show i = 1 ∨ i = 2 ∨ i = 3 ∨ i = 4 by omega) with rfl | rfl | rfl | rfl <;> assumption
                · rw [if_neg a5]
                  by_cases a6 : sPart l 0 = tN 6
                  · rw [if_pos a6]
                    refine st 6 (by omega) (by omega) (fun i h1 h2 => ?_) a6
                    rcases (show i = 1 ∨ i = 2 ∨ i = 3 ∨ i = 4 ∨ i = 5 by omega) with rfl | rfl | rfl | rfl | rfl <;> assumption
                  · rw [if_neg a6]
                    by_cases a7 : sPart l 0 = tN 7
                    · rw [if_pos a7]
                      refine st 7 (by omega) (by omega) (fun i h1 h2 => ?_) a7
                      rcases (show i = 1 ∨ i = 2 ∨ i = 3 ∨ i = 4 ∨ i = 5 ∨ i = 6 by omega) with rfl | rfl | rfl | rfl | rfl | rfl <;> assumption
                    · rw [if_neg a7]
                      by_cases a8 : sPart l 0 = tN 8
                      · rw [if_pos a8]
                        refine st 8 (by omega) (by omega) (fun i h1 h2 => ?_) a8
                        rcases (show i = 1 ∨ i = 2 ∨ i = 3 ∨ i = 4 ∨ i = 5 ∨ i = 6 ∨ i = 7 by omega) with rfl | rfl | rfl | rfl | rfl | rfl | rfl <;> assumption
                      · rw [if_neg a8]
                        refine f15_none fun i hi => sV0_no q2 i ?_
                        rcases lt15 hi with rfl | rfl | rfl | rfl | rfl | rfl | rfl | rfl | rfl | rfl | rfl | rfl | rfl | rfl | rfl <;> first | exact Or.inl (by decide) | exact Or.inr a1 | exact Or.inr a2 | exact Or.inr a3 | exact Or.inr a4 | exact Or.inr a5 | exact Or.inr a6 | exact Or.inr a7 | exact Or.inr a8
      · rw [if_neg q2]
        refine f15_none fun i hi => decide_eq_false (fun z => ?_)
        have e : ∀ i, i < 15 → vPn.getD i 0 = 0 ∨ vPn.getD i 0 = 1 ∨ vPn.getD i 0 = 2 ∨ vPn.getD i 0 = 4 := by decide
        have h1 := e i hi
        have h2 := z.1
        have h3 := z.2.1
        omega
theorem cuts_pos (l : List Nat) : 0 < (sCuts l).length := List.length_pos_iff.mpr (cut_ne _ _ _ _)
/-- by the class's way, what is understood -/
theorem fc_understood_s (hw : Wd.ok w) (hW : CWd σ w) (hl : isTx l) (hX : CTx σ l) (hL : cLbs σ) (h18 : 15 ≤ cn σ 18) : ∃ σ', fc_X11_understood σ = some ((sUnd w l).map (fun _ => cn σ 8), σ') ∧ (∀ q, sUnd w l = some q → RCm σ' (cn σ 8) q) ∧ cFr [(12, 0), (12, 1)] σ σ' ∧ ∀ k, cn σ' k = if k = 8 ∧ (sUnd w l).isSome = true then cn σ 8 + 1 else cn σ k := by
  obtain ⟨σ1, e1, hR, hF, hc⟩ := fc_divide_s hl hX hL
  have hX1 := hX.fr hL hF (by decide) (by decide)
  have hW1 := hW.fr hL hF (by decide)
  have h181 : 15 ≤ cn σ1 18 := by rw [hc]; exact h18
  have und := fc_und_l hl hX1 (fun h => hR (by omega)) 15 0 3000 (by omega) (by omega)
  rw [sFind_e] at und
  have c0 := cuts_pos l
  have key : ∀ (r : Option Cm) (f : Option (Option Nat × cS)), COut σ1 r f → r = sUnd w l → fc_X11_understood σ = f.bind (fun r => some (r.1, r.2)) → ∃ σ', fc_X11_understood σ = some ((sUnd w l).map (fun _ => cn σ 8), σ') ∧ (∀ q, sUnd w l = some q → RCm σ' (cn σ 8) q) ∧ cFr [(12, 0), (12, 1)] σ σ' ∧ ∀ k, cn σ' k = if k = 8 ∧ (sUnd w l).isSome = true then cn σ 8 + 1 else cn σ k := by
    intro r f h hr hf
    subst hr
    cases e : sUnd w l with
    | none =>
      rw [e] at h
      have h : f = some (none, σ1) := h
      rw [hf, h]
      exact ⟨σ1, rfl, (fun q hq => by cases hq), hF, fun k => by rw [hc, if_neg (fun z => Bool.false_ne_true z.2)]⟩
    | some q =>
      rw [e] at h
      obtain ⟨σ', g1, g2, g3, g4⟩ := h
      rw [hc] at g1 g2
      rw [hf, g1]
      refine ⟨σ', rfl, fun q' hq => ?_, hF.tr (g3 _), fun k => ?_⟩
      · have := Option.some.inj hq
        subst this
        exact g2
      · rw [g4, hc]
        by_cases q8 : k = 8
        · rw [if_pos q8, if_pos ⟨q8, rfl⟩]
        · rw [if_neg q8, if_neg (fun z => q8 z.1)]
  have hu : fc_X11_understood σ = match sFind l with | none => some (none, σ1) | some v => (fc_X11_completed σ1 (some v)).bind fun r => some (r.1, r.2) := by
    unfold fc_X11_understood
    rw [e1, Option.bind_some]
    exact und
  have none_ : sFind l = none → sUnd w l = none → ∃ σ', fc_X11_understood σ = some ((sUnd w l).map (fun _ => cn σ 8), σ') ∧ (∀ q, sUnd w l = some q → RCm σ' (cn σ 8) q) ∧ cFr [(12, 0), (12, 1)] σ σ' ∧ ∀ k, cn σ' k = if k = 8 ∧ (sUnd w l).isSome = true then cn σ 8 + 1 else cn σ k := by
    intro h1 h2
    rw [h1] at hu
    exact key none (some (none, σ1)) rfl h2.symm hu
  have some_ : ∀ v, sFind l = some v → COut σ1 (sUnd w l) (fc_X11_completed σ1 (some v)) → ∃ σ', fc_X11_understood σ = some ((sUnd w l).map (fun _ => cn σ 8), σ') ∧ (∀ q, sUnd w l = some q → RCm σ' (cn σ 8) q) ∧ cFr [(12, 0), (12, 1)] σ σ' ∧ ∀ k, cn σ' k = if k = 8 ∧ (sUnd w l).isSome = true then cn σ 8 + 1 else cn σ k := by
    intro v h1 h2
    rw [h1] at hu
    exact key _ _ h2 rfl hu
  have v0 : sVerb l = 0 → sUnd w l = none := fun h => if_pos h
  have vs : ∀ v, v ≠ 0 → sVerb l = v → sUnd w l = some (sCmd w l v) := fun v h0 h => by
    unfold sUnd
    rw [h, if_neg h0]
  by_cases q0 : sDiv (sCuts l) = 0
  · refine none_ ?_ (v0 ?_)
    · unfold sFind
      rw [if_neg (by omega), if_neg (by omega), if_neg (by omega)]
    · unfold sDiv at q0
      unfold sVerb
      by_cases a : cutOk (sCuts l) = true
      · by_cases b : (sCuts l).length ≤ 4
        · rw [if_pos ⟨a, b⟩] at q0
          omega
        · rw [if_neg (by rw [a]; decide), if_neg (by omega), if_neg (by omega), if_neg (by omega)]
      · rw [if_pos (Bool.eq_false_iff.mpr a)]
  obtain ⟨ok, le4, ed⟩ := div_len (l := l) (by omega)
  have hR1 := hR q0
  have okn : ¬ cutOk (sCuts l) = false := by rw [ok]; decide
  have full : ∀ v, 2 ≤ v → v ≤ 11 → v ≠ 9 → sFind l = some v → sVerb l = v → vPn.getD v 0 = (sCuts l).length → ∃ σ', fc_X11_understood σ = some ((sUnd w l).map (fun _ => cn σ 8), σ') ∧ (∀ q, sUnd w l = some q → RCm σ' (cn σ 8) q) ∧ cFr [(12, 0), (12, 1)] σ σ' ∧ ∀ k, cn σ' k = if k = 8 ∧ (sUnd w l).isSome = true then cn σ 8 + 1 else cn σ k := by
    intro v h1 h2 h9 hf hv hp
    refine some_ v hf ?_
    rw [vs v (by omega) hv]
    unfold fc_X11_completed
    rw [if_neg (fun h => h (decide_eq_true (show v < 15 by omega))), if_neg (fun h => by have := Option.some.inj h; omega), if_neg (fun h => h (decide_eq_true (show v < 15 by omega))), if_neg (fun h => by have := Option.some.inj h; omega)]
    exact fc_comp_64 hw hW1 hl hX1 hR1 le4 h181 h1 h2 hp
  by_cases q1 : (sCuts l).length = 1
  · have hV : sVerb l = if sPart l 0 = tN 8 then 10 else if sPart l 0 = tN 10 then 11 else 0 := by
      unfold sVerb
      rw [if_neg okn, if_pos q1]
    have hF2 : sFind l = if sPart l 0 = tN 8 then some 10 else if sPart l 0 = tN 10 then some 11 else none := by
      unfold sFind
      rw [if_pos (by omega)]
    by_cases a1 : sPart l 0 = tN 8
    · rw [if_pos a1] at hV hF2
      exact full 10 (by omega) (by omega) (by omega) hF2 hV (by rw [q1]; rfl)
    · rw [if_neg a1] at hV hF2
      by_cases a2 : sPart l 0 = tN 10
      · rw [if_pos a2] at hV hF2
        exact full 11 (by omega) (by omega) (by omega) hF2 hV (by rw [q1]; rfl)
      · rw [if_neg a2] at hV hF2
        exact none_ hF2 (v0 hV)
  by_cases q4 : (sCuts l).length = 4
  · have hV : sVerb l = if sPart l 0 = tN 9 then (if sPart l 2 = tN 15 then 9 else 0) else 0 := by
      unfold sVerb
      rw [if_neg okn, if_neg q1, if_pos q4]
    have hF2 : sFind l = if sPart l 0 = tN 9 then some 9 else none := by
      unfold sFind
      rw [if_neg (by omega), if_pos (by omega)]
    by_cases a1 : sPart l 0 = tN 9
    · rw [if_pos a1] at hV hF2
      refine some_ 9 hF2 ?_
      unfold fc_X11_completed
      rw [if_neg (fun h => h rfl), if_neg (fun h => by have := Option.some.inj h; omega), if_neg (fun h => h rfl), if_pos rfl, show (2 : Int32) = nI 2 from rfl, fc_isPt hl hX1 hR1 (by omega) le4 (by omega), Option.bind_some, bI_if]
      simp only [decide_eq_true_eq]
      by_cases a2 : sPart l 2 = tN 15
      · rw [if_pos a2] at hV ⊢
        rw [vs 9 (by omega) hV]
        exact fc_comp_64 hw hW1 hl hX1 hR1 le4 h181 (by omega) (by omega) (by rw [q4]; rfl)
      · rw [if_neg a2] at hV ⊢
        rw [v0 hV]
        rfl
    · rw [if_neg a1] at hV hF2
      exact none_ hF2 (v0 hV)
  by_cases q2 : (sCuts l).length = 2
  · have hV : sVerb l = (if sPart l 0 = tN 1 then (if sOnly l = none then 0 else 1) else if sPart l 0 = tN 2 then 2 else if sPart l 0 = tN 3 then 3 else if sPart l 0 = tN 4 then 4 else if sPart l 0 = tN 5 then 5 else if sPart l 0 = tN 6 then 6 else if sPart l 0 = tN 7 then 7 else if sPart l 0 = tN 8 then 8 else 0) := by
      unfold sVerb
      rw [if_neg okn, if_neg q1, if_neg q4, if_pos q2]
    have hF2 : sFind l = (if sPart l 0 = tN 1 then some 1 else if sPart l 0 = tN 2 then some 2 else if sPart l 0 = tN 3 then some 3 else if sPart l 0 = tN 4 then some 4 else if sPart l 0 = tN 5 then some 5 else if sPart l 0 = tN 6 then some 6 else if sPart l 0 = tN 7 then some 7 else if sPart l 0 = tN 8 then some 8 else none) := by
      unfold sFind
      rw [if_neg (by omega), if_neg (by omega), if_pos (by omega)]
    by_cases a1 : sPart l 0 = tN 1
    · rw [if_pos a1] at hV hF2
      refine some_ 1 hF2 ?_
      have g := fc_comp_go hl hX1 hR1 (by omega) h181
      by_cases a2 : sOnly l = none
      · rw [if_pos a2] at hV g
        rw [v0 hV]
        exact g
      · rw [if_neg a2] at hV g
        rw [vs 1 (by omega) hV]
        exact g
    · rw [if_neg a1] at hV hF2
      by_cases a2 : sPart l 0 = tN 2
      · rw [if_pos a2] at hV hF2
        exact full 2 (by omega) (by omega) (by omega) hF2 hV (by rw [q2]; rfl)
      rw [if_neg a2] at hV hF2
      by_cases a3 : sPart l 0 = tN 3
      · rw [if_pos a3] at hV hF2
        exact full 3 (by omega) (by omega) (by omega) hF2 hV (by rw [q2]; rfl)
      rw [if_neg a3] at hV hF2
      by_cases a4 : sPart l 0 = tN 4
      · rw [if_pos a4] at hV hF2
        exact full 4 (by omega) (by omega) (by omega) hF2 hV (by rw [q2]; rfl)
      rw [if_neg a4] at hV hF2
      by_cases a5 : sPart l 0 = tN 5
      · rw [if_pos a5] at hV hF2
        exact full 5 (by omega) (by omega) (by omega) hF2 hV (by rw [q2]; rfl)
      rw [if_neg a5] at hV hF2
      by_cases a6 : sPart l 0 = tN 6
      · rw [if_pos a6] at hV hF2
        exact full 6 (by omega) (by omega) (by omega) hF2 hV (by rw [q2]; rfl)
      rw [if_neg a6] at hV hF2
      by_cases a7 : sPart l 0 = tN 7
      · rw [if_pos a7] at hV hF2
        exact full 7 (by omega) (by omega) (by omega) hF2 hV (by rw [q2]; rfl)
      rw [if_neg a7] at hV hF2
      by_cases a8 : sPart l 0 = tN 8
      · rw [if_pos a8] at hV hF2
        exact full 8 (by omega) (by omega) (by omega) hF2 hV (by rw [q2]; rfl)
      rw [if_neg a8] at hV hF2
      exact none_ hF2 (v0 hV)
  · refine none_ ?_ (v0 ?_)
    · unfold sFind
      rw [if_neg (by omega), if_neg (by omega), if_neg (by omega)]
    · unfold sVerb
      rw [if_neg okn, if_neg q1, if_neg q4, if_neg q2]
end E17
