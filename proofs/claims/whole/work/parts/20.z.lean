/-! The builder of lines: numbers below 100; words; the line of play, the class's side. -/
/-- a number's digits -/
def sDg (k : Nat) : List Nat := if k < 10 then [48 + k] else [48 + k / 10, 48 + k % 10]
theorem dg_a : ∀ k, k < 100 → (-nI k ≤ (-10 : Int32) ↔ 10 ≤ k) ∧ ¬ -nI k ≤ (10 : Int32) * (-10 : Int32) ∧ (-100 : Int32) < -nI k ∧ ((-9 : Int32) ≤ -nI k ↔ k < 10) ∧ - -nI k = nI k ∧ (nI (48 + k % 10)).toInt8.toInt32 = nI (48 + k % 10) ∧ (nI (48 + k / 10)).toInt8.toInt32 = nI (48 + k / 10) ∧ (0 : Int32) ≤ nI k := by decide +kernel
section Z20
variable {g : Gm} {σ σ1 : cS} {l m : List Nat} {w : Wd}
theorem sDg_len (k : Nat) : (sDg k).length = if k < 10 then 1 else 2 := by
  unfold sDg
  split <;> rfl
theorem size_s {k : Nat} (hk : k < 100) : fc_J6_stringSize_0f7a4 σ (nI k) = some (nI (sDg k).length, σ) := by
  obtain ⟨a1, a2, -⟩ := dg_a k hk
  rw [sDg_len]
  unfold fc_J6_stringSize_0f7a4 fc_J6_stringSize_0f7a4_11
  rw [if_neg (show ¬ nI k < 0 from fun z => by rw [n0, jLt (by omega) (by omega)] at z; omega)]
  obtain ⟨m, hm⟩ : ∃ m, 3000 = m + 2 := ⟨2998, rfl⟩
  rw [hm]
  rw [show fc_J6_stringSize_0f7a4_16 (m + 2) σ (-nI k) 0 (-10) 1 = if (10 : Int32) ≤ 1 then none else if -nI k ≤ (-10 : Int32) then (if (10 : Int32) ≤ 1 + 1 then none else if -nI k ≤ (10 : Int32) * (-10 : Int32) then (fc_J6_stringSize_0f7a4_16 m) σ (-nI k) 0 ((10 : Int32) * ((10 : Int32) * (-10 : Int32))) (1 + 1 + 1) else some ((1 : Int32) + 1 + 0, σ)) else some ((1 : Int32) + 0, σ) from rfl]
  rw [if_neg (show ¬ (10 : Int32) ≤ 1 by decide)]
  by_cases q : k < 10
  · rw [if_neg (fun z => by have := a1.mp z; omega), if_pos q]
    rfl
  · rw [if_pos (a1.mpr (by omega)), if_neg (show ¬ (10 : Int32) ≤ 1 + 1 by decide), if_neg a2, if_neg q]
    rfl
theorem sb_appi (h : SBd σ l) {k : Nat} (hk : k < 100) (hn : l.length + 2 ≤ 142) : ∃ σ', fc_A_appi σ (nI k) = some σ' ∧ SBd σ' (l ++ sDg k) ∧ KB σ σ' := by
  obtain ⟨d1, d2, d3, d4, d5, d6, d7, d8⟩ := dg_a k hk
  have a4 := h.2.1
  have hlen : (sDg k).length ≤ 2 := by rw [sDg_len]; split <;> omega
  have key : ∀ σ1, SBd σ1 l → l.length + (sDg k).length ≤ cln σ1 16 (arr σ1) → ∃ σ2, ((fc_J5_isLatin1_aae02 σ1).bind fun r_4 => if r_4.1 = 0 then none else (fc_J6_getChars_ba4f3 r_4.2 (nI k) (nI (l.length + (sDg k).length)) (cR r_4.2 11 0 0)).bind fun r_5 => some (uI r_5.2 11 0 3 (nI (l.length + (sDg k).length)))) = some σ2 ∧ SBd σ2 (l ++ sDg k) ∧ lev σ2 = lev σ1 ∧ KB σ1 σ2 := by
    intro σ1 h1 hr
    obtain ⟨b1, b2, b3, b4, b5, b6, b7, b8⟩ := sbL h1
    have o1 : (1 : Int32) &&& 1 = 1 := by decide
    have elat : fc_J5_isLatin1_aae02 σ1 = some (1, σ1) := by
      unfold fc_J5_isLatin1_aae02 fc_J5_isLatin1_aae02_18
      rw [if_neg (show ¬ (1 : Int32) = 0 by decide), if_pos b3, if_pos o1]
    have i100 : ¬ ¬ ¬ (- -nI k < 0 ∨ 100 ≤ (- -nI k).toNatClampNeg) := by
      rw [d5]
      exact fun z => z (iN0 hk (by omega))
    have hcd : ∀ c ∈ sDg k, c < 128 := fun c hc => by
      unfold sDg at hc
      split at hc
      · rw [List.mem_singleton] at hc; omega
      · simp at hc; omega
    rw [elat, Option.bind_some]
    by_cases q : k < 10
    · have e1 : sDg k = [48 + k] := if_pos q
      have m10 : k % 10 = k := Nat.mod_eq_of_lt q
      have hr' : l.length + 1 ≤ cln σ1 16 (arr σ1) := by rw [e1] at hr; exact hr
      have eg : fc_J6_getChars_ba4f3 σ1 (nI k) (nI (l.length + (sDg k).length)) (cR σ1 11 0 0) = some (nI l.length, uI σ1 16 (arr σ1) l.length (nI (48 + k))) := by
        unfold fc_J6_getChars_ba4f3 fc_J6_getChars_ba4f3_22 fc_J6_getChars_ba4f3_104
        rw [if_pos d8, if_pos rfl, if_pos d3, if_neg i100, b1, dr_mk b2, Option.bind_some, e1]
        have hx : nI (l.length + [48 + k].length) + (-1 : Int32) = nI l.length := jDec (a := l.length + 1) (Nat.succ_ne_zero _)
        rw [hx, if_neg (iN0 (show l.length < cln σ1 16 (arr σ1) by omega) (by omega)), if_pos (d4.mpr q), if_pos rfl, jCl (by omega), d5, jCl (by omega), d6, m10]
      refine ⟨uI (uI σ1 16 (arr σ1) l.length (nI (48 + k))) 11 0 3 (nI (l.length + (sDg k).length)), ?_, ?_⟩
      · refine (if_neg (show ¬ (1 : Int32) = 0 by decide)).trans ?_
        rw [eg, Option.bind_some]
      · refine sb_write (m := sDg k) h1 hr hcd rfl rfl rfl rfl rfl (fun k' i z1 z2 => ?_) ?_ ?_ (fun f => ?_)
        · rw [uI_ne _ _ _ (fun z => z1 z.1), uI_ne _ _ _ (fun z => z2 z.1)]
        · rw [uI_at, if_neg (by decide), uI_ne _ _ _ (fun z => absurd z.1 (by decide))]
          exact b3
        · rw [uI_at]
          rfl
        · rw [uI_ne _ _ _ (fun z => absurd z.1 (by decide)), uI_at, e1]
          show (if f = l.length then nI (48 + k) else cI σ1 16 (arr σ1) f) = if l.length ≤ f ∧ f < l.length + 1 then nI ([48 + k].getD (f - l.length) 0) else cI σ1 16 (arr σ1) f
          by_cases z : f = l.length
          · rw [if_pos z, if_pos (by omega), z, Nat.sub_self]
            rfl
          · rw [if_neg z, if_neg (by omega)]
    · have e1 : sDg k = [48 + k / 10, 48 + k % 10] := if_neg q
      have hr' : l.length + 2 ≤ cln σ1 16 (arr σ1) := by rw [e1] at hr; exact hr
      have eg : fc_J6_getChars_ba4f3 σ1 (nI k) (nI (l.length + (sDg k).length)) (cR σ1 11 0 0) = some (nI l.length, uI (uI σ1 16 (arr σ1) (l.length + 1) (nI (48 + k % 10))) 16 (arr σ1) l.length (nI (48 + k / 10))) := by
        unfold fc_J6_getChars_ba4f3 fc_J6_getChars_ba4f3_22 fc_J6_getChars_ba4f3_104
        rw [if_pos d8, if_pos rfl, if_pos d3, if_neg i100, b1, dr_mk b2, Option.bind_some, e1]
        have hx : nI (l.length + [48 + k / 10, 48 + k % 10].length) + (-1 : Int32) = nI (l.length + 1) := jDec (a := l.length + 2) (Nat.succ_ne_zero _)
        have hx2 : nI (l.length + 1) + (-1 : Int32) = nI l.length := jDec (a := l.length + 1) (Nat.succ_ne_zero _)
        rw [hx, hx2, if_neg (iN0 (show l.length + 1 < cln σ1 16 (arr σ1) by omega) (by omega)), if_neg (fun z => q (d4.mp z)), if_neg i100]
        refine (if_neg (iN0 (show l.length < cln σ1 16 (arr σ1) by omega) (by omega))).trans ?_
        rw [if_pos rfl, jCl (by omega), jCl (by omega), d5, jCl (by omega), d6, d7]
      refine ⟨uI (uI (uI σ1 16 (arr σ1) (l.length + 1) (nI (48 + k % 10))) 16 (arr σ1) l.length (nI (48 + k / 10))) 11 0 3 (nI (l.length + (sDg k).length)), ?_, ?_⟩
      · refine (if_neg (show ¬ (1 : Int32) = 0 by decide)).trans ?_
        rw [eg, Option.bind_some]
      · refine sb_write (m := sDg k) h1 hr hcd rfl rfl rfl rfl rfl (fun k' i z1 z2 => ?_) ?_ ?_ (fun f => ?_)
        · rw [uI_ne _ _ _ (fun z => z1 z.1), uI_ne _ _ _ (fun z => z2 z.1), uI_ne _ _ _ (fun z => z2 z.1)]
        · rw [uI_at, if_neg (by decide), uI_ne _ _ _ (fun z => absurd z.1 (by decide)), uI_ne _ _ _ (fun z => absurd z.1 (by decide))]
          exact b3
        · rw [uI_at]
          rfl
        · rw [uI_ne _ _ _ (fun z => absurd z.1 (by decide)), uI_at, uI_at, e1]
          show (if f = l.length then nI (48 + k / 10) else if f = l.length + 1 then nI (48 + k % 10) else cI σ1 16 (arr σ1) f) = if l.length ≤ f ∧ f < l.length + 2 then nI ([48 + k / 10, 48 + k % 10].getD (f - l.length) 0) else cI σ1 16 (arr σ1) f
          by_cases z : f = l.length
          · rw [if_pos z, if_pos (by omega), z, Nat.sub_self]
            rfl
          · by_cases z2 : f = l.length + 1
            · rw [if_neg z, if_pos z2, if_pos (by omega), z2, show l.length + 1 - l.length = 1 by omega]
              rfl
            · rw [if_neg z, if_neg z2, if_neg (by omega)]
  have := sb_app (m := sDg k) h (by omega) (by omega) (Z := fc_J4_append_bf812Z σ (nI k)) (S := fc_J4_append_bf812S σ (nI k)) (B := fun r_2 => (fc_J5_isLatin1_aae02 r_2).bind fun r_4 => if r_4.1 = 0 then none else (fc_J6_getChars_ba4f3 r_4.2 (nI k) (nI (l.length + (sDg k).length)) (cR r_4.2 11 0 0)).bind fun r_5 => some (uI r_5.2 11 0 3 (nI (l.length + (sDg k).length)))) ?_ ?_ key
  · exact this
  · unfold fc_J4_append_bf812Z fc_J5_append_c97b9Z
    rw [size_s hk, Option.bind_some, a4, jAdd]
    exact Option.bind_fun_some _
  · unfold fc_J4_append_bf812S fc_J5_append_c97b9S
    rw [size_s hk, Option.bind_some, a4, jAdd]
    exact Option.bind_fun_some _
end Z20
