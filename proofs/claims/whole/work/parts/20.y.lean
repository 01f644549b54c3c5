/-! The builder of lines: signs, texts, small numbers. -/
theorem b128 : ∀ c, c < 128 → ((nI c).toInt8.toInt32).toInt8.toInt32 = nI c := by decide +kernel
theorem c128 : ∀ c, c < 128 → ((((nI c) &&& (255 : Int32)).toUInt32 % 65536).toInt32) = nI c := by decide +kernel
theorem tB_at : ∀ i, i < 17 → ∀ k, k < (tN i).length → (tB.getD i []).getD k 0 = nI ((tN i).getD k 0) := by decide +kernel
theorem tN_128 : ∀ i, i < 17 → ∀ c ∈ tN i, c < 128 := by decide +kernel
section Y20
variable {σ σ1 : cS} {l m : List Nat}
theorem getD_app2 (l m : List Nat) (k : Nat) : (l ++ m).getD k 0 = if k < l.length then l.getD k 0 else m.getD (k - l.length) 0 := by
  rw [List.getD_eq_getElem?_getD]
  by_cases h : k < l.length
  · rw [List.getElem?_append_left h, if_pos h, List.getD_eq_getElem?_getD]
  · rw [List.getElem?_append_right (by omega), if_neg h, List.getD_eq_getElem?_getD]
/-- what is written behind the count, and the count -/
theorem sb_write (h : SBd σ l) (hr : l.length + m.length ≤ cln σ 16 (arr σ)) (hm : ∀ c ∈ m, c < 128) {σ2 : cS} (hn : cn σ2 = cn σ) (hl : cln σ2 = cln σ) (he : cel σ2 = cel σ) (hR : cR σ2 = cR σ) (hJ : cJ σ2 = cJ σ) (hI : ∀ k i, k ≠ 11 → k ≠ 16 → cI σ2 k i = cI σ k i) (h1 : cI σ2 11 0 1 = 0) (h3 : cI σ2 11 0 3 = nI (l.length + m.length)) (hb : ∀ f, cI σ2 16 (arr σ) f = if l.length ≤ f ∧ f < l.length + m.length then nI (m.getD (f - l.length) 0) else cI σ 16 (arr σ) f) : SBd σ2 (l ++ m) ∧ lev σ2 = lev σ ∧ KB σ σ2 := by
  obtain ⟨a1, a2, a3, a4, a5, a6, a7, a8⟩ := sbL h
  obtain ⟨⟨⟨c1, c2, c3⟩, -⟩, c4, c5, -⟩ := id h
  have len : (l ++ m).length = l.length + m.length := List.length_append
  have mlt : ∀ k, k < m.length → m.getD k 0 < 128 := fun k hk => by
    rw [gD hk]
    exact hm _ (List.getElem_mem hk)
  refine ⟨⟨⟨⟨by rw [hl]; exact c1, ?_, h1⟩, arr σ, by rw [hR]; exact a1, by rw [hn]; exact a2, by rw [hl]; exact a5, fun f hf => ?_⟩, by rw [len]; exact h3, fun c hc => ?_, arr σ, by rw [hR]; exact a1, by rw [hl, len]; exact hr, fun k hk => ?_⟩, ?_, ⟨fun k => by rw [hn]; exact Nat.le_refl _, fun k _ => by rw [hn], fun k i hi => ⟨by rw [hl], fun _ => by rw [he], fun z1 z2 => ⟨hI k i z1 z2, by rw [hJ], by rw [hR]⟩⟩⟩⟩
  · rw [h3]
    intro z
    rw [n0, jLt (by omega) (by omega)] at z
    omega
  · rw [hl] at hf
    rw [hb]
    split
    · rename_i z
      have h1 := b128 _ (mlt (f - l.length) (by omega))
      have h2 : (nI (m.getD (f - l.length) 0)).toInt8.toInt32 = nI (m.getD (f - l.length) 0) := by
        have : ∀ c, c < 128 → (nI c).toInt8.toInt32 = nI c := by decide +kernel
        exact this _ (mlt (f - l.length) (by omega))
      exact h2
    · exact a8 f hf
  · rw [List.mem_append] at hc
    rcases hc with z | z
    · exact c5 c z
    · exact hm c z
  · rw [len] at hk
    rw [hb, getD_app2]
    by_cases z : k < l.length
    · rw [if_neg (by omega), if_pos z]
      exact a7 k z
    · rw [if_pos (by omega), if_neg z]
  · unfold lev
    rw [hR, hl]
theorem sb_appc (h : SBd σ l) {c : Nat} (hc : c < 128) (hn : l.length + 1 ≤ 142) : ∃ σ', fc_A_appc σ (nI c) = some σ' ∧ SBd σ' (l ++ [c]) ∧ KB σ σ' := by
  have a4 := h.2.1
  have key : ∀ σ1, SBd σ1 l → l.length + [c].length ≤ cln σ1 16 (arr σ1) → ∃ σ2, ((fc_J5_isLatin1_aae02 σ1).bind fun r_3 => if r_3.1 = 0 then none else (fc_J1_canEncode_fc78d r_3.2 (nI c)).bind fun r_4 => if r_4.1 = 0 then none else (dr (uI r_4.2 11 0 3 ((cI r_4.2 11 0 3) + (1 : Int32))) 16 (cR r_4.2 11 0 0)).bind fun i_5 => if (cI r_4.2 11 0 3) < 0 ∨ cln (uI r_4.2 11 0 3 ((cI r_4.2 11 0 3) + (1 : Int32))) 16 i_5 ≤ (cI r_4.2 11 0 3).toNatClampNeg then none else some (uI (uI r_4.2 11 0 3 ((cI r_4.2 11 0 3) + (1 : Int32))) 16 i_5 (cI r_4.2 11 0 3).toNatClampNeg (((nI c).toInt8.toInt32).toInt8.toInt32))) = some σ2 ∧ SBd σ2 (l ++ [c]) ∧ lev σ2 = lev σ1 ∧ KB σ1 σ2 := by
    intro σ1 h1 hr
    obtain ⟨b1, b2, b3, b4, b5, b6, b7, b8⟩ := sbL h1
    have hr : l.length + 1 ≤ cln σ1 16 (arr σ1) := hr
    have o1 : (1 : Int32) &&& 1 = 1 := by decide
    have elat : fc_J5_isLatin1_aae02 σ1 = some (1, σ1) := by
      unfold fc_J5_isLatin1_aae02 fc_J5_isLatin1_aae02_18
      rw [if_neg (show ¬ (1 : Int32) = 0 by decide), if_pos b3, if_pos o1]
    have eenc : fc_J1_canEncode_fc78d σ1 (nI c) = some (1, σ1) := by
      unfold fc_J1_canEncode_fc78d fc_J1_canEncode_fc78d_12
      rw [if_neg (show ¬ (255 : Int32) < nI c by rw [show (255 : Int32) = nI 255 from rfl, jLt (by omega) (by omega)]; omega), if_pos o1]
    refine ⟨uI (uI σ1 11 0 3 (nI (l.length + 1))) 16 (arr σ1) l.length (nI c), ?_, ?_⟩
    · rw [elat, Option.bind_some]
      refine (if_neg (show ¬ (1 : Int32) = 0 by decide)).trans ?_
      show (fc_J1_canEncode_fc78d σ1 (nI c)).bind _ = _
      rw [eenc, Option.bind_some]
      refine (if_neg (show ¬ (1 : Int32) = 0 by decide)).trans ?_
      show (dr (uI σ1 11 0 3 ((cI σ1 11 0 3) + (1 : Int32))) 16 (cR σ1 11 0 0)).bind _ = _
      rw [b1, dr_mk (show arr σ1 < cn (uI σ1 11 0 3 ((cI σ1 11 0 3) + (1 : Int32))) 16 from b2), Option.bind_some]
      show (if (cI σ1 11 0 3) < 0 ∨ cln σ1 16 (arr σ1) ≤ (cI σ1 11 0 3).toNatClampNeg then none else some (uI (uI σ1 11 0 3 ((cI σ1 11 0 3) + (1 : Int32))) 16 (arr σ1) (cI σ1 11 0 3).toNatClampNeg (((nI c).toInt8.toInt32).toInt8.toInt32))) = _
      rw [b4, if_neg (iN0 (show l.length < cln σ1 16 (arr σ1) by omega) (by omega)), jCl (by omega), b128 c hc, n1, jAdd]
    · refine sb_write (m := [c]) h1 hr (fun x hx => by rw [List.mem_singleton] at hx; rw [hx]; exact hc) rfl rfl rfl rfl rfl (fun k i z1 z2 => ?_) ?_ ?_ (fun f => ?_)
      · rw [uI_ne _ _ _ (fun z => z2 z.1), uI_ne _ _ _ (fun z => z1 z.1)]
      · rw [uI_ne _ _ _ (fun z => absurd z.1 (by decide)), uI_at]
        exact b3
      · rw [uI_ne _ _ _ (fun z => absurd z.1 (by decide)), uI_at]
        rfl
      · rw [uI_at]
        show (if f = l.length then nI c else cI (uI σ1 11 0 3 (nI (l.length + 1))) 16 (arr σ1) f) = if l.length ≤ f ∧ f < l.length + 1 then nI ([c].getD (f - l.length) 0) else cI σ1 16 (arr σ1) f
        rw [uI_ne _ _ _ (fun z => absurd z.1 (by decide))]
        by_cases z : f = l.length
        · rw [if_pos z, if_pos (by omega), z, Nat.sub_self]
          rfl
        · rw [if_neg z, if_neg (by omega)]
  have := sb_app (m := [c]) h (by simp) hn (Z := fc_J4_append_cf468Z σ (nI c)) (S := fc_J4_append_cf468S σ (nI c)) (B := fun r_1 => (fc_J5_isLatin1_aae02 r_1).bind fun r_3 => if r_3.1 = 0 then none else (fc_J1_canEncode_fc78d r_3.2 (nI c)).bind fun r_4 => if r_4.1 = 0 then none else (dr (uI r_4.2 11 0 3 ((cI r_4.2 11 0 3) + (1 : Int32))) 16 (cR r_4.2 11 0 0)).bind fun i_5 => if (cI r_4.2 11 0 3) < 0 ∨ cln (uI r_4.2 11 0 3 ((cI r_4.2 11 0 3) + (1 : Int32))) 16 i_5 ≤ (cI r_4.2 11 0 3).toNatClampNeg then none else some (uI (uI r_4.2 11 0 3 ((cI r_4.2 11 0 3) + (1 : Int32))) 16 i_5 (cI r_4.2 11 0 3).toNatClampNeg (((nI c).toInt8.toInt32).toInt8.toInt32))) ?_ ?_ key
  · exact this
  · unfold fc_J4_append_cf468Z fc_J5_append_3fe6fZ
    rw [a4, n1, jAdd]
    exact Option.bind_fun_some _
  · unfold fc_J4_append_cf468S fc_J5_append_3fe6fS
    rw [a4, n1, jAdd]
    exact Option.bind_fun_some _
theorem sb_apps (h : SBd σ l) {i : Nat} (hi : i < 17) (hn : l.length + (tN i).length ≤ 142) : ∃ σ', fc_A_apps σ (some i) = some σ' ∧ SBd σ' (l ++ tN i) ∧ KB σ σ' := by
  obtain ⟨t1, t2, t3, t4⟩ := tN_len i hi
  have a4 := h.2.1
  have ecod : ∀ σ1 : cS, fc_J0_coder_7d493 σ1 (some i) = some (0, σ1) := fun σ1 => by
    unfold fc_J0_coder_7d493 fc_J0_coder_7d493_14
    rw [if_neg (show ¬ (1 : Int32) = 0 by decide), dt_mk hi, Option.bind_some]
    exact if_pos (by decide)
  have key : ∀ σ1, SBd σ1 l → l.length + (tN i).length ≤ cln σ1 16 (arr σ1) → ∃ σ2, ((fc_J5_putStringAt_47b60 σ1 (cI σ1 11 0 3) (some i)).bind fun r_6 => some (uI r_6 11 0 3 ((cI r_6 11 0 3) + nI (tN i).length))) = some σ2 ∧ SBd σ2 (l ++ tN i) ∧ lev σ2 = lev σ1 ∧ KB σ1 σ2 := by
    intro σ1 h1 hr
    obtain ⟨b1, b2, b3, b4, b5, b6, b7, b8⟩ := sbL h1
    obtain ⟨L, hL⟩ : ∃ L, L = (tN i).length := ⟨_, rfl⟩
    have tl : tL.getD i 0 = L := t2.trans hL.symm
    obtain ⟨σ2, h2⟩ : ∃ σ2, σ2 = uBt σ1 i 0 (arr σ1) l.length L := ⟨_, rfl⟩
    have eput : fc_J5_putStringAt_47b60 σ1 (nI l.length) (some i) = some σ2 := by
      unfold fc_J5_putStringAt_47b60 fc_J5_inflateIfNeededFor_a7421 fc_J5_inflateIfNeededFor_a7421_21 fc_J0_getBytes_840e7
      rw [if_neg (show ¬ (1 : Int32) = 0 by decide), dt_mk hi, Option.bind_some, ecod, Option.bind_some]
      rw [b3, if_pos rfl, Option.bind_some, Option.bind_some, Option.bind_some, ecod, Option.bind_some]
      rw [b3, if_pos rfl, Option.bind_some, Option.bind_some, dt_mk hi, Option.bind_some]
      rw [b1, dr_mk b2, Option.bind_some, Option.bind_some, tl, shl0 _ (by omega)]
      rw [if_neg (show ¬ ¬ ¬ nI l.length < 0 from fun z => z (fun y => by rw [n0, jLt (by omega) (by omega)] at y; omega)), if_neg (show ¬ ¬ ¬ nI L < 0 from fun z => z (fun y => by rw [n0, jLt (by omega) (by omega)] at y; omega)), jCl (by omega), jCl (by omega), if_neg (show ¬ ¬ L ≤ L by omega), if_neg (show ¬ ¬ l.length + L ≤ cln σ1 16 (arr σ1) by omega), ← h2]
      rfl
    rw [b4, eput, Option.bind_some]
    have i11 : ∀ f, cI σ2 11 0 f = cI σ1 11 0 f := fun f => by
      rw [h2]
      show (if 11 = 16 ∧ 0 = arr σ1 ∧ l.length ≤ f ∧ f < l.length + L then (tB.getD i []).getD (0 + (f - l.length)) 0 else cI σ1 11 0 f) = _
      exact if_neg (fun z => absurd z.1 (by decide))
    refine ⟨uI σ2 11 0 3 (nI (l.length + (tN i).length)), by rw [i11, b4, jAdd], ?_⟩
    refine sb_write h1 hr (fun x hx => tN_128 i hi x hx) (by rw [h2]; rfl) (by rw [h2]; rfl) (by rw [h2]; rfl) (by rw [h2]; rfl) (by rw [h2]; rfl) (fun k j z1 z2 => ?_) ?_ ?_ (fun f => ?_)
    · rw [uI_ne _ _ _ (fun z => z1 z.1), h2]
      funext f
      show (if k = 16 ∧ j = arr σ1 ∧ l.length ≤ f ∧ f < l.length + L then (tB.getD i []).getD (0 + (f - l.length)) 0 else cI σ1 k j f) = _
      exact if_neg (fun z => z2 z.1)
    · rw [uI_at, if_neg (by decide), i11]
      exact b3
    · rw [uI_at]
      rfl
    · rw [uI_ne _ _ _ (fun z => absurd z.1 (by decide)), h2]
      show (if 16 = 16 ∧ arr σ1 = arr σ1 ∧ l.length ≤ f ∧ f < l.length + L then (tB.getD i []).getD (0 + (f - l.length)) 0 else cI σ1 16 (arr σ1) f) = _
      rw [Nat.zero_add]
      by_cases z : l.length ≤ f ∧ f < l.length + (tN i).length
      · rw [if_pos ⟨rfl, rfl, by omega, by omega⟩, if_pos z, tB_at i hi _ (by omega)]
      · rw [if_neg (fun y => by omega), if_neg z]
  have := sb_app (m := tN i) h t3 hn (Z := fc_J4_append_15ec4Z σ (some i)) (S := fc_J4_append_15ec4S σ (some i)) (B := fun r_3 => (fc_J5_putStringAt_47b60 r_3 (cI r_3 11 0 3) (some i)).bind fun r_6 => some (uI r_6 11 0 3 ((cI r_6 11 0 3) + nI (tN i).length))) ?_ ?_ key
  · exact this
  · unfold fc_J4_append_15ec4Z fc_J5_append_cf1ceZ
    rw [if_neg (fun z => by cases z), dt_mk hi, Option.bind_some, fc_tlen hi, Option.bind_some]
    show ((fc_J5_ensureCapacityInternal_d00dfZ σ (cI σ 11 0 3 + nI (tN i).length)).bind _).bind _ = _
    rw [a4, jAdd]
    exact Option.bind_fun_some _
  · unfold fc_J4_append_15ec4S fc_J5_append_cf1ceS
    rw [if_neg (fun z => by cases z), dt_mk hi, Option.bind_some, fc_tlen hi, Option.bind_some]
    show ((fc_J5_ensureCapacityInternal_d00dfS σ (cI σ 11 0 3 + nI (tN i).length)).bind _).bind _ = _
    rw [a4, jAdd]
    exact Option.bind_fun_some _
theorem sb_setl (h : SBi σ) : ∃ σ', fc_A_setl σ 0 = some σ' ∧ SBd σ' [] ∧ KB σ σ' := by
  obtain ⟨⟨a1, a2, a3⟩, b, b1, b2, b3, b4⟩ := id h
  have ens : fc_J5_ensureCapacityInternal_d00dfZ σ 0 = some σ := by
    unfold fc_J5_ensureCapacityInternal_d00dfZ
    rw [b1, dr_mk b2, Option.bind_some, a3]
    exact if_pos (by rcases b3 with z | z | z | z <;> rw [z] <;> decide)
  have mk : ∀ σ1, σ1 = σ ∨ σ1 = uI σ 11 0 2 1 → SBd (uI σ1 11 0 3 0) [] ∧ lev (uI σ1 11 0 3 0) = lev σ ∧ KB σ (uI σ1 11 0 3 0) := by
    intro σ1 hσ1
    have e16 : ∀ i, cI (uI σ1 11 0 3 0) 16 i = cI σ 16 i := fun i => by
      rw [uI_ne _ _ _ (fun z => absurd z.1 (by decide))]
      rcases hσ1 with z | z
      · rw [z]
      · rw [z, uI_ne _ _ _ (fun z => absurd z.1 (by decide))]
    have e1 : cI (uI σ1 11 0 3 0) 11 0 1 = 0 := by
      rw [uI_at, if_neg (by decide)]
      rcases hσ1 with z | z
      · rw [z]; exact a3
      · rw [z, uI_at, if_neg (by decide)]; exact a3
    have eR : cR (uI σ1 11 0 3 0) = cR σ := by rcases hσ1 with z | z <;> rw [z] <;> rfl
    have el : cln (uI σ1 11 0 3 0) = cln σ := by rcases hσ1 with z | z <;> rw [z] <;> rfl
    have en : cn (uI σ1 11 0 3 0) = cn σ := by rcases hσ1 with z | z <;> rw [z] <;> rfl
    refine ⟨⟨⟨⟨by rw [el]; exact a1, by rw [uI_at, if_pos rfl]; decide, e1⟩, b, by rw [eR]; exact b1, by rw [en]; exact b2, by rw [el]; exact b3, fun f hf => ?_⟩, by rw [uI_at, if_pos rfl]; rfl, fun c h => (by cases h), b, by rw [eR]; exact b1, Nat.zero_le _, fun k hk => absurd hk (Nat.not_lt_zero k)⟩, ?_, ?_⟩
    · rw [el] at hf
      rw [e16]
      exact b4 f hf
    · unfold lev
      rw [eR, el]
    · rcases hσ1 with z | z
      · rw [z]; exact KB.I (Or.inl rfl)
      · rw [z]; exact (KB.I (Or.inl rfl)).tr (KB.I (Or.inl rfl))
  have key : ∃ σ1, (σ1 = σ ∨ σ1 = uI σ 11 0 2 1) ∧ fc_J4_setLength_d00dfZ σ 0 = some (uI σ1 11 0 3 0) := by
    unfold fc_J4_setLength_d00dfZ fc_J5_setLength_d00dfZ fc_J5_setLength_d00dfZ_76
    rw [if_pos (show (0 : Int32) ≤ 0 by decide), ens, Option.bind_some, if_pos (show (0 : Int32) ≤ cI σ 11 0 3 by
      rw [Int32.le_iff_toInt_le]
      rw [Int32.lt_iff_toInt_lt] at a2
      omega)]
    by_cases q : cI σ 11 0 3 ≤ 0
    · rw [if_pos q]
      exact ⟨σ, Or.inl rfl, rfl⟩
    · rw [if_neg q, if_neg (show ¬ ¬ ((1 : Int32) &&& 1 = (1 : Int32)) by decide)]
      exact ⟨uI σ 11 0 2 1, Or.inr rfl, rfl⟩
  obtain ⟨σ1, h1, h2⟩ := key
  obtain ⟨m1, m2, m3⟩ := mk σ1 h1
  refine ⟨_, ?_, m1, m3⟩
  unfold fc_A_setl exA
  rw [h2]
  exact if_pos m2
end Y20
