/-! The line of play: the class's side; line and signOf. -/
theorem tN14 : ∀ d, d < 6 → (tN 14).getD d 0 = sDsg d ∧ sDsg d < 128 := by decide +kernel
theorem tN16 : tN 16 = 32 :: tN 15 := by decide +kernel
theorem vT17 : ∀ v, v < 15 → vT.getD v 0 < 17 := by decide
section E21
variable {g : Gm} {σ σ1 : cS} {τ τ1 : mS} {w : Wd} {t : Tr} {l m : List Nat} {s : St}
theorem fc_cmd_14 {c : Nat} {q : Cm} (hc : RCm σ c q) (hv : q.1 < 15) : fc_X11_writeCommand_14 σ (some c) = fc_X11_writeCommand_25 σ (some c) (nI q.1) := by
  unfold fc_X11_writeCommand_14
  rw [dr_mk hc.1, Option.bind_some, hc.2.1, dv_mk hv, Option.bind_some]
theorem fc_cmd_one (hw : Wd.ok w) (hW : CWd σ w) (hL : cLbs σ) {c v k : Nat} {z : Option Nat} (h2 : 2 ≤ v) (h8 : v ≤ 8) (hk : k < w.W) (hc : RCm σ c (v, some k, z)) (hS : SBd σ l) (hl : l.length + 9 ≤ 142) : ∃ σ', fc_X11_writeCommand_25 σ (some c) (nI v) = some σ' ∧ SBd σ' (l ++ 32 :: w.word k) ∧ KB σ σ' := by
  obtain ⟨σ1, a1, a2, a3⟩ := fc_word_s hw hW hL hk hS hl
  refine ⟨σ1, ?_, a2, a3⟩
  have tail : ((dr σ 8 (some c)).bind fun i_13 => (fc_X11_writeWord σ (cI σ 8 i_13 1)).bind fun r_14 => fc_X11_writeCommand_159 r_14) = some σ1 := by
    rw [dr_mk hc.1, Option.bind_some, hc.2.2.1]
    show (fc_X11_writeWord σ (nI k)).bind _ = _
    rw [a1, Option.bind_some]
    rfl
  unfold fc_X11_writeCommand_25
  rcases (show v = 2 ∨ v = 3 ∨ v = 4 ∨ v = 5 ∨ v = 6 ∨ v = 7 ∨ v = 8 by omega) with y | y | y | y | y | y | y <;> rw [y] <;> exact tail
theorem fc_cmd_put (hw : Wd.ok w) (hW : CWd σ w) (hL : cLbs σ) {c a b : Nat} (ha : a < w.W) (hb : b < w.W) (hc : RCm σ c (9, some a, some b)) (hS : SBd σ l) (hl : l.length + 21 ≤ 142) : ∃ σ', fc_X11_writeCommand_25 σ (some c) (nI 9) = some σ' ∧ SBd σ' (l ++ 32 :: (w.word a ++ 32 :: (tN 15 ++ 32 :: w.word b))) ∧ KB σ σ' := by
  have lw := (hw.2.1 a ha).2.1
  have l16 : (tN 16).length = 3 := by decide +kernel
  obtain ⟨σ1, a1, a2, a3⟩ := fc_word_s hw hW hL ha hS (by omega)
  have len1 : (l ++ 32 :: w.word a).length = l.length + ((w.word a).length + 1) := List.length_append
  obtain ⟨σ2, b1, b2, b3⟩ := sb_apps a2 (i := 16) (by omega) (by omega)
  have hk := a3.tr b3
  obtain ⟨W2, L2⟩ := hW.kb hL hk
  have len2 : ((l ++ 32 :: w.word a) ++ tN 16).length = (l ++ 32 :: w.word a).length + (tN 16).length := List.length_append
  obtain ⟨σ3, c1, c2, c3⟩ := fc_word_s hw W2 L2 hb b2 (by omega)
  have hc1 := hc.kb a3
  have hc2 := hc.kb hk
  refine ⟨σ3, ?_, ?_, hk.tr c3⟩
  · show ((dr σ 8 (some c)).bind fun i_9 => if ¬ (lvq σ 8 (some c) = true) then none else (fc_X11_writeWord σ (cI σ 8 i_9 1)).bind fun r_10 => fc_X11_writeCommand_129 r_10 (some c)) = _
    rw [dr_mk hc.1, Option.bind_some, if_neg (fun z => (lvq_mk hc.1).mp z), hc.2.2.1]
    show (fc_X11_writeWord σ (nI a)).bind _ = _
    rw [a1, Option.bind_some]
    unfold fc_X11_writeCommand_129
    rw [if_neg (fun z => (lvq_mk hc1.1).mp z), b1, Option.bind_some]
    unfold fc_X11_writeCommand_139
    rw [dr_mk hc2.1, Option.bind_some, hc2.2.2.2]
    show (fc_X11_writeWord σ2 (nI b)).bind _ = _
    rw [c1, Option.bind_some]
    rfl
  · have e : l ++ 32 :: (w.word a ++ 32 :: (tN 15 ++ 32 :: w.word b)) = ((l ++ 32 :: w.word a) ++ tN 16) ++ 32 :: w.word b := by
      rw [tN16]
      simp
    rw [e]
    exact c2
theorem fc_cmd_num {c v h : Nat} (h12 : 12 ≤ v) (h14 : v ≤ 14) (hh : h < 100) (hc : RCm σ c (v, some h, none)) (hS : SBd σ l) (hl : l.length + 3 ≤ 142) : ∃ σ', fc_X11_writeCommand_25 σ (some c) (nI v) = some σ' ∧ SBd σ' (l ++ 32 :: sDg h) ∧ KB σ σ' := by
  obtain ⟨σ1, a1, a2, a3⟩ := sb_appc hS (c := 32) (by omega) (by omega)
  have len1 : (l ++ [32]).length = l.length + 1 := List.length_append
  obtain ⟨σ2, b1, b2, b3⟩ := sb_appi a2 hh (by omega)
  have hc1 := hc.kb a3
  refine ⟨σ2, ?_, by rw [app1]; exact b2, a3.tr b3⟩
  have tail : (if ¬ (lvq σ 8 (some c) = true) then none else (fc_A_appc σ (32 : Int32)).bind fun r_1 => fc_X11_writeCommand_110 r_1 (some c)) = some σ2 := by
    rw [if_neg (fun z => (lvq_mk hc.1).mp z), show (32 : Int32) = nI 32 from rfl, a1, Option.bind_some]
    unfold fc_X11_writeCommand_110
    rw [dr_mk hc1.1, Option.bind_some, hc1.2.2.1]
    show (fc_A_appi σ1 (nI h)).bind _ = _
    rw [b1, Option.bind_some]
    rfl
  unfold fc_X11_writeCommand_25
  rcases (show v = 12 ∨ v = 13 ∨ v = 14 by omega) with y | y | y <;> rw [y] <;> exact tail
theorem fc_cmd_go {c d : Nat} (hd : d < 6) (hc : RCm σ c (1, some d, none)) (hS : SBd σ l) (hl : l.length + 3 ≤ 142) : ∃ σ', fc_X11_writeCommand_25 σ (some c) (nI 1) = some σ' ∧ SBd σ' (l ++ [32, sDsg d]) ∧ KB σ σ' := by
  obtain ⟨σ1, a1, a2, a3⟩ := sb_appc hS (c := 32) (by omega) (by omega)
  have len1 : (l ++ [32]).length = l.length + 1 := List.length_append
  obtain ⟨e1, e2⟩ := tN14 d hd
  have l14 : (tN 14).length = 6 := by decide +kernel
  obtain ⟨σ2, b1, b2, b3⟩ := sb_appc a2 (c := sDsg d) e2 (by omega)
  have hc1 := hc.kb a3
  refine ⟨σ2, ?_, by rw [app1]; exact b2, a3.tr b3⟩
  show (if ¬ (lvq σ 8 (some c) = true) then none else (fc_A_appc σ (32 : Int32)).bind fun r_5 => fc_X11_writeCommand_84 r_5 (some c)) = some σ2
  rw [if_neg (fun z => (lvq_mk hc.1).mp z), show (32 : Int32) = nI 32 from rfl, a1, Option.bind_some]
  unfold fc_X11_writeCommand_84 fc_X11_writeCommand_94
  rw [dr_mk hc1.1, Option.bind_some, hc1.2.2.1]
  show (fc_J0_charAt_5068e σ1 (some 14) (nI d)).bind _ = _
  rw [fc_tat (by omega) (by omega), Option.bind_some, e1, b1, Option.bind_some]
  rfl
theorem fc_cmd_s (hw : Wd.ok w) (hW : CWd σ w) (hL : cLbs σ) {c : Nat} {q : Cm} (hq : (∃ a b, q = (0, a, b)) ∨ cmQ w q) (hs : qSm q) (hc : RCm σ c q) (hS : SBd σ []) : ∃ σ', fc_X11_writeCommand σ (some c) = some σ' ∧ SBd σ' (sSay w q) ∧ KB σ σ' := by
  have hv : q.1 < 15 := by
    rcases hq with ⟨a, b, y⟩ | y | ⟨v, h, y1, y2, y3, y⟩
    · rw [y]; show 0 < 15; decide
    · rcases y with ⟨d, y1, y⟩ | y | y | ⟨v, k, y1, y2, y3, y⟩ | ⟨a, b, y1, y2, y⟩
      · rw [y]; show 1 < 15; decide
      · rw [y]; show 10 < 15; decide
      · rw [y]; show 11 < 15; decide
      · rw [y]; show v < 15; omega
      · rw [y]; show 9 < 15; decide
    · rw [y]; show v < 15; omega
  have h6 : (tN (vT.getD q.1 0)).length ≤ 6 := (tN_len _ (vT17 _ hv)).2.2.1
  obtain ⟨σ1, a1, a2, a3⟩ := sb_apps hS (i := vT.getD q.1 0) (vT17 _ hv) (by show 0 + _ ≤ 142; omega)
  rw [List.nil_append] at a2
  obtain ⟨W1, L1⟩ := hW.kb hL a3
  have hc1 := hc.kb a3
  have head : fc_X11_writeCommand σ (some c) = fc_X11_writeCommand_25 σ1 (some c) (nI q.1) := by
    unfold fc_X11_writeCommand
    rw [dr_mk hc.1, Option.bind_some, hc.2.1, dv_mk hv, Option.bind_some, if_neg (fun z => (lvq_mk hc.1).mp z), a1, Option.bind_some, fc_cmd_14 hc1 hv]
  rw [head]
  have fin : ∀ r, sSay w q = tN (vT.getD q.1 0) ++ r → (∃ σ', fc_X11_writeCommand_25 σ1 (some c) (nI q.1) = some σ' ∧ SBd σ' (tN (vT.getD q.1 0) ++ r) ∧ KB σ1 σ') → ∃ σ', fc_X11_writeCommand_25 σ1 (some c) (nI q.1) = some σ' ∧ SBd σ' (sSay w q) ∧ KB σ σ' := by
    rintro r hr ⟨σ2, b1, b2, b3⟩
    exact ⟨σ2, b1, by rw [hr]; exact b2, a3.tr b3⟩
  have none_ : sSay w q = tN (vT.getD q.1 0) → fc_X11_writeCommand_25 σ1 (some c) (nI q.1) = some σ1 → ∃ σ', fc_X11_writeCommand_25 σ1 (some c) (nI q.1) = some σ' ∧ SBd σ' (sSay w q) ∧ KB σ σ' := fun h1 h2 => fin [] (by rw [List.append_nil]; exact h1) ⟨σ1, h2, by rw [List.append_nil]; exact a2, KB.rf _⟩
  rcases hq with ⟨a, b, y⟩ | y | ⟨v, h, y1, y2, y3, y⟩
  · rw [y] at none_ ⊢
    exact none_ rfl rfl
  · rcases y with ⟨d, y1, y⟩ | y | y | ⟨v, k, y1, y2, y3, y⟩ | ⟨a, b, y1, y2, y⟩
    · rw [y] at fin a2 hc1 h6 ⊢
      exact fin [32, sDsg d] rfl (fc_cmd_go y1 hc1 a2 (by omega))
    · rw [y] at none_ ⊢
      exact none_ rfl rfl
    · rw [y] at none_ ⊢
      exact none_ rfl rfl
    · rw [y] at fin a2 hc1 h6 ⊢
      refine fin (32 :: w.word k) ?_ (fc_cmd_one hw W1 L1 y1 y2 y3 hc1 a2 (by omega))
      rcases (show v = 2 ∨ v = 3 ∨ v = 4 ∨ v = 5 ∨ v = 6 ∨ v = 7 ∨ v = 8 by omega) with z | z | z | z | z | z | z <;> rw [z] <;> rfl
    · rw [y] at fin a2 hc1 h6 ⊢
      exact fin (32 :: (w.word a ++ 32 :: (tN 15 ++ 32 :: w.word b))) rfl (fc_cmd_put hw W1 L1 y1 y2 hc1 a2 (by omega))
  · rw [y] at fin a2 hc1 h6 hs ⊢
    have hh : h < 100 := hs y1
    refine fin (32 :: sDg h) ?_ (fc_cmd_num y1 y2 hh hc1 a2 (by omega))
    rcases (show v = 12 ∨ v = 13 ∨ v = 14 by omega) with z | z | z <;> rw [z] <;> rfl
end E21
