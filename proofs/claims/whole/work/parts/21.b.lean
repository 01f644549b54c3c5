/-! The line of play: the reference's side, whole. -/
theorem dv10 : ∀ k, k < 100 → (nI 48 + (nI k - nI k / nI 10 * nI 10)) = nI (48 + k % 10) ∧ nI 48 + nI k / nI 10 = nI (48 + k / 10) := by decide +kernel
section B21
variable {g : Gm} {τ τ1 : mS} {w : Wd} {t : Tr} {l m : List Nat} {s : St}
theorem MWd.ln (h : MWd τ w) (hf : mFr [51, 52] τ τ1) : MWd τ1 w := h.fr hf (by decide)
/-- a word's letters from k on -/
theorem fm_noun_l (hw : Wd.ok w) {K : mS → Int32 → Option mS} {x : Nat} (hx : x < w.T) : ∀ (d k n : Nat) (τ : mS) (l : List Nat), k + d = (w.word (w.noun x)).length → d < n → MWd τ w → MLn τ l → l.length + d < 200 → ∃ τ', fm_lines_243 K n τ (nI x) (nI k) = K τ' (nI (x + 1)) ∧ MLn τ' (l ++ (w.word (w.noun x)).drop k) ∧ mFr [51, 52] τ τ' := by
  obtain ⟨hn, -⟩ := hw.2.2.2.2.2.1 x hx
  obtain ⟨l1, l2, l3⟩ := hw.2.1 _ hn
  have hT := hw.1.2.2.1
  have hW := hw.1.1
  intro d
  induction d with
  | zero =>
    intro k n τ l hk hd hM hL hl
    obtain ⟨n, rfl⟩ : ∃ j, n = j + 1 := ⟨n - 1, by omega⟩
    refine ⟨τ, ?_, by rw [List.drop_of_length_le (by omega), List.append_nil]; exact hL, mFr.rf _ _⟩
    rw [show fm_lines_243 K (n + 1) τ (nI x) (nI k) = if nI x < 0 ∨ 12 ≤ (nI x).toNatClampNeg then none else (fm_lengthOf τ (τ.2.2.1 10 (nI x).toNatClampNeg)).bind fun r_1 => if r_1.1 ≤ nI k then K r_1.2 (nI x + 1) else _ from rfl]
    rw [if_neg (iN0 (show x < 12 by omega) (by omega)), jCl (by omega), (hM.2.2.2.2.2.1 x hx).1, fm_length_s hw hM hn, Option.bind_some, show nI x + 1 = nI (x + 1) from jAdd x 1]
    exact if_pos ((jLe (by omega) (by omega)).mpr (by omega))
  | succ d ih =>
    intro k n τ l hk hd hM hL hl
    obtain ⟨n, rfl⟩ : ∃ j, n = j + 1 := ⟨n - 1, by omega⟩
    have hk8 : k < (w.word (w.noun x)).length := by omega
    have step : fm_lines_243 K (n + 1) τ (nI x) (nI k) = (fm_adds τ (nI ((w.word (w.noun x)).getD k 0))).bind fun r_2 => (fm_lines_243 K n) r_2 (nI x) (nI (k + 1)) := by
      rw [show fm_lines_243 K (n + 1) τ (nI x) (nI k) = if nI x < 0 ∨ 12 ≤ (nI x).toNatClampNeg then none else (fm_lengthOf τ (τ.2.2.1 10 (nI x).toNatClampNeg)).bind fun r_1 => if r_1.1 ≤ nI k then K r_1.2 (nI x + 1) else if nI x < 0 ∨ 12 ≤ (nI x).toNatClampNeg then none else if (((8 : Int32) * (r_1.2.2.2.1 10 (nI x).toNatClampNeg)) + nI k) < 0 ∨ 320 ≤ (((8 : Int32) * (r_1.2.2.2.1 10 (nI x).toNatClampNeg)) + nI k).toNatClampNeg then none else (fm_adds r_1.2 (r_1.2.2.2.1 3 (((8 : Int32) * (r_1.2.2.2.1 10 (nI x).toNatClampNeg)) + nI k).toNatClampNeg)).bind fun r_2 => (fm_lines_243 K n) r_2 (nI x) (nI k + nI 1) from rfl]
      rw [if_neg (iN0 (show x < 12 by omega) (by omega)), jCl (show x < 100000 by omega), (hM.2.2.2.2.2.1 x hx).1, fm_length_s hw hM hn, Option.bind_some]
      refine (if_neg (fun z => by have := (jLe (by omega) (by omega)).mp z; omega)).trans ?_
      rw [if_neg (iN1 (show x < 12 by omega) (by omega)), (hM.2.2.2.2.2.1 x hx).1, show (8 : Int32) = nI 8 from rfl, jMul, jAdd, jAdd, if_neg (iN0 (show 8 * w.noun x + k < 320 by omega) (by omega)), jCl (by omega), hM.2.1 _ hn k (by omega)]
    obtain ⟨τ1, a1, a2, a3⟩ := fm_adds_s (c := (w.word (w.noun x)).getD k 0) hL (by omega)
    obtain ⟨τ2, b1, b2, b3⟩ := ih (k + 1) n τ1 (l ++ [(w.word (w.noun x)).getD k 0]) (by omega) (by omega) (hM.ln a3) a2 (by rw [List.length_append]; show _ + 1 + d < 200; omega)
    refine ⟨τ2, ?_, ?_, a3.tr b3⟩
    · rw [step, a1, Option.bind_some, b1]
    · have e : (w.word (w.noun x)).drop k = (w.word (w.noun x)).getD k 0 :: (w.word (w.noun x)).drop (k + 1) := by
        rw [gD hk8]
        exact List.drop_eq_getElem_cons hk8
      rw [e, app1]
      exact b2
theorem word_len (hw : Wd.ok w) {x : Nat} (hx : x < w.T) : (w.word (w.noun x)).length ≤ 8 := (hw.2.1 _ (hw.2.2.2.2.2.1 x hx).1).2.1
theorem sCar_len (hw : Wd.ok w) (s : St) : ∀ (d x : Nat), x + d = w.T → (sCar w s d x).length ≤ 9 * d := by
  intro d
  induction d with
  | zero => intro x _; exact Nat.le_refl 0
  | succ d ih =>
    intro x hx
    have h1 := ih (x + 1) (by omega)
    have h2 := word_len hw (x := x) (by omega)
    show (_ ++ _ : List Nat).length ≤ _
    rw [List.length_append]
    by_cases q : s.pl x = 100
    · rw [if_pos q]
      show (w.word (w.noun x)).length + 1 + _ ≤ _
      omega
    · rw [if_neg q]
      show 0 + _ ≤ _
      omega
/-- the nouns of what is carried -/
theorem fm_car_l (hw : Wd.ok w) {m : Nat} (hm : m < 80) (hs : St.ok w s) : ∀ (d x n : Nat) (τ : mS) (l : List Nat), x + d = w.T → d < n → MWd τ w → τ.1 34 = nI m → (∀ x, x < w.T → τ.2.2.1 22 (12 * m + x) = nI (s.pl x)) → MLn τ l → l.length + 9 * d < 199 → ∃ τ', fm_lines_205 n τ (nI x) = some τ' ∧ MLn τ' (l ++ sCar w s d x) ∧ mFr [51, 52] τ τ' := by
  have hT := hw.1.2.2.1
  intro d
  induction d with
  | zero =>
    intro x n τ l hx hd hM h34 h22 hL hl
    obtain ⟨n, rfl⟩ : ∃ j, n = j + 1 := ⟨n - 1, by omega⟩
    refine ⟨τ, ?_, by rw [sCar, List.append_nil]; exact hL, mFr.rf _ _⟩
    rw [show fm_lines_205 (n + 1) τ (nI x) = if (τ.1 16) ≤ nI x then some τ else _ from rfl]
    rw [hM.1.2.2.1]
    exact if_pos ((jLe (by omega) (by omega)).mpr (by omega))
  | succ d ih =>
    intro x n τ l hx hd hM h34 h22 hL hl
    obtain ⟨n, rfl⟩ : ∃ j, n = j + 1 := ⟨n - 1, by omega⟩
    have hxT : x < w.T := by omega
    have step : fm_lines_205 (n + 1) τ (nI x) = if s.pl x = 100 then (fm_adds τ (nI 32)).bind fun r_1 => fm_lines_243 (fm_lines_205 n) 3000 r_1 (nI x) (nI 0) else fm_lines_205 n τ (nI (x + 1)) := by
      rw [show fm_lines_205 (n + 1) τ (nI x) = if (τ.1 16) ≤ nI x then some τ else if (((12 : Int32) * (τ.1 34)) + nI x) < 0 ∨ 960 ≤ (((12 : Int32) * (τ.1 34)) + nI x).toNatClampNeg then none else if (τ.2.2.1 22 (((12 : Int32) * (τ.1 34)) + nI x).toNatClampNeg) = (100 : Int32) then (fm_adds τ (nI 32)).bind fun r_1 => fm_lines_243 (fm_lines_205 n) 3000 r_1 (nI x) (nI 0) else fm_lines_205 n τ (nI x + nI 1) from rfl]
      rw [hM.1.2.2.1, if_neg (fun z => by have := (jLe (by omega) (by omega)).mp z; omega), h34, show (12 : Int32) = nI 12 from rfl, jMul, jAdd, jAdd, if_neg (iN0 (show 12 * m + x < 960 by omega) (by omega)), jCl (by omega), h22 x hxT]
      by_cases q : s.pl x = 100
      · rw [if_pos q, if_pos (show nI (s.pl x) = (100 : Int32) by rw [q]; rfl)]
      · rw [if_neg q]
        refine if_neg (fun z => q ?_)
        have hp := (hs.2.1 x hxT).1
        have hR := hw.1.2.1
        exact (jEq (b := 100) (by omega) (by omega)).mp z
    have hwl := word_len hw hxT
    by_cases q : s.pl x = 100
    · obtain ⟨τ1, a1, a2, a3⟩ := fm_adds_s (c := 32) hL (by omega)
      obtain ⟨τ2, b1, b2, b3⟩ := fm_noun_l hw (K := fm_lines_205 n) hxT (w.word (w.noun x)).length 0 3000 τ1 (l ++ [32]) (by omega) (by omega) (hM.ln a3) a2 (by rw [List.length_append]; show _ + 1 + _ < 200; omega)
      have hf := a3.tr b3
      obtain ⟨τ3, c1, c2, c3⟩ := ih (x + 1) n τ2 _ (by omega) (by omega) (hM.ln hf) (by rw [(hf 34 (by decide)).1]; exact h34) (fun y hy => by rw [(hf 22 (by decide)).2.2.1]; exact h22 y hy) b2 (by rw [List.length_append, List.length_append, List.length_drop]; show _ + 1 + _ + _ < 199; omega)
      refine ⟨τ3, ?_, ?_, hf.tr c3⟩
      · rw [step, if_pos q, a1, Option.bind_some, b1, c1]
      · rw [sCar, if_pos q, ← List.append_assoc, app1]
        rw [List.drop_zero] at c2
        exact c2
    · obtain ⟨τ3, c1, c2, c3⟩ := ih (x + 1) n τ l (by omega) (by omega) hM h34 h22 hL (by omega)
      refine ⟨τ3, ?_, ?_, c3⟩
      · rw [step, if_neg q, c1]
      · rw [sCar, if_neg q, List.nil_append]
        exact c2
/-- the text of a typed command -/
theorem fm_came_l {m : Nat} {r : List Nat} {K : mS → Option mS} (hK : K = fm_lines_197) (hm : m < 80) (hr : r.length ≤ 30) : ∀ (d k n : Nat) (τ : mS) (l : List Nat), k + d = r.length → d < n → τ.1 34 = nI m → τ.2.2.1 27 m = nI r.length → (∀ k, k < r.length → τ.2.2.1 26 (30 * m + k) = nI (r.getD k 0)) → MLn τ l → l.length + d < 200 → ∃ τ', fm_lines_45 n τ (nI k) = K τ' ∧ MLn τ' (l ++ r.drop k) ∧ mFr [51, 52] τ τ' := by
  intro d
  induction d with
  | zero =>
    intro k n τ l hk hd h34 h27 h26 hL hl
    obtain ⟨n, rfl⟩ : ∃ j, n = j + 1 := ⟨n - 1, by omega⟩
    refine ⟨τ, ?_, by rw [List.drop_of_length_le (by omega), List.append_nil]; exact hL, mFr.rf _ _⟩
    rw [hK, show fm_lines_45 (n + 1) τ (nI k) = if (τ.1 34) < 0 ∨ 80 ≤ (τ.1 34).toNatClampNeg then none else if (τ.2.2.1 27 (τ.1 34).toNatClampNeg) ≤ nI k then fm_lines_197 τ else _ from rfl]
    rw [h34, if_neg (iN0 hm (by omega)), jCl (by omega), h27]
    exact if_pos ((jLe (by omega) (by omega)).mpr (by omega))
  | succ d ih =>
    intro k n τ l hk hd h34 h27 h26 hL hl
    obtain ⟨n, rfl⟩ : ∃ j, n = j + 1 := ⟨n - 1, by omega⟩
    have hkr : k < r.length := by omega
    obtain ⟨τ1, a1, a2, a3⟩ := fm_adds_s (c := r.getD k 0) hL (by omega)
    obtain ⟨τ2, b1, b2, b3⟩ := ih (k + 1) n τ1 (l ++ [r.getD k 0]) (by omega) (by omega) (by rw [(a3 34 (by decide)).1]; exact h34) (by rw [(a3 27 (by decide)).2.2.1]; exact h27) (fun y hy => by rw [(a3 26 (by decide)).2.2.1]; exact h26 y hy) a2 (by rw [List.length_append]; show _ + 1 + d < 200; omega)
    refine ⟨τ2, ?_, ?_, a3.tr b3⟩
    · rw [show fm_lines_45 (n + 1) τ (nI k) = if (τ.1 34) < 0 ∨ 80 ≤ (τ.1 34).toNatClampNeg then none else if (τ.2.2.1 27 (τ.1 34).toNatClampNeg) ≤ nI k then fm_lines_197 τ else if (((30 : Int32) * (τ.1 34)) + nI k) < 0 ∨ 2400 ≤ (((30 : Int32) * (τ.1 34)) + nI k).toNatClampNeg then none else (fm_adds τ (τ.2.2.1 26 (((30 : Int32) * (τ.1 34)) + nI k).toNatClampNeg)).bind fun r_1 => (fm_lines_45 n) r_1 (nI k + nI 1) from rfl]
      rw [h34, if_neg (iN0 hm (by omega)), jCl (show m < 100000 by omega), h27, if_neg (fun z => by have := (jLe (by omega) (by omega)).mp z; omega), show (30 : Int32) = nI 30 from rfl, jMul, jAdd, jAdd, if_neg (iN0 (show 30 * m + k < 2400 by omega) (by omega)), jCl (by omega), h26 k hkr, a1, Option.bind_some, b1]
    · have e : r.drop k = r.getD k 0 :: r.drop (k + 1) := by
        rw [gD hkr]
        exact List.drop_eq_getElem_cons hkr
      rw [e, app1]
      exact b2
/-- a number's digits, and on -/
theorem fm_digits {m k : Nat} (hm : m < 80) (hk : k < 100) (hL : MLn τ l) (hl : l.length < 190) (h34 : τ.1 34 = nI m) (h29 : τ.2.2.1 29 m = nI k) : ∃ τ', fm_lines_139 τ = fm_lines_197 τ' ∧ MLn τ' (l ++ 32 :: sDg k) ∧ mFr [51, 52] τ τ' := by
  obtain ⟨d1, d2⟩ := dv10 k hk
  have last : ∀ τ l, MLn τ l → l.length < 195 → τ.1 34 = nI m → τ.2.2.1 29 m = nI k → ∃ τ', fm_lines_178 τ = fm_lines_197 τ' ∧ MLn τ' (l ++ [48 + k % 10]) ∧ mFr [51, 52] τ τ' := by
    intro τ l hL hl h34 h29
    obtain ⟨τ1, a1, a2, a3⟩ := fm_adds_s (c := 48 + k % 10) hL (by omega)
    refine ⟨τ1, ?_, a2, a3⟩
    unfold fm_lines_178
    rw [h34, if_neg (iN0 hm (by omega)), jCl (by omega), h29, if_neg (show ¬ (10 : Int32) = 0 by decide)]
    show (fm_adds τ (nI 48 + (nI k - nI k / nI 10 * nI 10))).bind _ = _
    rw [d1, a1, Option.bind_some]
  obtain ⟨τ1, a1, a2, a3⟩ := fm_adds_s (c := 32) hL (by omega)
  have e34 : τ1.1 34 = nI m := by rw [(a3 34 (by decide)).1]; exact h34
  have e29 : τ1.2.2.1 29 m = nI k := by rw [(a3 29 (by decide)).2.2.1]; exact h29
  have len : (l ++ [32]).length = l.length + 1 := List.length_append
  unfold fm_lines_139
  rw [show (32 : Int32) = nI 32 from rfl, a1, Option.bind_some, e34, if_neg (iN0 hm (by omega)), jCl (by omega), e29]
  by_cases q : k < 10
  · obtain ⟨τ2, b1, b2, b3⟩ := last τ1 _ a2 (by omega) e34 e29
    refine ⟨τ2, ?_, ?_, a3.tr b3⟩
    · rw [if_pos (show nI k ≤ (9 : Int32) from (jLe (b := 9) (by omega) (by omega)).mpr (by omega)), b1]
    · rw [app1, show sDg k = [48 + k % 10] by unfold sDg; rw [if_pos q, Nat.mod_eq_of_lt q]]
      exact b2
  · obtain ⟨τ2, b1, b2, b3⟩ := fm_adds_s (c := 48 + k / 10) a2 (by omega)
    obtain ⟨τ3, c1, c2, c3⟩ := last τ2 _ b2 (by rw [List.length_append, len]; show _ + 1 < 195; omega) (by rw [(b3 34 (by decide)).1]; exact e34) (by rw [(b3 29 (by decide)).2.2.1]; exact e29)
    refine ⟨τ3, ?_, ?_, (a3.tr b3).tr c3⟩
    · rw [if_neg (show ¬ nI k ≤ (9 : Int32) from fun z => by have := (jLe (b := 9) (by omega) (by omega)).mp z; omega), if_neg (show ¬ (10 : Int32) = 0 by decide)]
      refine (if_neg (iN1 hm (by omega))).trans ?_
      show (fm_adds τ1 (nI 48 + nI k / nI 10)).bind _ = _
      rw [d2, b1, Option.bind_some, c1]
    · rw [app1, show sDg k = [48 + k / 10] ++ [48 + k % 10] by unfold sDg; rw [if_neg q]; rfl, ← List.append_assoc]
      exact c2
end B21
