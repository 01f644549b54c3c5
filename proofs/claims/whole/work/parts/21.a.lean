/-! The line of play: what it says; the reference's side. -/
/-- a command as the line says it -/
def sSay (w : Wd) (q : Cm) : List Nat := if q.1 = 0 then tN 0 else if q.1 < 12 then sText w q else tN (vT.getD q.1 0) ++ 32 :: sDg (q.2.1.getD 0)
/-- the nouns of what is carried -/
def sCar (w : Wd) (s : St) : Nat → Nat → List Nat
  | 0, _ => []
  | d + 1, x => (if s.pl x = 100 then 32 :: w.word (w.noun x) else []) ++ sCar w s d (x + 1)
def sLn (w : Wd) (t : Tr) (n : Nat) : List Nat := sSay w (t.cm n) ++ 58 :: sCar w (t.st n) w.T 0
/-- the reference's line -/
def MLn (τ : mS) (l : List Nat) : Prop := τ.1 52 = nI l.length ∧ ∀ k, k < l.length → τ.2.2.1 51 k = nI (l.getD k 0)
section A21
variable {g : Gm} {τ τ1 : mS} {w : Wd} {t : Tr} {l m : List Nat} {s : St}
theorem fm_adds_s {c : Nat} (h : MLn τ l) (hl : l.length < 200) : ∃ τ', fm_adds τ (nI c) = some τ' ∧ MLn τ' (l ++ [c]) ∧ mFr [51, 52] τ τ' := by
  obtain ⟨h1, h2⟩ := h
  refine ⟨mI (mA τ 51 l.length (nI c)) 52 (nI (l.length + 1)), ?_, ⟨?_, fun k hk => ?_⟩, (mFr.A (List.mem_cons_self)).tr (mFr.I (List.mem_cons_of_mem _ List.mem_cons_self))⟩
  · unfold fm_adds
    rw [h1, if_neg (iN0 hl (by omega)), jCl (by omega)]
    show some (mI (mA τ 51 l.length (nI c)) 52 ((τ.1 52) + 1)) = _
    rw [h1, show nI l.length + 1 = nI (l.length + 1) from jAdd _ 1]
  · rw [mI_at, List.length_append]
    rfl
  · rw [List.length_append] at hk
    have hk : k < l.length + 1 := hk
    show (mA τ 51 l.length (nI c)).2.2.1 51 k = _
    rw [mA_at, getD_app2]
    by_cases q : k = l.length
    · rw [if_pos q, if_neg (by omega), q, Nat.sub_self]
      rfl
    · rw [if_neg q, if_pos (by omega)]
      exact h2 k (by omega)
theorem MLn.at_ {k : Nat} (h : MLn τ l) (hk : k < l.length) : τ.2.2.1 51 k = nI (l.getD k 0) := h.2 k hk
theorem app1 (l m : List Nat) (c : Nat) : l ++ c :: m = (l ++ [c]) ++ m := by rw [List.append_assoc]; rfl
theorem fm_addsAll_s {a b c d e : Nat} {m : List Nat} (h : MLn τ l) (hl : l.length < 190) (hm : m = [a, b, c] ++ (if d = 0 then [] else [d]) ++ (if e = 0 then [] else [e])) (hd : d < 1000) (he : e < 1000) : ∃ τ', fm_addsAll τ (nI a) (nI b) (nI c) (nI d) (nI e) = some τ' ∧ MLn τ' (l ++ m) ∧ mFr [51, 52] τ τ' := by
  obtain ⟨τ1, a1, a2, a3⟩ := fm_adds_s (c := a) h (by omega)
  obtain ⟨τ2, b1, b2, b3⟩ := fm_adds_s (c := b) a2 (by rw [List.length_append]; show _ + 1 < 200; omega)
  obtain ⟨τ3, c1, c2, c3⟩ := fm_adds_s (c := c) b2 (by rw [List.length_append, List.length_append]; show _ + 1 + 1 < 200; omega)
  have hf := (a3.tr b3).tr c3
  rw [List.append_assoc, List.append_assoc] at c2
  have c2 : MLn τ3 (l ++ [a, b, c]) := c2
  have l3 : (l ++ [a, b, c]).length = l.length + 3 := List.length_append
  have last : ∀ τ3 l3, MLn τ3 l3 → l3.length < 200 → ∃ τ', fm_addsAll_26 τ3 (nI e) = some τ' ∧ MLn τ' (l3 ++ (if e = 0 then [] else [e])) ∧ mFr [51, 52] τ3 τ' := by
    intro τ3 l3 h3 hl3
    unfold fm_addsAll_26 fm_addsAll_37
    by_cases q : e = 0
    · refine ⟨τ3, ?_, ?_, mFr.rf _ _⟩
      · exact if_pos ((jLe0 (by omega)).mpr q)
      · rw [if_pos q, List.append_nil]
        exact h3
    · obtain ⟨τ4, d1, d2, d3⟩ := fm_adds_s (c := e) h3 hl3
      refine ⟨τ4, ?_, by rw [if_neg q]; exact d2, d3⟩
      rw [if_neg (show ¬ nI e ≤ 0 from fun z => q ((jLe0 (by omega)).mp z)), d1, Option.bind_some]
  unfold fm_addsAll
  rw [a1, Option.bind_some, b1, Option.bind_some, c1, Option.bind_some]
  by_cases q : d = 0
  · obtain ⟨τ4, d1, d2, d3⟩ := last τ3 _ c2 (by omega)
    refine ⟨τ4, ?_, ?_, hf.tr d3⟩
    · rw [if_pos (show nI d ≤ 0 from (jLe0 (by omega)).mpr q), d1]
    · rw [hm, if_pos q, List.append_nil, ← List.append_assoc]
      exact d2
  · obtain ⟨τ4, d1, d2, d3⟩ := fm_adds_s (c := d) c2 (by omega)
    obtain ⟨τ5, e1, e2, e3⟩ := last τ4 _ d2 (by rw [List.length_append, l3]; show _ + 1 < 200; omega)
    refine ⟨τ5, ?_, ?_, (hf.tr d3).tr e3⟩
    · rw [if_neg (show ¬ nI d ≤ 0 from fun z => q ((jLe0 (by omega)).mp z)), d1, Option.bind_some, e1]
    · rw [hm, if_neg q, ← List.append_assoc, ← List.append_assoc]
      exact e2
theorem fm_length_l (hw : Wd.ok w) (hM : MWd τ w) {x : Nat} (hx : x < w.W) : ∀ (d k n : Nat), k + d = (w.word x).length → d < n → fm_lengthOf_2 n τ (nI x) (nI k) = some (nI (w.word x).length, τ) := by
  obtain ⟨l1, l2, l3⟩ := hw.2.1 x hx
  have hW := hw.1.1
  intro d
  induction d with
  | zero =>
    intro k n hk hn
    obtain ⟨n, rfl⟩ : ∃ j, n = j + 1 := ⟨n - 1, by omega⟩
    have e : k = (w.word x).length := by omega
    rw [show fm_lengthOf_2 (n + 1) τ (nI x) (nI k) = if (8 : Int32) ≤ nI k then some (nI k, τ) else if (((8 : Int32) * nI x) + nI k) < 0 ∨ 320 ≤ (((8 : Int32) * nI x) + nI k).toNatClampNeg then none else if (τ.2.2.1 3 (((8 : Int32) * nI x) + nI k).toNatClampNeg) = 0 then some (nI k, τ) else _ from rfl]
    by_cases q : 8 ≤ k
    · rw [if_pos (show (8 : Int32) ≤ nI k from (jLe (a := 8) (by omega) (by omega)).mpr q), e]
    · rw [if_neg (show ¬ (8 : Int32) ≤ nI k from fun z => q ((jLe (a := 8) (by omega) (by omega)).mp z)), show (8 : Int32) = nI 8 from rfl, jMul, jAdd, if_neg (iN0 (show 8 * x + k < 320 by omega) (by omega)), jCl (by omega), hM.2.1 x hx k (by omega), if_pos (show nI ((w.word x).getD k 0) = 0 by rw [List.getD_eq_getElem?_getD, List.getElem?_eq_none (by omega)]; rfl), e]
  | succ d ih =>
    intro k n hk hn
    obtain ⟨n, rfl⟩ : ∃ j, n = j + 1 := ⟨n - 1, by omega⟩
    rw [show fm_lengthOf_2 (n + 1) τ (nI x) (nI k) = if (8 : Int32) ≤ nI k then some (nI k, τ) else if (((8 : Int32) * nI x) + nI k) < 0 ∨ 320 ≤ (((8 : Int32) * nI x) + nI k).toNatClampNeg then none else if (τ.2.2.1 3 (((8 : Int32) * nI x) + nI k).toNatClampNeg) = 0 then some (nI k, τ) else (fm_lengthOf_2 n) τ (nI x) (nI k + nI 1) from rfl]
    have hc : 97 ≤ (w.word x).getD k 0 ∧ (w.word x).getD k 0 ≤ 122 := by
      rw [gD (show k < (w.word x).length by omega)]
      exact l3 _ (List.getElem_mem _)
    rw [if_neg (show ¬ (8 : Int32) ≤ nI k from fun z => by have := (jLe (a := 8) (by omega) (by omega)).mp z; omega), show (8 : Int32) = nI 8 from rfl, jMul, jAdd, if_neg (iN0 (show 8 * x + k < 320 by omega) (by omega)), jCl (by omega), hM.2.1 x hx k (by omega), if_neg (fun z => by have := (jEq (b := 0) (by omega) (by omega)).mp z; omega), jAdd]
    exact ih (k + 1) n (by omega) (by omega)
theorem fm_length_s (hw : Wd.ok w) (hM : MWd τ w) {x : Nat} (hx : x < w.W) : fm_lengthOf τ (nI x) = some (nI (w.word x).length, τ) := by
  have := hw.2.1 x hx
  unfold fm_lengthOf
  exact fm_length_l hw hM hx (w.word x).length 0 3000 (by omega) (by omega)
end A21
