/-! The parts of what is typed: both sides. -/
theorem mI_at (σ : mS) (k : Nat) (v : Int32) : (mI σ k v).1 k = v := by
  show upd σ.1 k v k = v
  unfold upd
  exact if_pos rfl
theorem mI_ne (σ : mS) {k j : Nat} (v : Int32) (h : j ≠ k) : (mI σ k v).1 j = σ.1 j := by
  show upd σ.1 k v j = _
  unfold upd
  exact if_neg h
def cutF (l : List Nat) : Nat → Nat → Nat → List (Nat × Nat)
  | 0, b, k => [(b, k)]
  | d + 1, b, k => if l.getD k 0 = 32 then (b, k) :: cutF l d (k + 1) (k + 1) else cutF l d b (k + 1)
def sCuts (l : List Nat) : List (Nat × Nat) := cutF l l.length 0 0
theorem cutF_in {l : List Nat} : ∀ (d b k : Nat), k + d = l.length → b ≤ k → ∀ p ∈ cutF l d b k, p.1 ≤ p.2 ∧ p.2 ≤ l.length := by
  intro d
  induction d with
  | zero =>
    intro b k hk hb p hp
    have hp : p ∈ [(b, k)] := hp
    rw [List.mem_singleton] at hp
    subst hp
    exact ⟨hb, by show k ≤ _; omega⟩
  | succ d ih =>
    intro b k hk hb p hp
    unfold cutF at hp
    by_cases q : l.getD k 0 = 32
    · rw [if_pos q] at hp
      rcases List.mem_cons.mp hp with rfl | hp
      · exact ⟨hb, by show k ≤ _; omega⟩
      · exact ih _ _ (by omega) (Nat.le_refl _) p hp
    · rw [if_neg q] at hp
      exact ih _ _ (by omega) (by omega) p hp
theorem sCuts_in {l : List Nat} {p : Nat × Nat} (h : p ∈ sCuts l) : p.1 ≤ p.2 ∧ p.2 ≤ l.length := cutF_in _ _ _ (by omega) (Nat.le_refl _) p h
/-- the parts that the reference has set down -/
def MRc (τ : mS) (a : List (Nat × Nat)) : Prop := τ.1 42 = nI a.length ∧ ∀ j p, a[j]? = some p → τ.2.2.1 40 j = nI p.1 ∧ τ.2.2.1 41 j = nI p.2
theorem MRc.add {τ : mS} {a : List (Nat × Nat)} (h : MRc τ a) (b k : Nat) : MRc (mI (mA (mA τ 40 a.length (nI b)) 41 a.length (nI k)) 42 (nI (a.length + 1))) (a ++ [(b, k)]) := by
  refine ⟨?_, fun j p hj => ?_⟩
  · rw [List.length_append]
    rw [mI_at]
    rfl
  · rw [List.getElem?_append] at hj
    have g1 : (mI (mA (mA τ 40 a.length (nI b)) 41 a.length (nI k)) 42 (nI (a.length + 1))).2.2.1 40 j = if j = a.length then nI b else τ.2.2.1 40 j := by
      show (mA (mA τ 40 a.length (nI b)) 41 a.length (nI k)).2.2.1 40 j = _
      rw [mA_ne _ _ _ (by decide), mA_at]
    have g2 : (mI (mA (mA τ 40 a.length (nI b)) 41 a.length (nI k)) 42 (nI (a.length + 1))).2.2.1 41 j = if j = a.length then nI k else τ.2.2.1 41 j := by
      show (mA (mA τ 40 a.length (nI b)) 41 a.length (nI k)).2.2.1 41 j = _
      rw [mA_at, mA_ne _ _ _ (by decide)]
    rw [g1, g2]
    by_cases q : j < a.length
    · rw [if_pos q] at hj
      rw [if_neg (by omega), if_neg (by omega)]
      exact h.2 j p hj
    · rw [if_neg q] at hj
      have : j - a.length = 0 := by
        rcases Nat.eq_zero_or_pos (j - a.length) with h | h
        · exact h
        · rw [List.getElem?_eq_none (by simp; omega)] at hj
          cases hj
      rw [this] at hj
      have hj := Option.some.inj hj
      subst hj
      rw [if_pos (by omega), if_pos (by omega)]
      exact ⟨rfl, rfl⟩
theorem MTx.fr {ks : List Nat} {τ τ' : mS} {l : List Nat} (h : MTx τ l) (hf : mFr ks τ τ') (h1 : 1 ∉ ks) (h2 : 2 ∉ ks) : MTx τ' l := by
  unfold MTx
  rw [(hf 2 h2).1, (hf 1 h1).2.2.1]
  exact h
section T17
variable {l : List Nat}
theorem fm_parts_l (hl : isTx l) : ∀ (d b k f : Nat) (a : List (Nat × Nat)) (τ : mS), k + d = l.length → a.length ≤ k → d + 1 < f → MTx τ l → MRc τ a → ∃ τ', fm_parts_9 f τ (nI b) (nI k) = some τ' ∧ MRc τ' (a ++ cutF l d b k) ∧ mFr [40, 41, 42] τ τ' := by
  have h30 := hl.1
  have add : ∀ (b k : Nat) (a : List (Nat × Nat)) (τ : mS) (K : mS → Int32 → Int32 → Option mS), k ≤ l.length → a.length ≤ k → MRc τ a → ∃ τ', fm_parts_39 K τ (nI b) (nI k) = K τ' (nI (k + 1)) (nI (k + 1)) ∧ MRc τ' (a ++ [(b, k)]) ∧ mFr [40, 41, 42] τ τ' := by
    intro b k a τ K hk ha hR
    have x1 : ¬ 31 ≤ a.length := by omega
    have c1 : (nI a.length).toNatClampNeg = a.length := jCl (by omega)
    have e1 : (mA τ 40 a.length (nI b)).1 42 = nI a.length := hR.1
    have e2 : (mA (mA τ 40 a.length (nI b)) 41 a.length (nI k)).1 42 = nI a.length := hR.1
    refine ⟨_, ?_, hR.add b k, ?_⟩
    · unfold fm_parts_39 fm_parts_73
      simp (disch := omega) only [hR.1, n0, n1, jLt, x1, c1, e1, e2, Nat.not_lt_zero, false_or, if_false, jAdd]
    · exact ((mFr.A (by decide)).tr (mFr.A (by decide))).tr (mFr.I (by decide))
  intro d
  induction d with
  | zero =>
    intro b k f a τ hk ha hf hX hR
    obtain ⟨f, rfl⟩ : ∃ k, f = k + 1 := ⟨f - 1, by omega⟩
    obtain ⟨f, rfl⟩ : ∃ k, f = k + 1 := ⟨f - 1, by omega⟩
    obtain ⟨τ', e, h1, h2⟩ := add b k a τ (fm_parts_9 (f + 1)) (by omega) ha hR
    have hX' := hX.fr h2 (by decide) (by decide)
    refine ⟨τ', ?_, h1, h2⟩
    rw [fm_parts_9, hX.1, if_neg (by rw [jLt (by omega) (by omega)]; omega), if_pos (by rw [jLe (by omega) (by omega)]; omega), e, fm_parts_9, hX'.1, if_pos (by rw [jLt (by omega) (by omega)]; omega)]
  | succ d ih =>
    intro b k f a τ hk ha hf hX hR
    obtain ⟨f, rfl⟩ : ∃ k, f = k + 1 := ⟨f - 1, by omega⟩
    have x2 : ¬ 30 ≤ k := by omega
    have c1 : (nI k).toNatClampNeg = k := jCl (by omega)
    have e1 := hX.2 k (by omega)
    have g := getD_tx hl (show k < l.length by omega)
    rw [fm_parts_9, hX.1, if_neg (by rw [jLt (by omega) (by omega)]; omega), if_neg (by rw [jLe (by omega) (by omega)]; omega)]
    simp (disch := omega) only [n0, show ((32 : Int32) = nI 32) from rfl, jLt, jEq, x2, c1, e1, Nat.not_lt_zero, false_or, if_false]
    unfold cutF
    by_cases q : l.getD k 0 = 32
    · rw [if_pos q, if_pos q]
      obtain ⟨τ', e, h1, h2⟩ := add b k a τ (fm_parts_9 f) (by omega) ha hR
      have hX' := hX.fr h2 (by decide) (by decide)
      obtain ⟨τ2, e2, h3, h4⟩ := ih (k + 1) (k + 1) f _ τ' (by omega) (by rw [List.length_append]; show a.length + 1 ≤ _; omega) (by omega) hX' h1
      refine ⟨τ2, by rw [e, e2], ?_, h2.tr h4⟩
      rw [List.append_assoc] at h3
      exact h3
    · rw [if_neg q, if_neg q]
      unfold fm_parts_73
      rw [n1, jAdd]
      exact ih b (k + 1) f a τ (by omega) (by omega) (by omega) hX hR
theorem fm_parts_s {τ : mS} (hl : isTx l) (hX : MTx τ l) : ∃ τ', fm_parts τ = some τ' ∧ MRc τ' (sCuts l) ∧ mFr [40, 41, 42] τ τ' := by
  have hf : mFr [40, 41, 42] τ (mI τ 42 (nI 0)) := mFr.I (by decide)
  obtain ⟨τ', e, h1, h2⟩ := fm_parts_l hl l.length 0 0 3000 [] (mI τ 42 (nI 0)) (by omega) (Nat.le_refl _) (by have := hl.1; omega) (hX.fr hf (by decide) (by decide)) ⟨mI_at _ _ _, fun j p h => by cases h⟩
  exact ⟨τ', e, h1, hf.tr h2⟩
/-- the parts that the class has set down -/
def CRc (σ : cS) (a : List (Nat × Nat)) : Prop := ∀ j p, a[j]? = some p → cI σ 12 0 j = nI p.1 ∧ cI σ 12 1 j = nI p.2
theorem CRc.add {σ : cS} {a : List (Nat × Nat)} (h : CRc σ a) (b k : Nat) : CRc (uI (uI σ 12 0 a.length (nI b)) 12 1 a.length (nI k)) (a ++ [(b, k)]) := by
  intro j p hj
  rw [List.getElem?_append] at hj
  rw [uI_ne _ (k' := 12) (i' := 0) _ _ (by decide), uI_at, uI_at, uI_ne _ (k' := 12) (i' := 1) _ _ (by decide)]
  by_cases q : j < a.length
  · rw [if_pos q] at hj
    rw [if_neg (by omega), if_neg (by omega)]
    exact h j p hj
  · rw [if_neg q] at hj
    have : j - a.length = 0 := by
      rcases Nat.eq_zero_or_pos (j - a.length) with h | h
      · exact h
      · rw [List.getElem?_eq_none (by simp; omega)] at hj
        cases hj
    rw [this] at hj
    have hj := Option.some.inj hj
    subst hj
    rw [if_pos (by omega), if_pos (by omega)]
    exact ⟨rfl, rfl⟩
theorem CTx.fr {ps : List (Nat × Nat)} {σ σ' : cS} (h : CTx σ l) (hl : cLbs σ) (hf : cFr ps σ σ') (h1 : (1, 0) ∉ ps) (h2 : (14, 0) ∉ ps) : CTx σ' l := by
  have a1 := ((hf.2 1 0 (hl 1 (by decide))).2.2 h1).1
  have a2 := ((hf.2 14 0 (Nat.lt_of_lt_of_le (by decide) (hl 14 (by decide)))).2.2 h2).1
  unfold CTx
  rw [a1, a2]
  exact h
def cutOk (a : List (Nat × Nat)) : Bool := a.all fun p => decide (p.1 < p.2)
def sDiv (a : List (Nat × Nat)) : Nat := if cutOk a = true ∧ a.length ≤ 4 then a.length else 0
theorem cut_ne (l : List Nat) : ∀ d b k, cutF l d b k ≠ [] := by
  intro d
  induction d with
  | zero => intro b k h; cases h
  | succ d ih =>
    intro b k
    unfold cutF
    split
    · exact List.cons_ne_nil _ _
    · exact ih b (k + 1)
theorem fc_divide_l (hl : isTx l) : ∀ (d b k f : Nat) (a : List (Nat × Nat)) (σ : cS), k + d = l.length → b ≤ k → a.length ≤ 4 → d + 1 < f → cutOk a = true → CTx σ l → cLbs σ → CRc σ a → ∃ σ', fc_X7_divide_6 f σ (nI a.length) (nI b) (nI k) = some (nI (sDiv (a ++ cutF l d b k)), σ') ∧ (sDiv (a ++ cutF l d b k) ≠ 0 → CRc σ' (a ++ cutF l d b k)) ∧ cFr [(12, 0), (12, 1)] σ σ' ∧ cn σ' = cn σ := by
  have h30 := hl.1
  have add : ∀ (b k : Nat) (a : List (Nat × Nat)) (σ : cS) (K : cS → Int32 → Int32 → Int32 → Option (Int32 × cS)), k ≤ l.length → b ≤ k → a.length ≤ 4 → CRc σ a → (fc_X7_divide_36 K σ (nI a.length) (nI b) (nI k) = some (nI 0, σ) ∧ (b = k ∨ a.length = 4)) ∨ (b < k ∧ a.length < 4 ∧ ∃ σ', fc_X7_divide_36 K σ (nI a.length) (nI b) (nI k) = K σ' (nI (a.length + 1)) (nI (k + 1)) (nI (k + 1)) ∧ CRc σ' (a ++ [(b, k)]) ∧ cFr [(12, 0), (12, 1)] σ σ' ∧ cn σ' = cn σ) := by
    intro b k a σ K hk hb ha hR
    unfold fc_X7_divide_36 fc_X7_divide_46 fc_X7_divide_69
    simp (disch := omega) only [show ((4 : Int32) = nI 4) from rfl, n0, n1, jEq, jLt, jCl, Nat.not_lt_zero, false_or, jAdd]
    by_cases q : k = b
    · rw [if_pos q]
      exact Or.inl ⟨rfl, Or.inl q.symm⟩
    · rw [if_neg q]
      by_cases q2 : a.length = 4
      · rw [if_pos q2]
        exact Or.inl ⟨rfl, Or.inr q2⟩
      · have x1 : ¬ 4 ≤ a.length := by omega
        simp only [if_neg q2, if_neg x1]
        exact Or.inr ⟨by omega, by omega, _, rfl, hR.add b k, (cFr.I (by decide)).tr (cFr.I (by decide)), rfl⟩
  have bad : ∀ (b k : Nat) (a c : List (Nat × Nat)), (b = k ∨ a.length = 4) → sDiv (a ++ (b, k) :: c) = 0 := by
    intro b k a c h
    unfold sDiv
    rw [if_neg]
    rintro ⟨h1, h2⟩
    rcases h with rfl | h
    · unfold cutOk at h1
      rw [List.all_eq_true] at h1
      have := of_decide_eq_true (h1 (b, b) (by simp))
      exact Nat.lt_irrefl _ this
    · rw [List.length_append, List.length_cons] at h2
      omega
  have good : ∀ (b k : Nat) (a : List (Nat × Nat)), b < k → cutOk a = true → cutOk (a ++ [(b, k)]) = true := by
    intro b k a h h1
    unfold cutOk at h1 ⊢
    rw [List.all_append, h1]
    show (true && (decide (b < k) && true)) = true
    rw [decide_eq_true h]
    rfl
  intro d
  induction d with
  | zero =>
    intro b k f a σ hk hb ha hf hg hX hL hR
    obtain ⟨f, rfl⟩ : ∃ k, f = k + 1 := ⟨f - 1, by omega⟩
    obtain ⟨f, rfl⟩ : ∃ k, f = k + 1 := ⟨f - 1, by omega⟩
    rw [fc_X7_divide_6, hX.1, if_neg (by rw [jLt (by omega) (by omega)]; omega), if_pos (by rw [jLe (by omega) (by omega)]; omega)]
    show ∃ σ', _ = some (nI (sDiv (a ++ [(b, k)])), σ') ∧ (sDiv (a ++ [(b, k)]) ≠ 0 → CRc σ' (a ++ [(b, k)])) ∧ _
    rcases add b k a σ (fc_X7_divide_6 (f + 1)) (by omega) hb ha hR with ⟨e, h⟩ | ⟨h1, h2, σ', e, h3, h4, h5⟩
    · rw [bad b k a [] h, e]
      exact ⟨σ, rfl, fun h => absurd rfl h, cFr.rf _ _, rfl⟩
    · have hX' := hX.fr hL h4 (by decide) (by decide)
      have e3 : sDiv (a ++ [(b, k)]) = a.length + 1 := by
        unfold sDiv
        rw [if_pos ⟨good b k a h1 hg, by rw [List.length_append]; show a.length + 1 ≤ 4; omega⟩, List.length_append]
        rfl
      rw [e, e3, fc_X7_divide_6, hX'.1, if_pos (by rw [jLt (by omega) (by omega)]; omega)]
      exact ⟨σ', rfl, fun _ => h3, h4, h5⟩
  | succ d ih =>
    intro b k f a σ hk hb ha hf hg hX hL hR
    obtain ⟨f, rfl⟩ : ∃ k, f = k + 1 := ⟨f - 1, by omega⟩
    have x2 : ¬ 30 ≤ k := by omega
    have c1 : (nI k).toNatClampNeg = k := jCl (by omega)
    have e1 := hX.2 k (by omega)
    have g := getD_tx hl (show k < l.length by omega)
    rw [fc_X7_divide_6, hX.1, if_neg (by rw [jLt (by omega) (by omega)]; omega), if_neg (by rw [jLe (by omega) (by omega)]; omega)]
    simp (disch := omega) only [n0, show ((32 : Int32) = nI 32) from rfl, jLt, jEq, x2, c1, e1, Nat.not_lt_zero, false_or, if_false]
    unfold cutF
    by_cases q : l.getD k 0 = 32
    · rw [if_pos q, if_pos q]
      rcases add b k a σ (fc_X7_divide_6 f) (by omega) hb ha hR with ⟨e, h⟩ | ⟨h1, h2, σ', e, h3, h4, h5⟩
      · rw [bad b k a _ h, e]
        exact ⟨σ, rfl, fun h => absurd rfl h, cFr.rf _ _, rfl⟩
      · have hX' := hX.fr hL h4 (by decide) (by decide)
        have i := ih (k + 1) (k + 1) f (a ++ [(b, k)]) σ' (by omega) (Nat.le_refl _) (by rw [List.length_append]; show a.length + 1 ≤ 4; omega) (by omega) (good b k a h1 hg) hX' (hL.fr h4) h3
        rw [List.length_append, List.append_assoc] at i
        obtain ⟨σ2, e2, h6, h7, h8⟩ := i
        exact ⟨σ2, by rw [e]; exact e2, h6, h4.tr h7, h8.trans h5⟩
    · rw [if_neg q, if_neg q]
      unfold fc_X7_divide_69
      rw [n1, jAdd]
      exact ih b (k + 1) f a σ (by omega) (by omega) ha (by omega) hg hX hL hR
theorem fc_divide_s {σ : cS} (hl : isTx l) (hX : CTx σ l) (hL : cLbs σ) : ∃ σ', fc_X7_divide σ = some (nI (sDiv (sCuts l)), σ') ∧ (sDiv (sCuts l) ≠ 0 → CRc σ' (sCuts l)) ∧ cFr [(12, 0), (12, 1)] σ σ' ∧ cn σ' = cn σ :=
  fc_divide_l hl l.length 0 0 3000 [] σ (by omega) (Nat.le_refl _) (Nat.zero_le _) (by have := hl.1; omega) rfl hX hL (fun j p h => by cases h)
end T17
