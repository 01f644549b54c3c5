/-! The word of a part: both sides. -/
def eqF (u v : Nat → Nat) (k d : Nat) : Bool := (List.range' k d).all fun j => decide (u j = v j)
theorem eqF_s (u v : Nat → Nat) (k d : Nat) : eqF u v k (d + 1) = (decide (u k = v k) && eqF u v (k + 1) d) := by
  unfold eqF
  rw [List.range'_succ, List.all_cons]
theorem eqF_iff {u v : Nat → Nat} {k d : Nat} : eqF u v k d = true ↔ ∀ j, k ≤ j → j < k + d → u j = v j := by
  unfold eqF
  rw [List.all_eq_true]
  constructor
  · intro h j h1 h2
    exact of_decide_eq_true (h j (List.mem_range'_1.mpr ⟨h1, h2⟩))
  · intro h j hj
    rw [List.mem_range'_1] at hj
    exact decide_eq_true (h j hj.1 hj.2)
/-- two rows of at most 8 that hold no 0 -/
theorem row_ext {l m : List Nat} (hl : l.length ≤ 8) (hm : m.length ≤ 8) (nl : ∀ c ∈ l, c ≠ 0) (nm : ∀ c ∈ m, c ≠ 0) : eqF (fun j => l.getD j 0) (fun j => m.getD j 0) 0 8 = true ↔ l = m := by
  rw [eqF_iff]
  constructor
  · intro h
    have g : ∀ {a : List Nat} {k : Nat}, a.length ≤ k → a.getD k 0 = 0 := fun {a k} h => by
      rw [List.getD_eq_getElem?_getD, List.getElem?_eq_none h]; rfl
    have g2 : ∀ {a : List Nat} {k : Nat}, (∀ c ∈ a, c ≠ 0) → k < a.length → a.getD k 0 ≠ 0 := fun {a k} n h => by
      rw [gD h]; exact n _ (List.getElem_mem h)
    have e : l.length = m.length := by
      rcases Nat.lt_trichotomy l.length m.length with q | q | q
      · have := h l.length (Nat.zero_le _) (by omega)
        rw [g (Nat.le_refl _)] at this
        exact absurd this.symm (g2 nm q)
      · exact q
      · have := h m.length (Nat.zero_le _) (by omega)
        rw [g (a := m) (Nat.le_refl _)] at this
        exact absurd this (g2 nl q)
    refine List.ext_getElem e fun k h1 h2 => ?_
    have := h k (Nat.zero_le _) (by omega)
    rw [gD h1, gD h2] at this
    exact this
  · intro h j _ _
    rw [h]
def sWord (w : Wd) (m : List Nat) : Option Nat := (List.range' 0 w.W).find? fun x => decide (w.word x = m)
theorem sWord_lt {w : Wd} {m : List Nat} {x : Nat} (h : sWord w m = some x) : x < w.W ∧ w.word x = m := by
  have h1 := List.find?_some h
  have h2 := List.mem_of_find?_eq_some h
  rw [List.mem_range'_1] at h2
  exact ⟨by omega, of_decide_eq_true h1⟩
theorem word_lb {w : Wd} (hw : Wd.ok w) {x : Nat} (hx : x < w.W) : isLb (w.word x) ∧ w.word x ≠ [] := by
  obtain ⟨h1, h2, h3⟩ := hw.2.1 x hx
  exact ⟨⟨h2, h3⟩, fun h => by rw [h] at h1; cases h1⟩
theorem sWord_of {w : Wd} (hw : Wd.ok w) {x : Nat} (hx : x < w.W) : sWord w (w.word x) = some x := by
  have h : (sWord w (w.word x)).isSome := by
    unfold sWord
    rw [List.find?_isSome]
    exact ⟨x, List.mem_range'_1.mpr ⟨by omega, by omega⟩, decide_eq_true rfl⟩
  obtain ⟨y, hy⟩ := Option.isSome_iff_exists.mp h
  obtain ⟨h1, h2⟩ := sWord_lt hy
  rw [hy, hw.2.2.1 y x h1 hx h2]
section SV
variable {σ : cS} {τ : mS} {w : Wd} {l : List Nat}
theorem fc_wordOf_l (hw : Wd.ok w) (hW : CWd σ w) {m : List Nat} (hm : ∀ c ∈ m, c = 32 ∨ (97 ≤ c ∧ c ≤ 122)) : ∀ (d x f : Nat), x + d = w.W → d < f → fc_X10_wordOf_2 f σ (sP8 m) (nI x) = some (oI ((List.range' x d).find? fun x => decide (w.word x = m)), σ) := by
  have hT : w.W ≤ 40 := hw.1.1
  have eT := hW.1.1
  intro d
  induction d with
  | zero =>
    intro x n hx hn
    obtain ⟨n, rfl⟩ : ∃ k, n = k + 1 := ⟨n - 1, by omega⟩
    have x1 : w.W ≤ x := by omega
    rw [fc_X10_wordOf_2]
    simp (disch := omega) only [eT, jLe, x1, if_true]
    rfl
  | succ d ih =>
    intro x n hx hn
    obtain ⟨n, rfl⟩ : ∃ k, n = k + 1 := ⟨n - 1, by omega⟩
    have x1 : ¬ w.W ≤ x := by omega
    have x2 : ¬ 40 ≤ x := by omega
    have c1 : (nI x).toNatClampNeg = x := jCl (by omega)
    have e1 := hW.2.1 x (by omega)
    obtain ⟨b1, b2⟩ := word_lb hw (show x < w.W by omega)
    have g := sP8_eq b1 b2 hm
    rw [fc_X10_wordOf_2, List.range'_succ]
    simp (disch := omega) only [n0, n1, eT, jLe, jLt, x1, x2, c1, e1, Nat.not_lt_zero, false_or, if_false, jAdd]
    simp only [← n0, lg0, g]
    rw [ih (x + 1) n (by omega) (by omega)]
    by_cases q : w.word x = m
    · rw [if_pos q, List.find?_cons_of_pos (by simp [q])]
      rfl
    · rw [if_neg q, List.find?_cons_of_neg (by simp [q])]
theorem fc_wordOf_s (hw : Wd.ok w) (hW : CWd σ w) {m : List Nat} (hm : ∀ c ∈ m, c = 32 ∨ (97 ≤ c ∧ c ≤ 122)) : fc_X10_wordOf σ (sP8 m) = some (oI (sWord w m), σ) :=
  fc_wordOf_l hw hW hm w.W 0 3000 (by omega) (by have := hw.1.1; omega)
theorem fm_wordAt_i (hw : Wd.ok w) (hW : MWd τ w) (hl : isTx l) (hX : MTx τ l) {i e x : Nat} {F : Int32} {K : mS → Int32 → Int32 → Int32 → Int32 → Option (Int32 × mS)} (hi : i ≤ e) (he : e ≤ l.length) (hx : x < w.W) : ∀ (d k : Nat) (b : Bool) (f : Nat), k + d = 8 → d < f → fm_wordAt_37 K f τ (nI i) (nI e) F (nI x) (bI b) (nI k) = fm_wordAt_99 K τ (nI i) (nI e) F (nI x) (bI (b && eqF (fun j => (w.word x).getD j 0) (fun j => (sSeg l i (e - i)).getD j 0) k d)) := by
  have hT : w.W ≤ 40 := hw.1.1
  have h30 := hl.1
  intro d
  induction d with
  | zero =>
    intro k b f hk hf
    obtain ⟨f, rfl⟩ : ∃ k, f = k + 1 := ⟨f - 1, by omega⟩
    obtain rfl : k = 8 := by omega
    rw [fm_wordAt_37, if_pos (by decide)]
    show _ = fm_wordAt_99 K τ _ _ F _ (bI (b && true))
    rw [Bool.and_true]
  | succ d ih =>
    intro k b f hk hf
    obtain ⟨f, rfl⟩ : ∃ k, f = k + 1 := ⟨f - 1, by omega⟩
    have x1 : ¬ 8 ≤ k := by omega
    have x2 : ¬ 320 ≤ 8 * x + k := by omega
    have c1 : (nI (8 * x + k)).toNatClampNeg = 8 * x + k := jCl (by omega)
    have e1 := hW.2.1 x hx k (by omega)
    cases b with
    | false =>
      rw [fm_wordAt_37, if_neg (by rw [show ((8 : Int32) = nI 8) from rfl, jLe (by omega) (by omega)]; omega), if_pos (show bI false = 0 from rfl), Bool.false_and]
    | true =>
      have ge := sSeg_get (l := l) (i := i) (d := e - i) (k := k) (by omega)
      have hc : (w.word x).getD k 0 < 1000 := by
        by_cases q : k < (w.word x).length
        · rw [gD q]
          have := (word_lb hw hx).1.2 _ (List.getElem_mem q)
          omega
        · rw [List.getD_eq_getElem?_getD, List.getElem?_eq_none (by omega)]
          exact Nat.zero_lt_succ _
      have fin : ∀ v : Nat, v < 1000 → (sSeg l i (e - i)).getD k 0 = v → fm_wordAt_83 K (fm_wordAt_37 K f) τ (nI i) (nI e) F (nI x) (nI k) (nI v) (nI ((w.word x).getD k 0)) = fm_wordAt_99 K τ (nI i) (nI e) F (nI x) (bI (true && eqF (fun j => (w.word x).getD j 0) (fun j => (sSeg l i (e - i)).getD j 0) k (d + 1))) := by
        intro v hv e2
        unfold fm_wordAt_83 fm_wordAt_91
        have i1 := ih (k + 1) true f (by omega) (by omega)
        have i2 := ih (k + 1) false f (by omega) (by omega)
        rw [show bI true = nI 1 from rfl] at i1
        rw [show bI false = nI 0 from rfl] at i2
        rw [n1, n0, jAdd, i1, i2, eqF_s, Bool.true_and, Bool.true_and, Bool.false_and, e2]
        by_cases q : (w.word x).getD k 0 = v
        · rw [if_pos (by rw [q]), decide_eq_true q, Bool.true_and]
        · rw [if_neg (fun h => q ((jEq (by omega) (by omega)).mp h)), decide_eq_false q, Bool.false_and]
      rw [fm_wordAt_37]
      simp (disch := omega) only [show ((8 : Int32) = nI 8) from rfl, n0, jMul, jAdd, jLe, jLt, x1, x2, c1, e1, Nat.not_lt_zero, false_or, if_false, show bI true = nI 1 from rfl, show (nI 1 = nI 0) = False from eq_false (by decide)]
      by_cases q : e ≤ i + k
      · rw [if_pos q]
        refine fin 0 (by omega) ?_
        rw [ge, if_neg (by omega)]
      · have x3 : ¬ 30 ≤ i + k := by omega
        have c2 : (nI (i + k)).toNatClampNeg = i + k := jCl (by omega)
        have e3 := hX.2 (i + k) (by omega)
        have g3 := getD_tx hl (show i + k < l.length by omega)
        rw [if_neg q]
        simp (disch := omega) only [x3, c2, if_false, e3]
        refine fin _ (by omega) ?_
        rw [ge, if_pos (by omega)]
theorem fm_wordAt_l (hw : Wd.ok w) (hW : MWd τ w) (hl : isTx l) (hX : MTx τ l) {i e : Nat} (hi : i ≤ e) (he : e ≤ l.length) : ∀ (d x : Nat) (a : Option Nat) (f : Nat), x + d = w.W → d < f → fm_wordAt_5 f τ (nI i) (nI e) (oI a) (nI x) = some (oI (((List.range' x d).find? fun x => decide (w.word x = sSeg l i (e - i))).or a), τ) := by
  have hT : w.W ≤ 40 := hw.1.1
  have h30 := hl.1
  have eT := hW.1.1
  intro d
  induction d with
  | zero =>
    intro x a n hx hn
    obtain ⟨n, rfl⟩ : ∃ k, n = k + 1 := ⟨n - 1, by omega⟩
    have x1 : w.W ≤ x := by omega
    rw [fm_wordAt_5]
    simp (disch := omega) only [eT, jLe, x1, if_true]
    rfl
  | succ d ih =>
    intro x a n hx hn
    obtain ⟨n, rfl⟩ : ∃ k, n = k + 1 := ⟨n - 1, by omega⟩
    have x1 : ¬ w.W ≤ x := by omega
    have hlen := sSeg_len (l := l) (i := i) (d := e - i) (by omega)
    have step : ∀ b : Bool, (b && eqF (fun j => (w.word x).getD j 0) (fun j => (sSeg l i (e - i)).getD j 0) 0 8) = decide (w.word x = sSeg l i (e - i)) → fm_wordAt_32 (fm_wordAt_5 n) τ (nI i) (nI e) (oI a) (nI x) (bI b) = some (oI (((List.range' x (d + 1)).find? fun x => decide (w.word x = sSeg l i (e - i))).or a), τ) := by
      intro b hb
      unfold fm_wordAt_32
      rw [n0, fm_wordAt_i hw hW hl hX hi he (show x < w.W by omega) 8 0 b 3000 (by omega) (by omega), hb, List.range'_succ]
      unfold fm_wordAt_99 fm_wordAt_110
      have i1 := ih (x + 1) (some x) n (by omega) (by omega)
      rw [show oI (some x) = nI x from rfl] at i1
      rw [n1, jAdd, i1, ih (x + 1) a n (by omega) (by omega), bI_if]
      by_cases q : w.word x = sSeg l i (e - i)
      · have hnone : (List.range' (x + 1) d).find? (fun x => decide (w.word x = sSeg l i (e - i))) = none := by
          rw [List.find?_eq_none]
          intro y hy
          rw [List.mem_range'_1] at hy
          intro hz
          have hz := of_decide_eq_true hz
          have := hw.2.2.1 x y (by omega) (by omega) (q.trans hz.symm)
          omega
        rw [if_pos (decide_eq_true q), hnone, List.find?_cons_of_pos (by simp [q])]
        rfl
      · rw [if_neg (by simp [q]), List.find?_cons_of_neg (by simp [q])]
    have s0 := step false
    have s1 := step true
    rw [show bI false = nI 0 from rfl] at s0
    rw [show bI true = nI 1 from rfl] at s1
    obtain ⟨b1, b2⟩ := word_lb hw (show x < w.W by omega)
    rw [fm_wordAt_5]
    unfold fm_wordAt_31
    simp (disch := omega) only [n0, n1, show ((8 : Int32) = nI 8) from rfl, eT, jSub, jLe, jLt, x1, if_false]
    by_cases q : 8 < e - i
    · rw [if_pos q]
      refine s0 ?_
      rw [Bool.false_and]
      exact (decide_eq_false (fun h => by have := b1.1; rw [h] at this; omega)).symm
    · rw [if_neg q]
      by_cases q2 : e ≤ i
      · rw [if_pos q2]
        refine s0 ?_
        rw [Bool.false_and]
        exact (decide_eq_false (fun h => b2 (by rw [h]; exact List.eq_nil_of_length_eq_zero (by omega)))).symm
      · rw [if_neg q2]
        refine s1 ?_
        rw [Bool.true_and, Bool.eq_iff_iff, decide_eq_true_iff]
        exact row_ext b1.1 (by omega) (fun c hc => by have := b1.2 c hc; omega) (fun c hc => by have := hl.2 c (sSeg_mem hc); omega)
theorem fm_wordAt_s (hw : Wd.ok w) (hW : MWd τ w) (hl : isTx l) (hX : MTx τ l) {i e : Nat} (hi : i ≤ e) (he : e ≤ l.length) : fm_wordAt τ (nI i) (nI e) = some (oI (sWord w (sSeg l i (e - i))), τ) := by
  have h := fm_wordAt_l hw hW hl hX hi he w.W 0 none 3000 (by omega) (by have := hw.1.1; omega)
  rw [Option.or_none] at h
  exact h
theorem fm_isRow_l (hl : isTx l) (hX : MTx τ l) : ∀ (d k : Nat) (b : Bool) (f : Nat), k + d = l.length → d < f → fm_isRowOfLetters_22 f τ (nI l.length) (bI b) (nI k) = some (bI (b && (sSeg l k d).all fun c => decide (c ≠ 32)), τ) := by
  have h30 := hl.1
  intro d
  induction d with
  | zero =>
    intro k b f hk hf
    obtain ⟨f, rfl⟩ : ∃ k, f = k + 1 := ⟨f - 1, by omega⟩
    rw [fm_isRowOfLetters_22, if_pos (by rw [jLe (by omega) (by omega)]; omega), n1, bI_z, if_pos rfl]
    show _ = some (bI (b && true), τ)
    rw [Bool.and_true]
  | succ d ih =>
    intro k b f hk hf
    obtain ⟨f, rfl⟩ : ∃ k, f = k + 1 := ⟨f - 1, by omega⟩
    have x1 : ¬ l.length ≤ k := by omega
    have x2 : ¬ 30 ≤ k := by omega
    have c1 : (nI k).toNatClampNeg = k := jCl (by omega)
    have e1 := hX.2 k (by omega)
    have g := getD_tx hl (show k < l.length by omega)
    have o0 : bI b &&& nI 0 = bI false := by cases b <;> decide
    have o1 : bI b &&& nI 1 = bI b := by cases b <;> decide
    rw [fm_isRowOfLetters_22, sSeg_s (by omega), List.all_cons]
    unfold fm_isRowOfLetters_46
    simp (disch := omega) only [n0, n1, show ((32 : Int32) = nI 32) from rfl, jLe, jLt, jEq, x1, x2, c1, e1, Nat.not_lt_zero, false_or, if_false, jAdd, o0, o1]
    rw [ih (k + 1) false f (by omega) (by omega), ih (k + 1) b f (by omega) (by omega)]
    by_cases q : l.getD k 0 = 32
    · rw [if_pos q, q]
      simp
    · rw [if_neg q, decide_eq_true q, Bool.true_and]
theorem fm_isRow_s (hl : isTx l) (hX : MTx τ l) : fm_isRowOfLetters τ (nI 0) (nI l.length) = some (bI (sRow l), τ) := by
  have h30 := hl.1
  have h := fm_isRow_l hl hX l.length 0
  unfold fm_isRowOfLetters fm_isRowOfLetters_17 fm_isRowOfLetters_18
  simp (disch := omega) only [n0, n1, show ((8 : Int32) = nI 8) from rfl, jSub, jLe, jLt, Nat.sub_zero]
  have h1 := h true 3000 (by omega) (by omega)
  have h0 := h false 3000 (by omega) (by omega)
  rw [show bI false = nI 0 from rfl] at h0
  rw [show bI true = nI 1 from rfl] at h1
  rw [h0, h1, sSeg_all, Bool.true_and, Bool.false_and]
  unfold sRow
  by_cases q : l.length ≤ 0
  · rw [if_pos q]
    rw [decide_eq_false (fun h => h.1 (List.eq_nil_of_length_eq_zero (by omega)))]
  · rw [if_neg q]
    have q1 : l ≠ [] := fun h => q (by rw [h]; exact Nat.le_refl _)
    by_cases q2 : 8 < l.length
    · rw [if_pos q2, decide_eq_false (fun h => by omega)]
    · rw [if_neg q2]
      have e : (l.all fun c => decide (c ≠ 32)) = decide (l ≠ [] ∧ l.length ≤ 8 ∧ ∀ c ∈ l, c ≠ 32) := by
        rw [Bool.eq_iff_iff, decide_eq_true_iff, List.all_eq_true]
        simp only [decide_eq_true_eq]
        exact ⟨fun h => ⟨q1, by omega, h⟩, fun h => h.2.2⟩
      rw [e]
end SV
