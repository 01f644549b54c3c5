/-! Postings, what is rare, which nodes show some words: both sides. -/
def posP (t : Tr) (k i : Nat) : Bool := sHas (t.sh i) k
def sPost (t : Tr) (k : Nat) : Nat := sCnt (posP t k) 0 t.N
theorem sCnt_le (P : Nat → Bool) (x d : Nat) : sCnt P x d ≤ d := by
  have := sumR_le (f := fun i => if P i = true then 1 else 0) (B := 1) d x (fun y _ _ => by split <;> omega)
  unfold sCnt
  omega
theorem sCnt_s (P : Nat → Bool) (x d : Nat) : sCnt P x (d + 1) = (if P x = true then 1 else 0) + sCnt P (x + 1) d := sumR_s _ _ _
section SC
variable {σ : cS} {τ : mS} {w : Wd} {t : Tr}
theorem fm_postingsOf_l (ht : Tr.ok w t) (hM : MTr τ w t) {k : Nat} (hk : k < 64) : ∀ (d x a f : Nat), x + d = t.N → d < f → fm_postingsOf_4 f τ (nI k) (nI a) (nI x) = some (nI (a + sCnt (posP t k) x d), τ) := by
  have h80 := ht.1.1
  intro d
  induction d with
  | zero =>
    intro x a f hx hf
    obtain ⟨f, rfl⟩ : ∃ k, f = k + 1 := ⟨f - 1, by omega⟩
    have x1 : t.N ≤ x := by omega
    rw [fm_postingsOf_4, hM.1.1]
    simp (disch := omega) only [jLe, x1, if_true]
    rfl
  | succ d ih =>
    intro x a f hx hf
    obtain ⟨f, rfl⟩ : ∃ k, f = k + 1 := ⟨f - 1, by omega⟩
    have x1 : ¬ t.N ≤ x := by omega
    have x2 : ¬ 80 ≤ x := by omega
    have c1 : (nI x).toNatClampNeg = x := jCl (by omega)
    obtain ⟨-, e2, -⟩ := hM.2 x (by omega)
    rw [fm_postingsOf_4, hM.1.1, sCnt_s]
    unfold fm_postingsOf_31
    simp (disch := omega) only [n0, n1, jLe, jLt, x1, x2, c1, e2, Nat.not_lt_zero, false_or, if_false, jAdd]
    rw [fm_has_s hk, Option.bind_some, bI_if0, ih (x + 1) (a + 0) f (by omega) (by omega), ih (x + 1) (a + 1) f (by omega) (by omega)]
    unfold posP
    cases sHas (t.sh x) k <;> simp [Nat.add_assoc]
theorem fm_postingsOf_s (ht : Tr.ok w t) (hM : MTr τ w t) {k : Nat} (hk : k < 64) : fm_postingsOf τ (nI k) = some (nI (sPost t k), τ) := by
  have h := fm_postingsOf_l ht hM hk t.N 0 0 3000 (by omega) (by have := ht.1.1; omega)
  rw [Nat.zero_add] at h
  exact h
theorem fm_posting_l (ht : Tr.ok w t) (hM : MTr τ w t) {k v : Nat} (hk : k < 64) (hv : v < 2147483648) : ∀ (d x j f : Nat), x + d = t.N → d < f → j ≤ v → fm_posting_27 f τ (nI k) (nI v) (nI j) (nI x) = match sNth (posP t k) x d j with | some y => some (nI y, τ) | none => some (nI 0, mI τ 0 (nI 2)) := by
  have h80 := ht.1.1
  have v1 : ¬ nI v < nI 0 := by rw [nI_ltI hv (by omega)]; omega
  intro d
  induction d with
  | zero =>
    intro x j f hx hf hj
    obtain ⟨f, rfl⟩ : ∃ k, f = k + 1 := ⟨f - 1, by omega⟩
    have x1 : t.N ≤ x := by omega
    rw [fm_posting_27, hM.1.1]
    simp (disch := omega) only [jLe, x1, if_true]
    rfl
  | succ d ih =>
    intro x j f hx hf hj
    obtain ⟨f, rfl⟩ : ∃ k, f = k + 1 := ⟨f - 1, by omega⟩
    have x1 : ¬ t.N ≤ x := by omega
    have x2 : ¬ 80 ≤ x := by omega
    have c1 : (nI x).toNatClampNeg = x := jCl (by omega)
    obtain ⟨-, e2, -⟩ := hM.2 x (by omega)
    rw [fm_posting_27, hM.1.1, sNth_s]
    unfold fm_posting_67
    simp (disch := omega) only [n0, n1, jLe, jLt, bE, x1, x2, c1, e2, v1, Nat.not_lt_zero, false_or, if_false, jAdd]
    rw [fm_has_s hk, Option.bind_some, bI_if0]
    unfold posP
    by_cases q : sHas (t.sh x) k = true
    · rw [if_pos q, if_pos q]
      by_cases q2 : j = 0
      · rw [if_pos q2, if_pos q2]
      · rw [if_neg q2, if_neg q2, jDec q2]
        exact ih (x + 1) (j - 1) f (by omega) (by omega) (by omega)
    · rw [if_neg q, if_neg q]
      exact ih (x + 1) j f (by omega) (by omega) hj
theorem fm_posting_n (ht : Tr.ok w t) (hM : MTr τ w t) {v a b : Int32} (hv : v < nI 0) : fm_posting_27 3000 τ a v b (nI 0) = some (nI 0, mI τ 0 (nI 2)) := by
  rw [show (3000 : Nat) = 2999 + 1 from rfl, fm_posting_27, hM.1.1]
  unfold fm_posting_73
  by_cases q : nI t.N ≤ nI 0
  · rw [if_pos q]; rfl
  · rw [if_neg q, if_pos (show v < 0 from hv)]; rfl
theorem fc_postingAt_l (ht : Tr.ok w t) (hC : CTr σ t) {k : Nat} (hk : k < 40) : ∀ (d x b j f : Nat), x + d = t.N → d < f → b + j < 2147483648 → fc_X8_postingAt_5 f σ (nI k) (nI (b + j)) (nI b) (nI x) = some (oI (sNth (posP t k) x d j), σ) := by
  have h80 := ht.1.1
  intro d
  induction d with
  | zero =>
    intro x b j f hx hf hj
    obtain ⟨f, rfl⟩ : ∃ k, f = k + 1 := ⟨f - 1, by omega⟩
    have x1 : t.N ≤ x := by omega
    rw [fc_X8_postingAt_5, hC.1.2.1.size, Option.bind_some]
    simp (disch := omega) only [jLe, x1, if_true]
    rfl
  | succ d ih =>
    intro x b j f hx hf hj
    obtain ⟨f, rfl⟩ : ∃ k, f = k + 1 := ⟨f - 1, by omega⟩
    have x1 : ¬ t.N ≤ x := by omega
    obtain ⟨-, -, -, e2, -⟩ := hC.2.1 x (by omega)
    rw [fc_X8_postingAt_5, hC.1.2.1.size, Option.bind_some, hC.1.2.1.get (show x < t.N by omega) (by omega), sNth_s]
    unfold fc_X8_postingAt_50
    have l1 := hC.lv (show x < t.N by omega)
    simp (disch := omega) only [n1, jLe, x1, if_false, Option.bind_some, l1, hC.dn (show x < t.N by omega), e2, fc_includes_s hk, jAdd, bI_if]
    unfold posP
    by_cases q : sHas (t.sh x) k = true
    · rw [if_pos q, if_pos q]
      by_cases q2 : j = 0
      · rw [if_pos q2, q2, Nat.add_zero, if_pos rfl]; rfl
      · rw [if_neg q2, if_neg (fun h => q2 (by have := (nI_eq (by omega) (by omega)).mp h; omega))]
        have := ih (x + 1) (b + 1) (j - 1) f (by omega) (by omega) (by omega)
        rw [show b + 1 + (j - 1) = b + j by omega] at this
        exact this
    · rw [if_neg q, if_neg q]
      exact ih (x + 1) b j f (by omega) (by omega) hj
theorem fc_postingAt_n (ht : Tr.ok w t) (hC : CTr σ t) {k : Nat} (hk : k < 40) {v : Int32} (hv : v < nI 0) : ∀ (d x b f : Nat), x + d = t.N → d < f → b + d < 100000 → fc_X8_postingAt_5 f σ (nI k) v (nI b) (nI x) = some (-nI 1, σ) := by
  have h80 := ht.1.1
  intro d
  induction d with
  | zero =>
    intro x b f hx hf hb
    obtain ⟨f, rfl⟩ : ∃ k, f = k + 1 := ⟨f - 1, by omega⟩
    have x1 : t.N ≤ x := by omega
    rw [fc_X8_postingAt_5, hC.1.2.1.size, Option.bind_some]
    simp (disch := omega) only [jLe, x1, if_true]
    rfl
  | succ d ih =>
    intro x b f hx hf hb
    obtain ⟨f, rfl⟩ : ∃ k, f = k + 1 := ⟨f - 1, by omega⟩
    have x1 : ¬ t.N ≤ x := by omega
    obtain ⟨-, -, -, e2, -⟩ := hC.2.1 x (by omega)
    have x4 : ¬ nI b = v := fun h => by
      rw [← h, jLt (by omega) (by omega)] at hv
      omega
    rw [fc_X8_postingAt_5, hC.1.2.1.size, Option.bind_some, hC.1.2.1.get (show x < t.N by omega) (by omega)]
    unfold fc_X8_postingAt_50
    have l1 := hC.lv (show x < t.N by omega)
    simp (disch := omega) only [n1, jLe, x1, x4, if_false, Option.bind_some, l1, hC.dn (show x < t.N by omega), e2, fc_includes_s hk, jAdd, bI_if]
    rw [ih (x + 1) b f (by omega) (by omega) (by omega), ih (x + 1) (b + 1) f (by omega) (by omega) (by omega), ite_self]
def sPosting (t : Tr) (k : Nat) (v : Int32) : Option Nat := if v < nI 0 then none else sNth (posP t k) 0 t.N v.toNatClampNeg
theorem fc_postingAt_s (ht : Tr.ok w t) (hC : CTr σ t) {k : Nat} (hk : k < 40) (v : Int32) : fc_X8_postingAt σ (nI k) v = some (oI (sPosting t k v), σ) := by
  have h80 := ht.1.1
  unfold fc_X8_postingAt sPosting
  simp only [n0]
  by_cases q : v < nI 0
  · rw [if_pos q, fc_postingAt_n ht hC hk q t.N 0 0 3000 (by omega) (by omega) (by omega)]
    rfl
  · obtain ⟨j, hj, rfl⟩ := nI_of q
    rw [if_neg q, nI_clamp hj]
    have h := fc_postingAt_l ht hC hk t.N 0 0 j 3000 (by omega) (by omega) (by omega)
    rw [Nat.zero_add] at h
    exact h
def showP (t : Tr) (s : Int64) (i : Nat) : Bool := decide (t.sh i &&& s ≠ 0)
theorem fc_nodesShowing_l (ht : Tr.ok w t) (hC : CTr σ t) (s : Int64) : ∀ (d x a f : Nat), x + d = t.N → d < f → fc_X8_nodesShowing_5 f σ s (nI a) (nI x) = some (nI (a + sCnt (showP t s) x d), σ) := by
  have h80 := ht.1.1
  intro d
  induction d with
  | zero =>
    intro x a f hx hf
    obtain ⟨f, rfl⟩ : ∃ k, f = k + 1 := ⟨f - 1, by omega⟩
    have x1 : t.N ≤ x := by omega
    rw [fc_X8_nodesShowing_5, hC.1.2.1.size, Option.bind_some]
    simp (disch := omega) only [jLe, x1, if_true]
    rfl
  | succ d ih =>
    intro x a f hx hf
    obtain ⟨f, rfl⟩ : ∃ k, f = k + 1 := ⟨f - 1, by omega⟩
    have x1 : ¬ t.N ≤ x := by omega
    obtain ⟨-, -, -, e2, -⟩ := hC.2.1 x (by omega)
    have l1 := hC.lv (show x < t.N by omega)
    rw [fc_X8_nodesShowing_5, hC.1.2.1.size, Option.bind_some, hC.1.2.1.get (show x < t.N by omega) (by omega), sCnt_s]
    unfold fc_X8_nodesShowing_42
    simp (disch := omega) only [n1, jLe, x1, if_false, Option.bind_some, l1, hC.dn (show x < t.N by omega), e2, jAdd, lg0]
    rw [ih (x + 1) a f (by omega) (by omega), ih (x + 1) (a + 1) f (by omega) (by omega)]
    unfold showP
    by_cases q : t.sh x &&& s = 0 <;> simp [q, Nat.add_assoc]
def sShow (t : Tr) (s : Int64) : Nat := sCnt (showP t s) 0 t.N
theorem fc_nodesShowing_s (ht : Tr.ok w t) (hC : CTr σ t) (s : Int64) : fc_X8_nodesShowing σ s = some (nI (sShow t s), σ) := by
  have h := fc_nodesShowing_l ht hC s t.N 0 0 3000 (by omega) (by have := ht.1.1; omega)
  rw [Nat.zero_add] at h
  exact h
/-- how many words of a set are rarer than one -/
def rarP (t : Tr) (s : Int64) (k v : Nat) : Bool := sHas s v && (decide (sPost t v < sPost t k) || (decide (sPost t v = sPost t k) && decide (v < k)))
def sRar (t : Tr) (W : Nat) (s : Int64) (k : Nat) : Nat := sCnt (rarP t s k) 0 W
def sRare (t : Tr) (W : Nat) (s : Int64) (v : Int32) : Option Nat := (List.range' 0 W).find? fun k => sHas s k && decide (nI (sRar t W s k) = v)
theorem fc_rarer_l (ht : Tr.ok w t) (hC : CTr σ t) {s : Int64} {k : Nat} (hk : k < 40) : ∀ (d x a f : Nat), x + d = 40 → d < f → fc_X8_rarerThan_6 f σ s (nI k) (nI a) (nI x) = some (nI (a + sCnt (rarP t s k) x d), σ) := by
  have h80 := ht.1.1
  intro d
  induction d with
  | zero =>
    intro x a f hx hf
    obtain ⟨f, rfl⟩ : ∃ k, f = k + 1 := ⟨f - 1, by omega⟩
    obtain rfl : x = 40 := by omega
    rw [fc_X8_rarerThan_6]
    exact if_pos (by decide)
  | succ d ih =>
    intro x a f hx hf
    obtain ⟨f, rfl⟩ : ∃ k, f = k + 1 := ⟨f - 1, by omega⟩
    have x1 : ¬ 40 ≤ x := by omega
    have x2 : ¬ 40 ≤ k := by omega
    have c1 : (nI x).toNatClampNeg = x := jCl (by omega)
    have c2 : (nI k).toNatClampNeg = k := jCl (by omega)
    have e1 : cI σ 12 11 x = nI (sPost t x) := hC.2.2 x (by omega)
    have e2 : cI σ 12 11 k = nI (sPost t k) := hC.2.2 k hk
    have b1 : sPost t x ≤ t.N := sCnt_le _ _ _
    have b2 : sPost t k ≤ t.N := sCnt_le _ _ _
    rw [fc_X8_rarerThan_6, sCnt_s]
    unfold fc_X8_rarerThan_51 fc_X8_rarerThan_55 fc_X8_rarerThan_56 fc_X8_rarerThan_75
    simp (disch := omega) only [show ((40 : Int32) = nI 40) from rfl, n0, n1, jLe, jLt, jEq, x1, x2, c1, c2, e1, e2, Nat.not_lt_zero, false_or, if_false, jAdd, fc_includes_s (show x < 40 by omega), Option.bind_some, show (nI 1 = nI 0) = False from eq_false (by decide), if_true]
    rw [bI_if0, ih (x + 1) a f (by omega) (by omega), ih (x + 1) (a + 1) f (by omega) (by omega)]
    unfold rarP
    by_cases q1 : sPost t x < sPost t k
    · rw [if_pos q1]
      cases sHas s x <;> simp [q1, Nat.add_assoc]
    · rw [if_neg q1]
      by_cases q2 : sPost t x = sPost t k
      · rw [if_pos q2]
        by_cases q3 : k ≤ x
        · rw [if_pos q3]
          have : ¬ x < k := by omega
          cases sHas s x <;> simp [q2, this]
        · rw [if_neg q3]
          have : x < k := by omega
          cases sHas s x <;> simp [q2, this, Nat.add_assoc]
      · rw [if_neg q2]
        cases sHas s x <;> simp [q1, q2]
theorem rar_W {W : Nat} (hW : W ≤ 40) {s : Int64} (hs : wset W s) (k : Nat) : sCnt (rarP t s k) 0 40 = sRar t W s k := by
  unfold sRar sCnt
  rw [show (40 : Nat) = W + (40 - W) by omega, sumR_add, sumR_congr (f := fun i => if rarP t s k i = true then 1 else 0) (g := fun _ => 0) (40 - W) (0 + W) (fun y h1 h2 => by
    have : sHas s y = false := wset_has hs (by omega)
    unfold rarP
    rw [this]
    rfl)]
  have : ∀ d x, sumR x d (fun _ => 0) = 0 := by
    intro d
    induction d with
    | zero => intro x; rfl
    | succ d ih => intro x; rw [sumR_s, ih]
  rw [this, Nat.add_zero]
theorem fc_rarer_s (ht : Tr.ok w t) (hC : CTr σ t) {W : Nat} (hW : W ≤ 40) {s : Int64} (hs : wset W s) {k : Nat} (hk : k < 40) : fc_X8_rarerThan σ s (nI k) = some (nI (sRar t W s k), σ) := by
  have h := fc_rarer_l ht hC (s := s) hk 40 0 0 3000 (by omega) (by omega)
  rw [Nat.zero_add, rar_W hW hs] at h
  exact h
theorem fc_byRarity_l (ht : Tr.ok w t) (hC : CTr σ t) {W : Nat} (hW : W ≤ 40) {s : Int64} (hs : wset W s) (v : Int32) : ∀ (d x f : Nat), x + d = 40 → d < f → fc_X8_byRarity_3 f σ s v (nI x) = some (oI ((List.range' x d).find? fun k => sHas s k && decide (nI (sRar t W s k) = v)), σ) := by
  intro d
  induction d with
  | zero =>
    intro x f hx hf
    obtain ⟨f, rfl⟩ : ∃ k, f = k + 1 := ⟨f - 1, by omega⟩
    obtain rfl : x = 40 := by omega
    rw [fc_X8_byRarity_3]
    exact if_pos (by decide)
  | succ d ih =>
    intro x f hx hf
    obtain ⟨f, rfl⟩ : ∃ k, f = k + 1 := ⟨f - 1, by omega⟩
    have x1 : ¬ 40 ≤ x := by omega
    rw [fc_X8_byRarity_3, List.range'_succ, List.find?_cons]
    unfold fc_X8_byRarity_33
    simp (disch := omega) only [show ((40 : Int32) = nI 40) from rfl, n1, jLe, x1, if_false, fc_includes_s (show x < 40 by omega), Option.bind_some, bI_if, fc_rarer_s ht hC hW hs (show x < 40 by omega), jAdd]
    rw [ih (x + 1) f (by omega) (by omega)]
    cases q : sHas s x with
    | false => rfl
    | true =>
      rw [if_pos rfl, Bool.true_and]
      by_cases q2 : nI (sRar t W s x) = v
      · rw [if_pos q2, decide_eq_true q2]
        rfl
      · rw [if_neg q2, decide_eq_false q2]
theorem fc_byRarity_s (ht : Tr.ok w t) (hC : CTr σ t) {W : Nat} (hW : W ≤ 40) {s : Int64} (hs : wset W s) (v : Int32) : fc_X8_byRarity σ s v = some (oI (sRare t W s v), σ) := by
  have h := fc_byRarity_l ht hC hW hs v 40 0 3000 (by omega) (by omega)
  have e : ((List.range' 0 40).find? fun k => sHas s k && decide (nI (sRar t W s k) = v)) = sRare t W s v := by
    unfold sRare
    rw [show (40 : Nat) = W + (40 - W) by omega, ← List.range'_append_1, List.find?_append]
    have hn : (List.range' (0 + W) (40 - W)).find? (fun k => sHas s k && decide (nI (sRar t W s k) = v)) = none := by
      rw [List.find?_eq_none]
      intro y hy
      rw [List.mem_range'_1] at hy
      rw [wset_has hs (by omega)]
      exact Bool.false_ne_true
    rw [hn, Option.or_none]
  rw [e] at h
  exact h
theorem fm_rare_i (hw : Wd.ok w) (hW : MWd τ w) (ht : Tr.ok w t) (hM : MTr τ w t) {s : Int64} {k : Nat} (hk : k < 40) {v : Int32} {K : mS → Int32 → Int64 → Int32 → Option (Int32 × mS)} : ∀ (d x a f : Nat), x + d = w.W → d < f → fm_rare_52 K f τ v s (nI k) (nI a) (nI x) = if nI (a + sCnt (rarP t s k) x d) = v then some (nI k, τ) else K τ v s (nI (k + 1)) := by
  have h80 := ht.1.1
  have hT : w.W ≤ 40 := hw.1.1
  have eT := hW.1.1
  intro d
  induction d with
  | zero =>
    intro x a f hx hf
    obtain ⟨f, rfl⟩ : ∃ k, f = k + 1 := ⟨f - 1, by omega⟩
    have x1 : w.W ≤ x := by omega
    rw [fm_rare_52, eT]
    unfold fm_rare_132
    simp (disch := omega) only [n1, jLe, x1, if_true, jAdd]
    rfl
  | succ d ih =>
    intro x a f hx hf
    obtain ⟨f, rfl⟩ : ∃ k, f = k + 1 := ⟨f - 1, by omega⟩
    have x1 : ¬ w.W ≤ x := by omega
    have b1 : sPost t x ≤ t.N := sCnt_le _ _ _
    have b2 : sPost t k ≤ t.N := sCnt_le _ _ _
    rw [fm_rare_52, eT, sCnt_s]
    unfold fm_rare_109 fm_rare_113 fm_rare_114
    simp (disch := omega) only [n0, n1, jLe, jLt, jEq, x1, if_false, fm_has_s (show x < 64 by omega), Option.bind_some, fm_postingsOf_s ht hM (show x < 64 by omega), fm_postingsOf_s ht hM (show k < 64 by omega), jAdd]
    rw [bI_if0, ih (x + 1) (a + 0) f (by omega) (by omega), ih (x + 1) (a + 1) f (by omega) (by omega)]
    unfold rarP
    by_cases q1 : sPost t x < sPost t k
    · rw [if_pos q1]
      cases sHas s x <;> simp [q1, Nat.add_assoc]
    · rw [if_neg q1]
      by_cases q2 : sPost t x = sPost t k
      · rw [if_pos q2]
        by_cases q3 : k ≤ x
        · rw [if_pos q3]
          have : ¬ x < k := by omega
          cases sHas s x <;> simp [q2, this]
        · rw [if_neg q3]
          have : x < k := by omega
          cases sHas s x <;> simp [q2, this, Nat.add_assoc]
      · rw [if_neg q2]
        cases sHas s x <;> simp [q1, q2]
theorem fm_rare_l (hw : Wd.ok w) (hW : MWd τ w) (ht : Tr.ok w t) (hM : MTr τ w t) {s : Int64} {v : Int32} (hv : ¬ v < nI 0) : ∀ (d x f : Nat), x + d = w.W → d < f → fm_rare_21 f τ v s (nI x) = match (List.range' x d).find? fun k => sHas s k && decide (nI (sRar t w.W s k) = v) with | some y => some (nI y, τ) | none => some (nI 0, mI τ 0 (nI 2)) := by
  have hT : w.W ≤ 40 := hw.1.1
  have eT := hW.1.1
  intro d
  induction d with
  | zero =>
    intro x f hx hf
    obtain ⟨f, rfl⟩ : ∃ k, f = k + 1 := ⟨f - 1, by omega⟩
    have x1 : w.W ≤ x := by omega
    rw [fm_rare_21, eT]
    simp (disch := omega) only [jLe, x1, if_true]
    rfl
  | succ d ih =>
    intro x f hx hf
    obtain ⟨f, rfl⟩ : ∃ k, f = k + 1 := ⟨f - 1, by omega⟩
    have x1 : ¬ w.W ≤ x := by omega
    rw [fm_rare_21, eT, List.range'_succ, List.find?_cons]
    unfold fm_rare_132
    simp (disch := omega) only [n0, n1, jLe, x1, hv, if_false, fm_has_s (show x < 64 by omega), Option.bind_some, jAdd]
    rw [bI_if0, ih (x + 1) f (by omega) (by omega), fm_rare_i hw hW ht hM (show x < 40 by omega) w.W 0 0 3000 (by omega) (by omega), ih (x + 1) f (by omega) (by omega), Nat.zero_add]
    show (if sHas s x = true then (if nI (sRar t w.W s x) = v then _ else _) else _) = _
    cases q : sHas s x with
    | false => rfl
    | true =>
      rw [if_pos rfl, Bool.true_and]
      by_cases q2 : nI (sRar t w.W s x) = v
      · rw [if_pos q2, decide_eq_true q2]
      · rw [if_neg q2, decide_eq_false q2]
end SC
