/-! The tree: how many nodes, where play is; parents, states, words shown, commands, names. -/
abbrev Tr : Type := (Nat × Nat) × (Nat → Nat) × (Nat → St) × (Nat → Int64) × (Nat → Cm) × (Nat → List Nat)
def Tr.N (t : Tr) : Nat := t.1.1
def Tr.now (t : Tr) : Nat := t.1.2
def Tr.par (t : Tr) : Nat → Nat := t.2.1
def Tr.st (t : Tr) : Nat → St := t.2.2.1
def Tr.sh (t : Tr) : Nat → Int64 := t.2.2.2.1
def Tr.cm (t : Tr) : Nat → Cm := t.2.2.2.2.1
def Tr.lb (t : Tr) : Nat → List Nat := t.2.2.2.2.2
def Tr.ok (w : Wd) (t : Tr) : Prop :=
  (t.N ≤ 80 ∧ (0 < t.N → t.now < t.N) ∧ (t.N = 0 → t.now = 0)) ∧
  (∀ n, 0 < n → n < t.N → t.par n < n) ∧
  (∀ n, n < t.N → St.ok w (t.st n) ∧ wset w.W (t.sh n) ∧ isLb (t.lb n)) ∧
  ∀ n m, n < t.N → m < t.N → t.lb n = t.lb m → t.lb n ≠ [] → n = m
/-- the reference's tree, but for how its nodes came and their names -/
def MTr (τ : mS) (w : Wd) (t : Tr) : Prop :=
  (τ.1 33 = nI t.N ∧ τ.1 34 = nI t.now ∧ τ.1 20 = bI (decide (0 < t.N))) ∧
  ∀ n, n < t.N → τ.2.2.1 25 n = (if n = 0 then -nI 1 else nI (t.par n)) ∧ τ.2.2.2 30 n = t.sh n ∧ MNd τ w.T n (t.st n)
/-- a list of the class, number l, that holds n things of kind k, the thing i at place i -/
def CLs (σ : cS) (l n k : Nat) : Prop :=
  l < cn σ 10 ∧ cI σ 10 l 2 = nI n ∧ ∃ e, cR σ 10 l 1 = some e ∧ e < cn σ 17 ∧ n ≤ cln σ 17 e ∧ (0 < n ∨ e ≠ 0 → cel σ e = k) ∧ (∀ i, i < n → cR σ 17 e i = some i) ∧ cln σ 17 e ≤ 200
def CTr (σ : cS) (t : Tr) : Prop :=
  (cI σ 4 0 2 = nI t.now ∧ CLs σ 0 t.N 7 ∧ cn σ 7 = t.N ∧ cn σ 6 = t.N + 1 ∧ cn σ 12 = 15 + 2 * t.N ∧ cn σ 13 = 2 + t.N) ∧
  (∀ n, n < t.N → cI σ 7 n 0 = nI n ∧ cR σ 7 n 1 = (if n = 0 then none else some (t.par n)) ∧ cR σ 7 n 3 = some (n + 1) ∧ cJ σ 7 n 4 = t.sh n ∧ cJ σ 7 n 5 = pack (t.lb n) ∧ RSt σ (n + 1) (t.st n) ∧ ∃ c, cR σ 7 n 2 = some c ∧ RCm σ c (t.cm n)) ∧
  ∀ k, k < 40 → cI σ 12 11 k = nI (sumR 0 t.N fun n => if sHas (t.sh n) k then 1 else 0)
theorem lvq_mk {σ : cS} {k i : Nat} (h : i < cn σ k) : (¬ lvq σ k (some i) = true) ↔ False := by
  exact iff_false_intro fun q => q (decide_eq_true h)
theorem CLs.size {σ : cS} {l n k : Nat} (h : CLs σ l n k) : fc_Jx4a65c_size_8abf5 σ (some l) = some (nI n, σ) := by
  unfold fc_Jx4a65c_size_8abf5
  rw [dr_mk h.1, Option.bind_some, h.2.1]
theorem CLs.get {σ : cS} {l n k : Nat} (h : CLs σ l n k) {i : Nat} (hi : i < n) (hn : n < 100000) : fc_Jx4a65c_get_915e3 σ (some l) (nI i) k = some (some i, σ) := by
  obtain ⟨h1, h2, e, h3, h4, h5, h6, h7, -⟩ := h
  have a1 : ¬ (nI i < nI 0 ∨ cln σ 17 e ≤ i) := by
    rw [jLt (by omega) (by omega)]; omega
  have a2 : nI 0 ≤ nI i ∧ nI i < nI n := by
    rw [jLe (by omega) (by omega), jLt (by omega) (by omega)]; omega
  unfold fc_Jx4a65c_get_915e3 fc_Jx4a65c_elementData_915e3 fc_O_ck
  simp only [dr_mk h1, Option.bind_some, h2, n0, a2, and_self, not_true_eq_false, if_false, h3, dr_mk h4, a1, h6 (Or.inl (by omega)), h7 i hi, jCl (show i < 100000 by omega)]
section SA
variable {σ : cS} {τ : mS} {w : Wd} {t : Tr}
theorem CTr.dn (h : CTr σ t) {n : Nat} (hn : n < t.N) : dr σ 7 (some n) = some n := dr_mk (by rw [h.1.2.2.1]; exact hn)
theorem CTr.lv (h : CTr σ t) {n : Nat} (hn : n < t.N) : (¬ lvq σ 7 (some n) = true) ↔ False := lvq_mk (by rw [h.1.2.2.1]; exact hn)
theorem fc_current_s (ht : Tr.ok w t) (hC : CTr σ t) (h0 : 0 < t.N) : fc_X8_current σ = some (some t.now, σ) := by
  have hn := ht.1.2.1 h0
  have := ht.1.1
  unfold fc_X8_current
  rw [hC.1.1, hC.1.2.1.get hn (by omega), Option.bind_some]
  simp only [hC.lv hn, if_false]
/-- the path from a node to the node 0 -/
def pthF (p : Nat → Nat) : Nat → Nat → List Nat
  | 0, _ => []
  | f + 1, n => n :: if n = 0 then [] else pthF p f (p n)
def sPath (t : Tr) (n : Nat) : List Nat := pthF t.par (n + 1) n
theorem pthF_fuel {p : Nat → Nat} {N : Nat} (hp : ∀ n, 0 < n → n < N → p n < n) : ∀ (n f g : Nat), n < N → n < f → n < g → pthF p f n = pthF p g n := by
  intro n
  induction n using Nat.strongRecOn with
  | _ n ih =>
    intro f g hN hf hg
    obtain ⟨f, rfl⟩ : ∃ k, f = k + 1 := ⟨f - 1, by omega⟩
    obtain ⟨g, rfl⟩ : ∃ k, g = k + 1 := ⟨g - 1, by omega⟩
    show (n :: if n = 0 then [] else pthF p f (p n)) = (n :: if n = 0 then [] else pthF p g (p n))
    by_cases q : n = 0
    · rw [if_pos q, if_pos q]
    · have := hp n (by omega) hN
      rw [if_neg q, if_neg q, ih (p n) this f g (by omega) (by omega) (by omega)]
theorem sPath_s (ht : Tr.ok w t) {n : Nat} (hn : n < t.N) : sPath t n = n :: if n = 0 then [] else sPath t (t.par n) := by
  show (n :: if n = 0 then [] else pthF t.par n (t.par n)) = _
  by_cases q : n = 0
  · rw [if_pos q, if_pos q]
  · have := ht.2.1 n (by omega) hn
    rw [if_neg q, if_neg q, pthF_fuel ht.2.1 (t.par n) n (t.par n + 1) (by omega) (by omega) (by omega)]
    rfl
def sKn (t : Tr) (n : Nat) : Int64 := (sPath t n).foldl (fun a m => a ||| t.sh m) 0
def sOnP (t : Tr) (m n : Nat) : Bool := (sPath t n).contains m
theorem orF (f : Nat → Int64) : ∀ (l : List Nat) (a : Int64), l.foldl (fun a m => a ||| f m) a = a ||| l.foldl (fun a m => a ||| f m) 0 := by
  intro l
  induction l with
  | nil => intro a; exact (Int64.or_zero).symm
  | cons x l ih =>
    intro a
    rw [List.foldl_cons, List.foldl_cons, ih, ih (0 ||| f x), Int64.zero_or, Int64.or_assoc]
theorem fm_knownAt_l (ht : Tr.ok w t) (hM : MTr τ w t) : ∀ (n : Nat) (a : Int64) (f : Nat), n < t.N → n + 1 < f → fm_knownAt_5 f τ a (nI n) = some ((sPath t n).foldl (fun a m => a ||| t.sh m) a, τ) := by
  have h80 := ht.1.1
  intro n
  induction n using Nat.strongRecOn with
  | _ n ih =>
    intro a f hN hf
    obtain ⟨f, rfl⟩ : ∃ k, f = k + 1 := ⟨f - 1, by omega⟩
    have x1 : ¬ 80 ≤ n := by omega
    have c1 : (nI n).toNatClampNeg = n := jCl (by omega)
    obtain ⟨e1, e2, -⟩ := hM.2 n hN
    rw [fm_knownAt_5, sPath_s ht hN, List.foldl_cons]
    simp (disch := omega) only [n0, show ((-1 : Int32) = -nI 1) from rfl, jM1, jLt, x1, c1, Nat.not_lt_zero, false_or, if_false, e1, e2]
    by_cases q : n = 0
    · obtain ⟨f, rfl⟩ : ∃ k, f = k + 1 := ⟨f - 1, by omega⟩
      rw [if_pos q, if_pos q, fm_knownAt_5]
      exact if_pos rfl
    · have := ht.2.1 n (by omega) hN
      rw [if_neg q, if_neg q]
      exact ih _ this _ _ (by omega) (by omega)
theorem fm_knownAt_s (ht : Tr.ok w t) (hM : MTr τ w t) {n : Nat} (hn : n < t.N) : fm_knownAt τ (nI n) = some (sKn t n, τ) :=
  fm_knownAt_l ht hM n 0 3000 hn (by have := ht.1.1; omega)
theorem fc_wordsOfPath_l (ht : Tr.ok w t) (hC : CTr σ t) : ∀ (n : Nat) (a : Int64) (f : Nat), n < t.N → n + 1 < f → fc_X2_wordsOfPath_4 f σ a (some n) = some ((sPath t n).foldl (fun a m => a ||| t.sh m) a, σ) := by
  have h80 := ht.1.1
  intro n
  induction n using Nat.strongRecOn with
  | _ n ih =>
    intro a f hN hf
    obtain ⟨f, rfl⟩ : ∃ k, f = k + 1 := ⟨f - 1, by omega⟩
    obtain ⟨-, e1, -, e2, -⟩ := hC.2.1 n hN
    rw [fc_X2_wordsOfPath_4, sPath_s ht hN, List.foldl_cons, if_neg (fun h => by cases h), hC.dn hN, Option.bind_some, e1, e2]
    by_cases q : n = 0
    · obtain ⟨f, rfl⟩ : ∃ k, f = k + 1 := ⟨f - 1, by omega⟩
      rw [if_pos q, if_pos q, fc_X2_wordsOfPath_4]
      exact if_pos rfl
    · have := ht.2.1 n (by omega) hN
      rw [if_neg q, if_neg q]
      exact ih _ this _ _ (by omega) (by omega)
theorem fc_wordsOfPath_s (ht : Tr.ok w t) (hC : CTr σ t) {n : Nat} (hn : n < t.N) : fc_X2_wordsOfPath σ (some n) = some (sKn t n, σ) :=
  fc_wordsOfPath_l ht hC n 0 3000 hn (by have := ht.1.1; omega)
theorem fm_isOnPath_l (ht : Tr.ok w t) (hM : MTr τ w t) {m : Nat} (hm : m < t.N) : ∀ (n : Nat) (a : Bool) (f : Nat), n < t.N → n + 1 < f → fm_isOnPath_5 f τ (nI m) (bI a) (nI n) = some (bI (a || (sPath t n).contains m), τ) := by
  have h80 := ht.1.1
  intro n
  induction n using Nat.strongRecOn with
  | _ n ih =>
    intro a f hN hf
    obtain ⟨f, rfl⟩ : ∃ k, f = k + 1 := ⟨f - 1, by omega⟩
    have x1 : ¬ 80 ≤ n := by omega
    have c1 : (nI n).toNatClampNeg = n := jCl (by omega)
    obtain ⟨e1, e2, -⟩ := hM.2 n hN
    rw [fm_isOnPath_5, sPath_s ht hN]
    unfold fm_isOnPath_23
    simp (disch := omega) only [n0, n1, show (-(nI 1) : Int32) = -nI 1 from rfl, show ((-1 : Int32) = -nI 1) from rfl, jM1, jLt, jEq, x1, c1, Nat.not_lt_zero, false_or, if_false, e1]
    have o1 : ∀ a : Bool, bI a ||| nI 1 = bI true := by intro a; cases a <;> decide
    have o2 : ∀ a : Bool, bI a ||| nI 0 = bI a := by intro a; cases a <;> decide
    rw [o1, o2, List.contains_cons]
    have e3 : (m == n) = decide (n = m) := by
      rw [Bool.eq_iff_iff, beq_iff_eq, decide_eq_true_iff]; exact eq_comm
    rw [e3]
    by_cases q : n = 0
    · obtain ⟨f, rfl⟩ : ∃ k, f = k + 1 := ⟨f - 1, by omega⟩
      rw [if_pos q, if_pos q, fm_isOnPath_5, fm_isOnPath_5]
      simp only [show ((-1 : Int32) = -nI 1) from rfl, if_true, n1, bI_z]
      by_cases q2 : n = m <;> simp [q2]
    · have := ht.2.1 n (by omega) hN
      rw [if_neg q, if_neg q, ih _ this _ _ (by omega) (by omega), ih _ this _ _ (by omega) (by omega)]
      by_cases q2 : n = m <;> simp [q2]
theorem fm_isOnPath_s (ht : Tr.ok w t) (hM : MTr τ w t) {m n : Nat} (hm : m < t.N) (hn : n < t.N) : fm_isOnPath τ (nI m) (nI n) = some (bI (sOnP t m n), τ) := by
  have h := fm_isOnPath_l ht hM hm n false 3000 hn (by have := ht.1.1; omega)
  rw [Bool.false_or] at h
  exact h
theorem fc_isOnPathOf_l (ht : Tr.ok w t) (hC : CTr σ t) {m : Nat} (hm : m < t.N) : ∀ (n : Nat) (f : Nat), n < t.N → n + 1 < f → fc_X2_isOnPathOf_2 f σ (some m) (some n) = some (bI ((sPath t n).contains m), σ) := by
  have h80 := ht.1.1
  intro n
  induction n using Nat.strongRecOn with
  | _ n ih =>
    intro f hN hf
    obtain ⟨f, rfl⟩ : ∃ k, f = k + 1 := ⟨f - 1, by omega⟩
    obtain ⟨-, e1, -, e2, -⟩ := hC.2.1 n hN
    rw [fc_X2_isOnPathOf_2, sPath_s ht hN, if_neg (fun h => by cases h), hC.dn hN, Option.bind_some, e1, List.contains_cons]
    simp only [hC.lv hN, hC.lv hm, if_false, Option.some.injEq]
    have e3 : (m == n) = decide (n = m) := by
      rw [Bool.eq_iff_iff, beq_iff_eq, decide_eq_true_iff]; exact eq_comm
    rw [e3]
    by_cases q2 : n = m
    · rw [if_pos q2, decide_eq_true q2, Bool.true_or]
      rfl
    · rw [if_neg q2, decide_eq_false q2, Bool.false_or]
      by_cases q : n = 0
      · obtain ⟨f, rfl⟩ : ∃ k, f = k + 1 := ⟨f - 1, by omega⟩
        rw [if_pos q, if_pos q, fc_X2_isOnPathOf_2]
        rfl
      · have := ht.2.1 n (by omega) hN
        rw [if_neg q, if_neg q]
        exact ih _ this _ (by omega) (by omega)
theorem fc_isOnPathOf_s (ht : Tr.ok w t) (hC : CTr σ t) {m n : Nat} (hm : m < t.N) (hn : n < t.N) : fc_X2_isOnPathOf σ (some m) (some n) = some (bI (sOnP t m n), σ) :=
  fc_isOnPathOf_l ht hC hm n 3000 hn (by have := ht.1.1; omega)
theorem fc_areOnOnePath_s (ht : Tr.ok w t) (hC : CTr σ t) {m n : Nat} (hm : m < t.N) (hn : n < t.N) : fc_X11_areOnOnePath σ (some m) (some n) = some (bI (sOnP t m n || sOnP t n m), σ) := by
  unfold fc_X11_areOnOnePath fc_X11_areOnOnePath_16 fc_X11_areOnOnePath_21
  simp only [hC.dn hm, hC.dn hn, Option.bind_some, fc_isOnPathOf_s ht hC hm hn, fc_isOnPathOf_s ht hC hn hm]
  cases sOnP t m n <;> cases sOnP t n m <;> rfl
def sDep (t : Tr) (n : Nat) : Nat := (sPath t n).length - 1
theorem sPath_pos (ht : Tr.ok w t) {n : Nat} (hn : n < t.N) : 0 < (sPath t n).length := by
  rw [sPath_s ht hn]; exact Nat.succ_pos _
theorem sPath_le (ht : Tr.ok w t) : ∀ n, n < t.N → (sPath t n).length ≤ n + 1 := by
  intro n
  induction n using Nat.strongRecOn with
  | _ n ih =>
    intro hN
    rw [sPath_s ht hN, List.length_cons]
    by_cases q : n = 0
    · rw [if_pos q]; exact Nat.succ_le_succ (Nat.zero_le _)
    · have h1 := ht.2.1 n (by omega) hN
      have h2 := ih _ h1 (by omega)
      rw [if_neg q]; omega
theorem fm_depthOf_l (ht : Tr.ok w t) (hM : MTr τ w t) : ∀ (n a f : Nat), n < t.N → n < f → fm_depthOf_4 f τ (nI a) (nI n) = some (nI (a + sDep t n), τ) := by
  have h80 := ht.1.1
  intro n
  induction n using Nat.strongRecOn with
  | _ n ih =>
    intro a f hN hf
    obtain ⟨f, rfl⟩ : ∃ k, f = k + 1 := ⟨f - 1, by omega⟩
    have x1 : ¬ 80 ≤ n := by omega
    have c1 : (nI n).toNatClampNeg = n := jCl (by omega)
    obtain ⟨e1, e2, -⟩ := hM.2 n hN
    unfold sDep
    rw [fm_depthOf_4, sPath_s ht hN, List.length_cons]
    simp (disch := omega) only [n0, n1, jLt, x1, c1, Nat.not_lt_zero, false_or, if_false, e1]
    by_cases q : n = 0
    · rw [if_pos q, if_pos q]
      exact if_pos rfl
    · have h1 := ht.2.1 n (by omega) hN
      have h2 := sPath_pos ht (n := t.par n) (by omega)
      simp only [if_neg q]
      rw [if_neg (fun h => (jM1 (by omega)).mp h), jAdd, ih _ h1 _ _ (by omega) (by omega)]
      unfold sDep
      congr 3
      omega
theorem fm_depthOf_s (ht : Tr.ok w t) (hM : MTr τ w t) {n : Nat} (hn : n < t.N) : fm_depthOf τ (nI n) = some (nI (sDep t n), τ) := by
  have h := fm_depthOf_l ht hM n 0 3000 hn (by have := ht.1.1; omega)
  rw [Nat.zero_add] at h
  exact h
theorem fc_pathLength_l (ht : Tr.ok w t) (hC : CTr σ t) : ∀ (n a f : Nat), n < t.N → n < f → fc_X2_pathLength_7 (f + 1) σ (nI a) (some n) = some (nI (a + sDep t n + 1), σ) := by
  have h80 := ht.1.1
  intro n
  induction n using Nat.strongRecOn with
  | _ n ih =>
    intro a f hN hf
    obtain ⟨f, rfl⟩ : ∃ k, f = k + 1 := ⟨f - 1, by omega⟩
    obtain ⟨-, e1, -, e2, -⟩ := hC.2.1 n hN
    unfold sDep
    rw [fc_X2_pathLength_7, sPath_s ht hN, if_neg (fun h => by cases h), hC.dn hN, Option.bind_some, e1, List.length_cons, n1, jAdd]
    by_cases q : n = 0
    · rw [if_pos q, if_pos q, fc_X2_pathLength_7, if_pos rfl]
      rfl
    · have h1 := ht.2.1 n (by omega) hN
      have h2 := sPath_pos ht (n := t.par n) (by omega)
      rw [if_neg q, if_neg q, ih _ h1 _ _ (by omega) (by omega)]
      unfold sDep
      congr 3
      omega
theorem fc_pathLength_s (ht : Tr.ok w t) (hC : CTr σ t) {n : Nat} (hn : n < t.N) : fc_X2_pathLength σ (some n) = some (nI (sDep t n), σ) := by
  have h80 := ht.1.1
  obtain ⟨-, e1, -, e2, -⟩ := hC.2.1 n hn
  unfold fc_X2_pathLength sDep
  rw [hC.dn hn, Option.bind_some, e1, sPath_s ht hn, List.length_cons]
  by_cases q : n = 0
  · rw [if_pos q, if_pos q, fc_X2_pathLength_7, if_pos rfl]
    rfl
  · have h1 := ht.2.1 n (by omega) hn
    have h2 := sPath_pos ht (n := t.par n) (by omega)
    rw [if_neg q, if_neg q]
    have h := fc_pathLength_l ht hC (t.par n) 0 2999 (by omega) (by omega)
    unfold sDep at h
    rw [n0, h]
    congr 3
    omega
end SA
