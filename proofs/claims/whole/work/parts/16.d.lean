/-! Names, what was learnt first, the node in common: both sides. -/
def MNm (τ : mS) (t : Tr) : Prop := ∀ n, n < t.N → (t.lb n = [] → τ.2.2.1 31 (8 * n) = nI 0) ∧ (t.lb n ≠ [] → ∀ k, k < 8 → τ.2.2.1 31 (8 * n + k) = nI ((t.lb n).getD k 0))
def sNamed (t : Tr) (l : List Nat) : Option Nat := (List.range' 0 t.N).find? fun n => decide (t.lb n = l ∧ l ≠ [])
theorem getD_lb {l : List Nat} (hl : isLb l) (k : Nat) : l.getD k 0 < 1000 := by
  by_cases q : k < l.length
  · rw [gD q]
    have := hl.2 _ (List.getElem_mem q)
    omega
  · rw [List.getD_eq_getElem?_getD, List.getElem?_eq_none (by omega)]
    exact Nat.zero_lt_succ _
section SD
variable {σ : cS} {τ : mS} {w : Wd} {t : Tr} {l : List Nat}
theorem fm_named_i (ht : Tr.ok w t) (hN : MNm τ t) (hl : isTx l) (hX : MTx τ l) {n : Nat} {F : Int32} {K : mS → Int32 → Int32 → Option (Int32 × mS)} (hn : n < t.N) (h0 : t.lb n ≠ []) : ∀ (d k : Nat) (b : Bool) (f : Nat), k + d = 8 → d < f → fm_named_49 K f τ F (nI n) (bI b) (nI k) = fm_named_107 K τ F (nI n) (bI (b && eqF (fun j => (t.lb n).getD j 0) (fun j => l.getD j 0) k d)) := by
  have h80 := ht.1.1
  have h30 := hl.1
  intro d
  induction d with
  | zero =>
    intro k b f hk hf
    obtain ⟨f, rfl⟩ : ∃ k, f = k + 1 := ⟨f - 1, by omega⟩
    obtain rfl : k = 8 := by omega
    rw [fm_named_49, if_pos (by decide)]
    show _ = fm_named_107 K τ F _ (bI (b && true))
    rw [Bool.and_true]
  | succ d ih =>
    intro k b f hk hf
    obtain ⟨f, rfl⟩ : ∃ k, f = k + 1 := ⟨f - 1, by omega⟩
    have x1 : ¬ 8 ≤ k := by omega
    have x2 : ¬ 640 ≤ 8 * n + k := by omega
    have c1 : (nI (8 * n + k)).toNatClampNeg = 8 * n + k := jCl (by omega)
    have e1 := (hN n hn).2 h0 k (by omega)
    cases b with
    | false =>
      rw [fm_named_49, if_neg (by rw [show ((8 : Int32) = nI 8) from rfl, jLe (by omega) (by omega)]; omega), if_pos (show bI false = 0 from rfl), Bool.false_and]
    | true =>
      have hc := getD_lb (ht.2.2.1 n hn).2.2 k
      have fin : ∀ v : Nat, v < 1000 → l.getD k 0 = v → fm_named_92 K (fm_named_49 K f) τ F (nI n) (nI k) (nI v) (nI ((t.lb n).getD k 0)) = fm_named_107 K τ F (nI n) (bI (true && eqF (fun j => (t.lb n).getD j 0) (fun j => l.getD j 0) k (d + 1))) := by
        intro v hv e2
        unfold fm_named_92 fm_named_100
        have i1 := ih (k + 1) true f (by omega) (by omega)
        have i2 := ih (k + 1) false f (by omega) (by omega)
        rw [show bI true = nI 1 from rfl] at i1
        rw [show bI false = nI 0 from rfl] at i2
        rw [n1, n0, jAdd, i1, i2, eqF_s, Bool.true_and, Bool.true_and, Bool.false_and, e2]
        by_cases q : (t.lb n).getD k 0 = v
        · rw [if_pos (by rw [q]), decide_eq_true q, Bool.true_and]
        · rw [if_neg (fun h => q ((jEq (by omega) (by omega)).mp h)), decide_eq_false q, Bool.false_and]
      rw [fm_named_49, hX.1]
      simp (disch := omega) only [show ((8 : Int32) = nI 8) from rfl, n0, jMul, jAdd, jLe, jLt, x1, x2, c1, e1, Nat.not_lt_zero, false_or, if_false, show bI true = nI 1 from rfl, show (nI 1 = nI 0) = False from eq_false (by decide)]
      by_cases q : l.length ≤ k
      · rw [if_pos q]
        refine fin 0 (by omega) ?_
        rw [List.getD_eq_getElem?_getD, List.getElem?_eq_none (by omega)]
        rfl
      · have x3 : ¬ 30 ≤ k := by omega
        have c2 : (nI k).toNatClampNeg = k := jCl (by omega)
        have e3 := hX.2 k (by omega)
        have g3 := getD_tx hl (show k < l.length by omega)
        rw [if_neg q]
        simp (disch := omega) only [x3, c2, if_false, e3]
        exact fin _ (by omega) rfl
theorem fm_named_l (ht : Tr.ok w t) (hM : MTr τ w t) (hN : MNm τ t) (hl : isTx l) (hX : MTx τ l) : ∀ (d x : Nat) (a : Option Nat) (f : Nat), x + d = t.N → d < f → fm_named_4 f τ (oI a) (nI x) = some (oI (((List.range' x d).find? fun n => decide (t.lb n = l ∧ l ≠ [])).or a), τ) := by
  have h80 := ht.1.1
  have h30 := hl.1
  intro d
  induction d with
  | zero =>
    intro x a f hx hf
    obtain ⟨f, rfl⟩ : ∃ k, f = k + 1 := ⟨f - 1, by omega⟩
    have x1 : t.N ≤ x := by omega
    rw [fm_named_4, hM.1.1]
    simp (disch := omega) only [jLe, x1, if_true]
    rfl
  | succ d ih =>
    intro x a f hx hf
    obtain ⟨f, rfl⟩ : ∃ k, f = k + 1 := ⟨f - 1, by omega⟩
    have x1 : ¬ t.N ≤ x := by omega
    have hx0 : x < t.N := by omega
    have lbx := (ht.2.2.1 x hx0).2.2
    have step : ∀ b : Bool, b = decide (t.lb x = l ∧ l ≠ []) → fm_named_107 (fm_named_4 f) τ (oI a) (nI x) (bI b) = some (oI (((List.range' x (d + 1)).find? fun n => decide (t.lb n = l ∧ l ≠ [])).or a), τ) := by
      intro b hb
      rw [hb, List.range'_succ]
      unfold fm_named_107 fm_named_116
      have i1 := ih (x + 1) (some x) f (by omega) (by omega)
      rw [show oI (some x) = nI x from rfl] at i1
      rw [n1, jAdd, i1, ih (x + 1) a f (by omega) (by omega), bI_if]
      by_cases q : t.lb x = l ∧ l ≠ []
      · have hnone : (List.range' (x + 1) d).find? (fun n => decide (t.lb n = l ∧ l ≠ [])) = none := by
          rw [List.find?_eq_none]
          intro y hy
          rw [List.mem_range'_1] at hy
          intro hz
          have hz := of_decide_eq_true hz
          have := ht.2.2.2 x y (by omega) (by omega) (q.1.trans hz.1.symm) (by rw [q.1]; exact q.2)
          omega
        rw [if_pos (decide_eq_true q), hnone, List.find?_cons]
        simp only [decide_eq_true q]
        rfl
      · rw [if_neg (by rw [decide_eq_true_iff]; exact q), List.find?_cons]
        simp only [decide_eq_false q]
    have no : ¬ (t.lb x = l ∧ l ≠ []) → fm_named_44 (fm_named_4 f) τ (oI a) (nI x) = some (oI (((List.range' x (d + 1)).find? fun n => decide (t.lb n = l ∧ l ≠ [])).or a), τ) := by
      intro h
      have := step false (decide_eq_false h).symm
      unfold fm_named_44 fm_named_45
      rw [show (3000 : Nat) = 2999 + 1 from rfl, fm_named_49, if_neg (by decide), if_pos rfl]
      exact this
    rw [fm_named_4, hM.1.1, hX.1, if_neg (by rw [jLe (by omega) (by omega)]; omega)]
    by_cases q1 : l.length = 0
    · rw [if_pos (show nI l.length ≤ 0 by rw [q1]; decide)]
      exact no (fun h => h.2 (List.eq_nil_of_length_eq_zero q1))
    · rw [if_neg (show ¬ nI l.length ≤ 0 by rw [n0, jLe (by omega) (by omega)]; omega)]
      by_cases q2 : 8 < l.length
      · rw [if_pos (by rw [show ((8 : Int32) = nI 8) from rfl, jLt (by omega) (by omega)]; exact q2)]
        exact no (fun h => by have := lbx.1; rw [h.1] at this; omega)
      · have x2 : ¬ 640 ≤ 8 * x := by omega
        have c1 : (nI (8 * x)).toNatClampNeg = 8 * x := jCl (by omega)
        rw [if_neg (by rw [show ((8 : Int32) = nI 8) from rfl, jLt (by omega) (by omega)]; exact q2)]
        simp (disch := omega) only [show ((8 : Int32) = nI 8) from rfl, n0, jMul, jLt, x2, c1, Nat.not_lt_zero, false_or, if_false]
        by_cases q3 : t.lb x = []
        · rw [(hN x hx0).1 q3, if_pos rfl]
          exact no (fun h => h.2 (h.1.symm.trans q3))
        · have e := (hN x hx0).2 q3 0 (by omega)
          have g : (t.lb x).getD 0 0 ≠ 0 := by
            have : 0 < (t.lb x).length := Nat.pos_of_ne_zero fun h => q3 (List.eq_nil_of_length_eq_zero h)
            rw [gD this]
            have := lbx.2 _ (List.getElem_mem this)
            omega
          have g2 := getD_lb lbx 0
          rw [Nat.add_zero] at e
          rw [e, if_neg (fun h => g ((jEq (by omega) (by omega)).mp h))]
          unfold fm_named_45
          have i := fm_named_i ht hN hl hX hx0 q3 (F := oI a) (K := fm_named_4 f) 8 0 true 3000 (by omega) (by omega)
          rw [show bI true = nI 1 from rfl] at i
          rw [n1, n0, i]
          refine step _ ?_
          rw [Bool.true_and, Bool.eq_iff_iff, decide_eq_true_iff, row_ext lbx.1 (by omega) (fun c hc => by have := lbx.2 c hc; omega) (fun c hc => by have := hl.2 c hc; omega)]
          exact ⟨fun h => ⟨h, fun z => q3 (h.trans z)⟩, fun h => h.1⟩
theorem fm_named_s (ht : Tr.ok w t) (hM : MTr τ w t) (hN : MNm τ t) (hl : isTx l) (hX : MTx τ l) : fm_named τ = some (oI (sNamed t l), τ) := by
  have h := fm_named_l ht hM hN hl hX t.N 0 none 3000 (by omega) (by have := ht.1.1; omega)
  rw [Option.or_none] at h
  exact h
theorem fc_nodeLabelled_l (ht : Tr.ok w t) (hC : CTr σ t) (hl : isTx l) : ∀ (d x f : Nat), x + d = t.N → d < f → fc_X8_nodeLabelled_2 f σ (sP8 l) (nI x) = some (oI ((List.range' x d).find? fun n => decide (t.lb n = l ∧ l ≠ [])), σ) := by
  have h80 := ht.1.1
  intro d
  induction d with
  | zero =>
    intro x f hx hf
    obtain ⟨f, rfl⟩ : ∃ k, f = k + 1 := ⟨f - 1, by omega⟩
    have x1 : t.N ≤ x := by omega
    rw [fc_X8_nodeLabelled_2, hC.1.2.1.size, Option.bind_some]
    simp (disch := omega) only [jLe, x1, if_true]
    rfl
  | succ d ih =>
    intro x f hx hf
    obtain ⟨f, rfl⟩ : ∃ k, f = k + 1 := ⟨f - 1, by omega⟩
    have x1 : ¬ t.N ≤ x := by omega
    have hx0 : x < t.N := by omega
    have lbx := (ht.2.2.1 x hx0).2.2
    obtain ⟨-, -, -, -, e5, -⟩ := hC.2.1 x hx0
    have l1 := hC.lv hx0
    rw [fc_X8_nodeLabelled_2, hC.1.2.1.size, Option.bind_some, List.range'_succ, List.find?_cons]
    unfold fc_X8_nodeLabelled_40
    simp (disch := omega) only [n1, jLe, x1, if_false, hC.1.2.1.get hx0 (show t.N < 100000 by omega), Option.bind_some, l1, hC.dn hx0, e5, lg0, jAdd]
    rw [ih (x + 1) f (by omega) (by omega)]
    by_cases q0 : sP8 l = 0
    · rw [if_pos q0]
      have r := (sP8_0 hl.2).mp q0
      rw [decide_eq_false]
      intro h
      rw [← h.1] at r
      refine absurd (decide_eq_true (p := t.lb x ≠ [] ∧ (t.lb x).length ≤ 8 ∧ ∀ c ∈ t.lb x, c ≠ 32) ⟨by rw [h.1]; exact h.2, lbx.1, fun c hc => by have := lbx.2 c hc; omega⟩) ?_
      unfold sRow at r
      rw [r]
      exact Bool.false_ne_true
    · rw [if_neg q0]
      have e : (pack (t.lb x) = sP8 l) = (t.lb x = l ∧ l ≠ []) := by
        refine propext ?_
        by_cases q3 : t.lb x = []
        · rw [q3]
          exact iff_of_false (fun h => q0 h.symm) (fun h => h.2 h.1.symm)
        · rw [sP8_eq lbx q3 hl.2]
          exact ⟨fun h => ⟨h, fun z => q3 (h.trans z)⟩, fun h => h.1⟩
      simp only [e]
      by_cases q : t.lb x = l ∧ l ≠ []
      · rw [if_pos q, decide_eq_true q]
        rfl
      · rw [if_neg q, decide_eq_false q]
theorem fc_nodeLabelled_s (ht : Tr.ok w t) (hC : CTr σ t) (hl : isTx l) : fc_X8_nodeLabelled σ (sP8 l) = some (oI (sNamed t l), σ) :=
  fc_nodeLabelled_l ht hC hl t.N 0 3000 (by omega) (by have := ht.1.1; omega)
def lbP (t : Tr) (n : Nat) : Bool := decide (t.lb n ≠ [])
theorem fc_labelCount_l (ht : Tr.ok w t) (hC : CTr σ t) : ∀ (d x a f : Nat), x + d = t.N → d < f → fc_X8_labelCount_4 f σ (nI a) (nI x) = some (nI (a + sCnt (lbP t) x d), σ) := by
  have h80 := ht.1.1
  intro d
  induction d with
  | zero =>
    intro x a f hx hf
    obtain ⟨f, rfl⟩ : ∃ k, f = k + 1 := ⟨f - 1, by omega⟩
    have x1 : t.N ≤ x := by omega
    rw [fc_X8_labelCount_4, hC.1.2.1.size, Option.bind_some]
    simp (disch := omega) only [jLe, x1, if_true]
    rfl
  | succ d ih =>
    intro x a f hx hf
    obtain ⟨f, rfl⟩ : ∃ k, f = k + 1 := ⟨f - 1, by omega⟩
    have x1 : ¬ t.N ≤ x := by omega
    have hx0 : x < t.N := by omega
    obtain ⟨-, -, -, -, e5, -⟩ := hC.2.1 x hx0
    have l1 := hC.lv hx0
    have e : (pack (t.lb x) = 0) = (t.lb x = []) := propext (pack_inj (ht.2.2.1 x hx0).2.2 isLb_nil)
    rw [fc_X8_labelCount_4, hC.1.2.1.size, Option.bind_some, sCnt_s]
    unfold fc_X8_labelCount_37
    simp (disch := omega) only [n1, jLe, x1, if_false, hC.1.2.1.get hx0 (show t.N < 100000 by omega), Option.bind_some, l1, hC.dn hx0, e5, lg0, e, jAdd]
    rw [ih (x + 1) a f (by omega) (by omega), ih (x + 1) (a + 1) f (by omega) (by omega)]
    unfold lbP
    by_cases q : t.lb x = [] <;> simp [q, Nat.add_assoc]
def sLbs (t : Tr) : Nat := sCnt (lbP t) 0 t.N
theorem fc_labelCount_s (ht : Tr.ok w t) (hC : CTr σ t) : fc_X8_labelCount σ = some (nI (sLbs t), σ) := by
  have h := fc_labelCount_l ht hC t.N 0 0 3000 (by omega) (by have := ht.1.1; omega)
  rw [Nat.zero_add] at h
  exact h
def sFst (t : Tr) (k n : Nat) (a : Option Nat) : Option Nat := (sPath t n).foldl (fun a m => if sHas (t.sh m) k = true then some m else a) a
theorem sFst_s (ht : Tr.ok w t) {n : Nat} (hn : n < t.N) (k : Nat) (a : Option Nat) : sFst t k n a = if n = 0 then (if sHas (t.sh n) k = true then some n else a) else sFst t k (t.par n) (if sHas (t.sh n) k = true then some n else a) := by
  unfold sFst
  rw [sPath_s ht hn, List.foldl_cons]
  by_cases q : n = 0
  · rw [if_pos q, if_pos q]; rfl
  · rw [if_neg q, if_neg q]
theorem fc_firstToShow_l (ht : Tr.ok w t) (hC : CTr σ t) {k : Nat} (hk : k < 40) : ∀ (n : Nat) (a : Option Nat) (f : Nat), n < t.N → n + 1 < f → fc_X2_firstToShow_4 f σ (nI k) (oI a) (some n) = some (oI (sFst t k n a), σ) := by
  have h80 := ht.1.1
  intro n
  induction n using Nat.strongRecOn with
  | _ n ih =>
    intro a f hN hf
    obtain ⟨f, rfl⟩ : ∃ k, f = k + 1 := ⟨f - 1, by omega⟩
    obtain ⟨e0, e1, -, e2, -⟩ := hC.2.1 n hN
    have go : ∀ b : Option Nat, fc_X2_firstToShow_24 (fc_X2_firstToShow_4 f) σ (nI k) (oI b) (some n) = some (oI (if n = 0 then b else sFst t k (t.par n) b), σ) := by
      intro b
      unfold fc_X2_firstToShow_24
      rw [hC.dn hN, Option.bind_some, e1]
      by_cases q : n = 0
      · obtain ⟨f, rfl⟩ : ∃ k, f = k + 1 := ⟨f - 1, by omega⟩
        rw [if_pos q, if_pos q, fc_X2_firstToShow_4]
        exact if_pos rfl
      · have := ht.2.1 n (by omega) hN
        rw [if_neg q, if_neg q]
        exact ih _ this _ _ (by omega) (by omega)
    rw [fc_X2_firstToShow_4, if_neg (fun h => by cases h), hC.dn hN, Option.bind_some, e2, fc_includes_s hk, Option.bind_some, bI_if]
    simp only [hC.dn hN, Option.bind_some, e0]
    rw [go a, show nI n = oI (some n) from rfl, go (some n), sFst_s ht hN]
    cases sHas (t.sh n) k <;> rfl
theorem fc_firstToShow_s (ht : Tr.ok w t) (hC : CTr σ t) {k n : Nat} (hk : k < 40) (hn : n < t.N) : fc_X2_firstToShow σ (some n) (nI k) = some (oI (sFst t k n none), σ) :=
  fc_firstToShow_l ht hC hk n none 3000 hn (by have := ht.1.1; omega)
theorem fm_learnt_l (ht : Tr.ok w t) (hM : MTr τ w t) {k : Nat} (hk : k < 64) : ∀ (n : Nat) (a : Nat) (f : Nat), n < t.N → n + 1 < f → fm_learnt_47 f τ (nI k) (nI a) (nI n) = some (oI (sFst t k n (some a)), τ) := by
  have h80 := ht.1.1
  intro n
  induction n using Nat.strongRecOn with
  | _ n ih =>
    intro a f hN hf
    obtain ⟨f, rfl⟩ : ∃ k, f = k + 1 := ⟨f - 1, by omega⟩
    have x1 : ¬ 80 ≤ n := by omega
    have c1 : (nI n).toNatClampNeg = n := jCl (by omega)
    obtain ⟨e1, e2, -⟩ := hM.2 n hN
    have go : ∀ b : Nat, fm_learnt_70 (fm_learnt_47 f) τ (nI k) (nI n) (nI b) = some (oI (if n = 0 then some b else sFst t k (t.par n) (some b)), τ) := by
      intro b
      unfold fm_learnt_70
      simp (disch := omega) only [n0, jLt, x1, c1, Nat.not_lt_zero, false_or, if_false, e1]
      by_cases q : n = 0
      · obtain ⟨f, rfl⟩ : ∃ k, f = k + 1 := ⟨f - 1, by omega⟩
        rw [if_pos q, if_pos q, fm_learnt_47]
        exact if_pos rfl
      · have := ht.2.1 n (by omega) hN
        rw [if_neg q, if_neg q]
        exact ih _ this _ _ (by omega) (by omega)
    rw [fm_learnt_47]
    simp (disch := omega) only [n0, show ((-1 : Int32) = -nI 1) from rfl, jM1, jLt, x1, c1, Nat.not_lt_zero, false_or, if_false, e2]
    rw [fm_has_s hk, Option.bind_some, go a, go n, sFst_s ht hN]
    cases sHas (t.sh n) k <;> rfl
/-- a known word was learnt somewhere -/
theorem sFst_mem (k : Nat) : ∀ (l : List Nat) (a : Option Nat), (∃ m ∈ l, sHas (t.sh m) k = true) → l.foldl (fun a m => if sHas (t.sh m) k = true then some m else a) a = l.foldl (fun a m => if sHas (t.sh m) k = true then some m else a) none ∧ (l.foldl (fun a m => if sHas (t.sh m) k = true then some m else a) a).isSome = true := by
  intro l
  induction l with
  | nil => intro a h; obtain ⟨m, h, -⟩ := h; cases h
  | cons x l ih =>
    intro a h
    rw [List.foldl_cons, List.foldl_cons]
    by_cases q : ∃ m ∈ l, sHas (t.sh m) k = true
    · obtain ⟨h1, h2⟩ := ih (if sHas (t.sh x) k = true then some x else a) q
      obtain ⟨h3, -⟩ := ih (if sHas (t.sh x) k = true then some x else none) q
      exact ⟨h1.trans h3.symm, h2⟩
    · obtain ⟨m, hm, hs⟩ := h
      have hx : sHas (t.sh x) k = true := by
        rcases List.mem_cons.mp hm with rfl | hm
        · exact hs
        · exact absurd ⟨m, hm, hs⟩ q
      have hl : ∀ (l : List Nat) (a : Option Nat), (∀ m ∈ l, ¬ sHas (t.sh m) k = true) → l.foldl (fun a m => if sHas (t.sh m) k = true then some m else a) a = a := by
        intro l
        induction l with
        | nil => intro a _; rfl
        | cons y l ih2 =>
          intro a h
          rw [List.foldl_cons, if_neg (h y List.mem_cons_self), ih2 a (fun m hm => h m (List.mem_cons_of_mem _ hm))]
      rw [if_pos hx, if_pos hx, hl l (some x) (fun m hm hs => q ⟨m, hm, hs⟩)]
      exact ⟨rfl, rfl⟩
theorem sKn_has (t : Tr) (n k : Nat) : sHas (sKn t n) k = true ↔ ∃ m ∈ sPath t n, sHas (t.sh m) k = true := by
  have g : ∀ (l : List Nat) (a : Int64), sHas (l.foldl (fun a m => a ||| t.sh m) a) k = true ↔ sHas a k = true ∨ ∃ m ∈ l, sHas (t.sh m) k = true := by
    intro l
    induction l with
    | nil => intro a; simp
    | cons x l ih =>
      intro a
      rw [List.foldl_cons, ih, sHas_or, Bool.or_eq_true]
      simp [or_assoc]
  unfold sKn
  rw [g]
  have : ¬ sHas 0 k = true := by
    show ¬ (0 : Nat).testBit k = true
    rw [Nat.zero_testBit]
    exact Bool.false_ne_true
  simp [this]
end SD
