/-! The child by a command: both sides. -/
def kdQ (v : Nat) : Nat := if v < 12 then 0 else v - 11
def cmQ (w : Wd) (q : Cm) : Prop := tyQ w q ∨ ∃ v h, 12 ≤ v ∧ v ≤ 14 ∧ h < 1000 ∧ q = (v, some h, none)
def MCm (τ : mS) (w : Wd) (n : Nat) (q : Cm) : Prop := τ.2.2.1 28 n = nI (kdQ q.1) ∧ τ.2.2.1 29 n = (if q.1 < 12 then nI 0 else oI q.2.1) ∧ (q.1 < 12 → τ.2.2.1 27 n = nI (sText w q).length ∧ (sText w q).length ≤ 30 ∧ (∀ c ∈ sText w q, c < 1000) ∧ ∀ k, k < (sText w q).length → τ.2.2.1 26 (30 * n + k) = nI ((sText w q).getD k 0))
def MCs (τ : mS) (w : Wd) (t : Tr) : Prop := ∀ n, 0 < n → n < t.N → cmQ w (t.cm n) ∧ MCm τ w n (t.cm n)
theorem tyQ_lt {w : Wd} {q : Cm} (h : tyQ w q) : q.1 < 12 := by
  rcases h with ⟨d, hd, rfl⟩ | rfl | rfl | ⟨v, k, h1, h2, hk, rfl⟩ | ⟨a, b, ha, hb, rfl⟩
  · show 1 < 12; omega
  · show 10 < 12; omega
  · show 11 < 12; omega
  · show v < 12; omega
  · show 9 < 12; omega
section G17
variable {l : List Nat} {σ : cS} {τ : mS} {w : Wd} {t : Tr}
theorem fm_isLike_i (hl : isTx l) (hX : MTx τ l) {n : Nat} {m : List Nat} (hn : n < 80) (hm : m.length = l.length) (hml : ∀ c ∈ m, c < 1000) (he : ∀ k, k < m.length → τ.2.2.1 26 (30 * n + k) = nI (m.getD k 0)) : ∀ (d k : Nat) (b : Bool) (f : Nat), k + d = l.length → d < f → fm_isLike_62 f τ (nI n) (bI b) (nI k) = some (bI (b && eqF (fun j => m.getD j 0) (fun j => l.getD j 0) k d), τ) := by
  have h30 := hl.1
  intro d
  induction d with
  | zero =>
    intro k b f hk hf
    obtain ⟨f, rfl⟩ : ∃ k, f = k + 1 := ⟨f - 1, by omega⟩
    rw [fm_isLike_62, hX.1, if_pos (by rw [jLe (by omega) (by omega)]; omega)]
    unfold fm_isLike_111
    rw [n1, bI_z, if_pos rfl]
    show _ = some (bI (b && true), τ)
    rw [Bool.and_true]
  | succ d ih =>
    intro k b f hk hf
    obtain ⟨f, rfl⟩ : ∃ k, f = k + 1 := ⟨f - 1, by omega⟩
    have x1 : ¬ l.length ≤ k := by omega
    have x2 : ¬ 2400 ≤ 30 * n + k := by omega
    have x3 : ¬ 30 ≤ k := by omega
    have c1 : (nI (30 * n + k)).toNatClampNeg = 30 * n + k := jCl (by omega)
    have c2 : (nI k).toNatClampNeg = k := jCl (by omega)
    have e1 := he k (by omega)
    have e2 := hX.2 k (by omega)
    have g := getD_tx hl (show k < l.length by omega)
    have g2 : m.getD k 0 < 1000 := by
      rw [gD (show k < m.length by omega)]
      exact hml _ (List.getElem_mem _)
    rw [fm_isLike_62, hX.1, if_neg (by rw [jLe (by omega) (by omega)]; omega)]
    cases b with
    | false =>
      rw [if_pos (show bI false = 0 from rfl), Bool.false_and]
      rfl
    | true =>
      rw [if_neg (show ¬ bI true = 0 by decide), eqF_s]
      unfold fm_isLike_103
      simp (disch := omega) only [show ((30 : Int32) = nI 30) from rfl, n0, n1, jMul, jAdd, jLt, jEq, x2, x3, c1, c2, e1, e2, Nat.not_lt_zero, false_or, if_false]
      have i1 := ih (k + 1) true f (by omega) (by omega)
      have i2 := ih (k + 1) false f (by omega) (by omega)
      rw [show bI true = nI 1 from rfl] at i1
      rw [show bI false = nI 0 from rfl] at i2
      rw [i1, i2]
      by_cases q : m.getD k 0 = l.getD k 0
      · rw [if_pos q, decide_eq_true q]
        rfl
      · rw [if_neg q, decide_eq_false q]
        rfl
theorem eqF_all {m : List Nat} (h : m.length = l.length) : eqF (fun j => m.getD j 0) (fun j => l.getD j 0) 0 l.length = decide (m = l) := by
  rw [Bool.eq_iff_iff, decide_eq_true_iff, eqF_iff]
  constructor
  · intro g
    refine List.ext_getElem h fun k h1 h2 => ?_
    have := g k (Nat.zero_le _) (by omega)
    rw [← gD h1, ← gD h2]
    exact this
  · intro g k _ _
    rw [g]
theorem fm_isLike_said (hl : isTx l) (hX : MTx τ l) {n : Nat} {q : Cm} (hn : n < 80) (hq : cmQ w q) (hC : MCm τ w n q) : fm_isLike τ (nI n) 0 0 = some (bI (decide (q.1 < 12 ∧ sText w q = l)), τ) := by
  have h30 := hl.1
  have x1 : ¬ 80 ≤ n := by omega
  have c1 : (nI n).toNatClampNeg = n := jCl (by omega)
  obtain ⟨e1, e2, e3⟩ := hC
  have y : (nI n < (0 : Int32) ∨ False) = False := by
    rw [n0, jLt (by omega) (by omega)]
    simp
  unfold fm_isLike fm_isLike_24 fm_isLike_25 fm_isLike_36 fm_isLike_57
  simp only [c1, x1, y, if_false, e1, e2]
  by_cases q12 : q.1 < 12
  · obtain ⟨e4, e5, e6, e7⟩ := e3 q12
    have k0 : kdQ q.1 = 0 := if_pos q12
    rw [k0, if_pos (show nI 0 = 0 from rfl), if_pos q12, if_pos (show nI 0 = 0 from rfl), if_pos trivial, if_neg (by decide), e4, hX.1]
    by_cases ql : (sText w q).length = l.length
    · rw [if_pos (by rw [ql])]
      have i := fm_isLike_i hl hX hn ql e6 e7 l.length 0 true 3000 (by omega) (by omega)
      rw [eqF_all ql, Bool.true_and] at i
      have e : decide (q.1 < 12 ∧ sText w q = l) = decide (sText w q = l) := decide_eq_decide.mpr ⟨fun h => h.2, fun h => ⟨q12, h⟩⟩
      rw [e]
      exact i
    · rw [if_neg (fun h => ql ((jEq (by omega) (by omega)).mp h))]
      have e : decide (q.1 < 12 ∧ sText w q = l) = false := decide_eq_false (fun h => ql (by rw [h.2]))
      rw [e, show (3000 : Nat) = 2999 + 1 from rfl, fm_isLike_62]
      by_cases z : τ.1 2 ≤ 0
      · rw [if_pos z]; rfl
      · rw [if_neg z, if_pos rfl]; rfl
  · have e : decide (q.1 < 12 ∧ sText w q = l) = false := decide_eq_false (fun h => q12 h.1)
    have k1 : ¬ nI (kdQ q.1) = 0 := by
      rcases hq with h | ⟨v, h, h1, h2, h3, rfl⟩
      · exact absurd (tyQ_lt h) q12
      · have : kdQ v = v - 11 := if_neg (by omega)
        show ¬ nI (kdQ v) = nI 0
        rw [this, jEq (by omega) (by omega)]
        omega
    rw [e, if_neg k1, if_pos trivial, if_pos trivial]
    rfl
theorem fm_isLike_sp {n v h : Nat} {q : Cm} (hn : n < 80) (hq : cmQ w q) (hC : MCm τ w n q) (h1 : 12 ≤ v) (h2 : v ≤ 14) (hh : h < 1000) : fm_isLike τ (nI n) (nI (v - 11)) (nI h) = some (bI (decide (q = (v, some h, none))), τ) := by
  have x1 : ¬ 80 ≤ n := by omega
  have c1 : (nI n).toNatClampNeg = n := jCl (by omega)
  obtain ⟨e1, e2, e3⟩ := hC
  have y : (nI n < (0 : Int32) ∨ False) = False := by
    rw [n0, jLt (by omega) (by omega)]
    simp
  have z0 : ¬ nI (v - 11) = 0 := by
    rw [n0, jEq (by omega) (by omega)]
    omega
  unfold fm_isLike fm_isLike_24 fm_isLike_25 fm_isLike_36
  simp only [c1, x1, y, if_false, e1, e2, z0]
  rcases hq with hq | ⟨v', h', g1, g2, g3, rfl⟩
  · have q12 := tyQ_lt hq
    have k0 : kdQ q.1 = 0 := if_pos q12
    have e : decide (q = (v, some h, none)) = false := decide_eq_false (fun z => by rw [z] at q12; exact absurd q12 (by show ¬ v < 12; omega))
    rw [k0, if_neg (fun z => z0 z.symm), e]
    rfl
  · have k1 : kdQ v' = v' - 11 := if_neg (by omega)
    show (if nI (kdQ v') = nI (v - 11) then (if (if v' < 12 then nI 0 else oI (some h')) = nI h then _ else _) else _) = _
    rw [k1, if_neg (show ¬ v' < 12 by omega)]
    by_cases q1 : v' = v
    · rw [if_pos (by rw [q1])]
      by_cases q2 : h' = h
      · rw [if_pos (show oI (some h') = nI h by rw [q2]; rfl), q1, q2, decide_eq_true rfl]
        rfl
      · rw [if_neg (show ¬ oI (some h') = nI h from fun z => q2 ((jEq (by omega) (by omega)).mp z)), decide_eq_false (fun z => q2 (by cases z; rfl))]
        rfl
    · rw [if_neg (fun z => q1 (by have := (jEq (by omega) (by omega)).mp z; omega)), decide_eq_false (fun z => q1 (by cases z; rfl))]
      rfl
def sChd (t : Tr) (q : Cm) : Option Nat := (List.range' 1 (t.N - 1)).find? fun n => decide (t.par n = t.now ∧ t.cm n = q)
theorem fm_childBy_l (ht : Tr.ok w t) (hM : MTr τ w t) {how num : Int32} {q : Cm} (hh : ¬ how = 1) (hk : ∀ n, 0 < n → n < t.N → fm_isLike τ (nI n) how num = some (bI (decide (t.cm n = q)), τ)) : ∀ (x : Nat) (a : Option Nat) (f : Nat), x < t.N → x < f → fm_childBy_10 f τ how num (oI a) (nI x) = some (oI (((List.range' 1 x).find? fun n => decide (t.par n = t.now ∧ t.cm n = q)).or a), τ) := by
  have h80 := ht.1.1
  intro x
  induction x with
  | zero =>
    intro a f hx hf
    obtain ⟨f, rfl⟩ : ∃ k, f = k + 1 := ⟨f - 1, by omega⟩
    rw [fm_childBy_10, if_pos (by decide)]
    rfl
  | succ x ih =>
    intro a f hx hf
    obtain ⟨f, rfl⟩ : ∃ k, f = k + 1 := ⟨f - 1, by omega⟩
    have x1 : ¬ 80 ≤ x + 1 := by omega
    have c1 : (nI (x + 1)).toNatClampNeg = x + 1 := jCl (by omega)
    have hn := ht.1.2.1 (by omega)
    obtain ⟨e1, -, -⟩ := hM.2 (x + 1) hx
    have hp := ht.2.1 (x + 1) (by omega) hx
    have hi := hk (x + 1) (by omega) hx
    have er : List.range' 1 (x + 1) = List.range' 1 x ++ [x + 1] := by
      rw [List.range'_1_concat, Nat.add_comm 1 x]
    have dec : nI (x + 1) + (-1 : Int32) = nI x := jDec (a := x + 1) (by omega)
    have y : (nI (x + 1) < (0 : Int32) ∨ False) = False := by
      rw [n0, jLt (by omega) (by omega)]
      simp
    rw [fm_childBy_10, if_neg (show ¬ nI (x + 1) ≤ 0 by rw [n0, jLe (by omega) (by omega)]; omega), hM.1.2.1]
    unfold fm_childBy_50 fm_childBy_51
    simp only [c1, x1, y, if_false, e1, hi, Option.bind_some, hh, dec, if_neg (show ¬ x + 1 = 0 by omega)]
    have i1 := ih a f (by omega) (by omega)
    have i2 := ih (some (x + 1)) f (by omega) (by omega)
    rw [show oI (some (x + 1)) = nI (x + 1) from rfl] at i2
    rw [i1, i2, er, List.find?_append, List.find?_cons, List.find?_nil]
    by_cases q1 : t.par (x + 1) = t.now
    · rw [if_pos (by rw [q1]), bI_if]
      by_cases q2 : t.cm (x + 1) = q
      · rw [if_pos (decide_eq_true q2), decide_eq_true ⟨q1, q2⟩]
        cases (List.range' 1 x).find? fun n => decide (t.par n = t.now ∧ t.cm n = q) <;> rfl
      · rw [if_neg (by rw [decide_eq_true_iff]; exact q2), decide_eq_false (fun z => q2 z.2), Option.or_none]
    · rw [if_neg (fun z => q1 ((jEq (by omega) (by omega)).mp z)), decide_eq_false (fun z => q1 z.1), Option.or_none]
theorem fm_childBy_s (ht : Tr.ok w t) (hM : MTr τ w t) (h0 : 0 < t.N) {how num : Int32} {q : Cm} (hh : ¬ how = 1) (hk : ∀ n, 0 < n → n < t.N → fm_isLike τ (nI n) how num = some (bI (decide (t.cm n = q)), τ)) : fm_childBy τ how num = some (oI (sChd t q), τ) := by
  have h80 := ht.1.1
  have h := fm_childBy_l ht hM hh hk (t.N - 1) none 3000 (by omega) (by omega)
  rw [Option.or_none] at h
  unfold fm_childBy
  rw [hM.1.1, n1, jSub (by omega)]
  exact h
theorem fm_child_said (hw : Wd.ok w) (ht : Tr.ok w t) (hM : MTr τ w t) (h0 : 0 < t.N) (hl : isTx l) (hX : MTx τ l) (hC : MCs τ w t) {q : Cm} (hq : tyQ w q) (e : sText w q = l) : fm_childBy τ 0 0 = some (oI (sChd t q), τ) := by
  refine fm_childBy_s ht hM h0 (by decide) fun n hn0 hn => ?_
  obtain ⟨g1, g2⟩ := hC n hn0 hn
  rw [fm_isLike_said hl hX (by have := ht.1.1; omega) g1 g2]
  congr 3
  rw [decide_eq_decide]
  constructor
  · rintro ⟨h1, h2⟩
    rcases g1 with g1 | ⟨v, h, a1, -, -, e2⟩
    · exact sText_inj hw g1 hq (h2.trans e.symm)
    · rw [e2] at h1
      exact absurd h1 (by show ¬ v < 12; omega)
  · intro h
    rw [h]
    exact ⟨tyQ_lt hq, e⟩
theorem fm_child_sp (ht : Tr.ok w t) (hM : MTr τ w t) (h0 : 0 < t.N) (hC : MCs τ w t) {v h : Nat} (h1 : 13 ≤ v) (h2 : v ≤ 14) (hh : h < 1000) : fm_childBy τ (nI (v - 11)) (nI h) = some (oI (sChd t (v, some h, none)), τ) := by
  refine fm_childBy_s ht hM h0 (show ¬ nI (v - 11) = nI 1 by rw [jEq (by omega) (by omega)]; omega) fun n hn0 hn => ?_
  obtain ⟨g1, g2⟩ := hC n hn0 hn
  exact fm_isLike_sp (by have := ht.1.1; omega) g1 g2 (by omega) h2 hh
theorem fc_isSame_s {c d : Nat} {q r : Cm} (hc : RCm σ c q) (hd : RCm σ d r) (h18 : 15 ≤ cn σ 18) (lq : q.1 < 15) (lr : r.1 < 15) (bq : ∀ b, q.2.1 = some b → b < 1000) (br : ∀ b, r.2.1 = some b → b < 1000) (bq2 : ∀ b, q.2.2 = some b → b < 1000) (br2 : ∀ b, r.2.2 = some b → b < 1000) : fc_X1_isSame σ (some c) (some d) = some (bI (decide (q = r)), σ) := by
  have oin : ∀ {x y : Option Nat}, (∀ b, x = some b → b < 1000) → (∀ b, y = some b → b < 1000) → (oI x = oI y ↔ x = y) := by
    intro x y hx hy
    cases x with
    | none =>
      cases y with
      | none => exact iff_of_true rfl rfl
      | some b => exact iff_of_false (fun h => (jM1 (a := b) (by have := hy b rfl; omega)).mp h.symm) (fun h => by cases h)
    | some a =>
      cases y with
      | none => exact iff_of_false (fun h => (jM1 (a := a) (by have := hx a rfl; omega)).mp h) (fun h => by cases h)
      | some b =>
        refine (jEq (by have := hx a rfl; omega) (by have := hy b rfl; omega)).trans ⟨fun h => by rw [h], fun h => Option.some.inj h⟩
  have lv : ∀ {v : Nat}, v < 15 → ((¬ lvv (some v) = true) ↔ False) := fun h => iff_false_intro fun z => z (decide_eq_true h)
  obtain ⟨c1, c2, c3, c4⟩ := hc
  obtain ⟨d1, d2, d3, d4⟩ := hd
  unfold fc_X1_isSame fc_X1_isSame_37 fc_X1_isSame_38
  rw [dr_mk c1, Option.bind_some, dr_mk d1, Option.bind_some]
  simp only [c2, d2, c3, d3, c4, d4, lv lq, lv lr, if_false, Option.some.injEq, oin bq br, oin bq2 br2]
  by_cases a1 : q.1 = r.1
  · rw [if_pos a1]
    by_cases a2 : q.2.1 = r.2.1
    · rw [if_pos a2]
      by_cases a3 : q.2.2 = r.2.2
      · rw [if_pos a3, decide_eq_true (Prod.ext a1 (Prod.ext a2 a3))]
        rfl
      · rw [if_neg a3, decide_eq_false (fun h => a3 (by rw [h]))]
        rfl
    · rw [if_neg a2, decide_eq_false (fun h => a2 (by rw [h]))]
      rfl
  · rw [if_neg a1, decide_eq_false (fun h => a1 (by rw [h]))]
    rfl
theorem cmQ_b {w : Wd} (hw : Wd.ok w) {q : Cm} (h : cmQ w q) : q.1 < 15 ∧ (∀ b, q.2.1 = some b → b < 1000) ∧ ∀ b, q.2.2 = some b → b < 1000 := by
  have := hw.1.1
  rcases h with (⟨d, hd, rfl⟩ | rfl | rfl | ⟨v, k, h1, h2, hk, rfl⟩ | ⟨a, b, ha, hb, rfl⟩) | ⟨v, h, h1, h2, h3, rfl⟩
  · exact ⟨by show 1 < 15; omega, fun b hb => by have := Option.some.inj hb; omega, fun b hb => by cases hb⟩
  · exact ⟨by show 10 < 15; omega, (fun b hb => by cases hb), fun b hb => by cases hb⟩
  · exact ⟨by show 11 < 15; omega, (fun b hb => by cases hb), fun b hb => by cases hb⟩
  · exact ⟨by show v < 15; omega, fun b hb => by have := Option.some.inj hb; omega, fun b hb => by cases hb⟩
  · exact ⟨by show 9 < 15; omega, fun b hb => by have := Option.some.inj hb; omega, fun b hb => by have := Option.some.inj hb; omega⟩
  · exact ⟨by show v < 15; omega, fun b hb => by have := Option.some.inj hb; omega, fun b hb => by cases hb⟩
theorem fc_childBy_l (hw : Wd.ok w) (ht : Tr.ok w t) (hC : CTr σ t) (hQ : ∀ n, 0 < n → n < t.N → cmQ w (t.cm n)) (h18 : 15 ≤ cn σ 18) (h0 : 0 < t.N) {c : Nat} {q : Cm} (hc : RCm σ c q) (lq : q.1 < 15) (bq : ∀ b, q.2.1 = some b → b < 1000) (bq2 : ∀ b, q.2.2 = some b → b < 1000) : ∀ (d x f : Nat), 0 < x → x + d = t.N → d < f → fc_X8_childBy_12 f σ (some c) (some t.now) (nI x) = some (oI ((List.range' x d).find? fun n => decide (t.par n = t.now ∧ t.cm n = q)), σ) := by
  have h80 := ht.1.1
  have hn := ht.1.2.1 h0
  intro d
  induction d with
  | zero =>
    intro x f hx0 hx hf
    obtain ⟨f, rfl⟩ : ∃ k, f = k + 1 := ⟨f - 1, by omega⟩
    have x1 : t.N ≤ x := by omega
    rw [fc_X8_childBy_12, hC.1.2.1.size, Option.bind_some]
    simp (disch := omega) only [jLe, x1, if_true]
    rfl
  | succ d ih =>
    intro x f hx0 hx hf
    obtain ⟨f, rfl⟩ : ∃ k, f = k + 1 := ⟨f - 1, by omega⟩
    have x1 : ¬ t.N ≤ x := by omega
    have hxN : x < t.N := by omega
    obtain ⟨-, e1, -, -, -, -, k, e2, e3⟩ := hC.2.1 x hxN
    have hp := ht.2.1 x hx0 hxN
    obtain ⟨b1, b2, b3⟩ := cmQ_b hw (hQ x hx0 hxN)
    have is := fc_isSame_s e3 hc h18 b1 lq b2 bq b3 bq2
    have l1 := hC.lv hxN
    have l2 := hC.lv (show t.par x < t.N by omega)
    rw [fc_X8_childBy_12, hC.1.2.1.size, Option.bind_some, List.range'_succ, List.find?_cons]
    unfold fc_X8_childBy_59
    simp (disch := omega) only [n1, jLe, x1, if_false, hC.1.2.1.get hxN (show t.N < 100000 by omega), Option.bind_some, l1, l2, hC.dn hxN, e1, if_neg (show ¬ x = 0 by omega), hC.lv hn, Option.some.injEq, e2, dr_mk e3.1, is, bI_if, jAdd]
    rw [ih (x + 1) f (by omega) (by omega) (by omega)]
    by_cases q1 : t.par x = t.now
    · rw [if_pos q1]
      by_cases q2 : t.cm x = q
      · rw [if_pos (decide_eq_true q2), decide_eq_true ⟨q1, q2⟩]
        rfl
      · rw [if_neg (by rw [decide_eq_true_iff]; exact q2), decide_eq_false (fun z => q2 z.2)]
    · rw [if_neg q1, decide_eq_false (fun z => q1 z.1)]
theorem fc_childBy_s (hw : Wd.ok w) (ht : Tr.ok w t) (hC : CTr σ t) (hQ : ∀ n, 0 < n → n < t.N → cmQ w (t.cm n)) (h18 : 15 ≤ cn σ 18) (h0 : 0 < t.N) {c : Nat} {q : Cm} (hc : RCm σ c q) (lq : q.1 < 15) (bq : ∀ b, q.2.1 = some b → b < 1000) (bq2 : ∀ b, q.2.2 = some b → b < 1000) : fc_X8_childBy σ (some c) = some (oI (sChd t q), σ) := by
  have h80 := ht.1.1
  have hn := ht.1.2.1 h0
  unfold fc_X8_childBy
  rw [fc_current_s ht hC h0, Option.bind_some]
  simp only [hC.1.1, n1, jAdd]
  rw [fc_childBy_l hw ht hC hQ h18 h0 hc lq bq bq2 (t.N - (t.now + 1)) (t.now + 1) 3000 (by omega) (by omega) (by omega)]
  congr 3
  unfold sChd
  have e : List.range' 1 (t.N - 1) = List.range' 1 t.now ++ List.range' (1 + t.now) (t.N - (t.now + 1)) := by
    rw [List.range'_append_1, show t.now + (t.N - (t.now + 1)) = t.N - 1 by omega]
  have hnone : (List.range' 1 t.now).find? (fun n => decide (t.par n = t.now ∧ t.cm n = q)) = none := by
    rw [List.find?_eq_none]
    intro y hy
    rw [List.mem_range'_1] at hy
    have := ht.2.1 y (by omega) (by omega)
    rw [decide_eq_true_iff]
    intro z
    omega
  rw [e, List.find?_append, hnone, Option.none_or, Nat.add_comm 1 t.now]
end G17
