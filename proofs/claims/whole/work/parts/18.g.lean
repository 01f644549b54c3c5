/-! A typed command tried: the reference's side. -/
/-- whether a command's words are known -/
def sKnw (K : Int64) (q : Cm) : Bool := (if 2 ≤ q.1 ∧ q.1 ≤ 9 then (match q.2.1 with | some k => sHas K k | none => false) else true) && (if q.1 = 9 then (match q.2.2 with | some k => sHas K k | none => false) else true)
def oHas (K : Int64) (o : Option Nat) : Bool := match o with
  | some k => sHas K k
  | none => false
def thA (w : Wd) (K : Int64) (o : Option Nat) : Int32 := match o with
  | none => -nI 1
  | some k => if sHas K k = true then (match sThing w k with | none => -nI 2 | some x => nI x) else -nI 1
theorem MSt.uRm {τ : mS} {T : Nat} {s : St} (h : MSt τ T s) (r : Nat) : MSt (mI τ 35 (nI r)) T (sRm s r) := ⟨mI_at _ _ _, h.2⟩
section G18
variable {w : Wd} {t : Tr} {τ : mS} {s : St} {l : List Nat}
theorem fm_thingAt_s (hw : Wd.ok w) (hW : MWd τ w) (ht : Tr.ok w t) (hM : MTr τ w t) (h0 : 0 < t.N) (hl : isTx l) (hX : MTx τ l) (hR : MRc τ (sCuts l)) {j : Nat} (hj : j < (sCuts l).length) : fm_thingAt τ (nI j) = some (thA w (sKn t t.now) (sWord w (sPart l j)), τ) := by
  have hWl := hw.1.1
  have h30 := hl.1
  have hlen := cuts_len l
  obtain ⟨h1, h2⟩ := sPt_in hj
  obtain ⟨e1, e2⟩ := hR.2 j _ (sPt_e hj)
  have c1 : (nI j).toNatClampNeg = j := jCl (by omega)
  have x1 : ¬ 31 ≤ j := by omega
  have y : (nI j < (0 : Int32) ∨ False) = False := by
    rw [n0, jLt (by omega) (by omega)]
    simp
  unfold fm_thingAt fm_thingAt_37 fm_thingAt_56 thA
  simp only [c1, x1, y, if_false, e1, e2]
  rw [fm_wordAt_s hw hW hl hX h1 h2, Option.bind_some]
  show (if oI (sWord w (sPart l j)) = -1 then _ else _) = _
  cases e : sWord w (sPart l j) with
  | none => exact if_pos (show oI none = (-1 : Int32) from rfl)
  | some k =>
    have hk := (sWord_lt e).1
    rw [if_neg (show ¬ oI (some k) = (-1 : Int32) from fun h => (jM1 (a := k) (by omega)).mp h)]
    show ((fm_knownAt τ (τ.1 34)).bind fun r_2 => (fm_has r_2.1 (oI (sWord w (sPart l j)))).bind fun r_3 => if r_3 = 0 then some (-1, r_2.2) else (fm_thingOf r_2.2 (oI (sWord w (sPart l j)))).bind fun r_4 => if r_4.1 = -1 then some (-2, r_4.2) else some (r_4.1, r_4.2)) = _
    rw [e, hM.1.2.1, fm_knownAt_s ht hM (ht.1.2.1 h0), Option.bind_some]
    show ((fm_has (sKn t t.now) (nI k)).bind fun r_3 => if r_3 = 0 then some (-1, τ) else (fm_thingOf τ (nI k)).bind fun r_4 => if r_4.1 = -1 then some (-2, r_4.2) else some (r_4.1, r_4.2)) = some (if sHas (sKn t t.now) k = true then (match sThing w k with | none => -nI 2 | some x => nI x) else -nI 1, τ)
    rw [fm_has_s (by omega), Option.bind_some, bI_if]
    by_cases q : sHas (sKn t t.now) k = true
    · rw [if_pos q, if_pos q, fm_thingOf_s hw hW (by omega), Option.bind_some]
      cases e2 : sThing w k with
      | none => exact if_pos (show oI none = (-1 : Int32) from rfl)
      | some x =>
        have hx := sThing_T e2
        have := hw.1.2.2.1
        exact if_neg (show ¬ oI (some x) = (-1 : Int32) from fun h => (jM1 (a := x) (by omega)).mp h)
    · rw [if_neg q, if_neg q]
      rfl
theorem fm_canDo_go (hw : Wd.ok w) (hW : MWd τ w) (hs : St.ok w s) (hm : MSt τ w.T s) (hl : isTx l) (hX : MTx τ l) (hR : MRc τ (sCuts l)) {lk : Int64} (hlk : τ.2.1 39 = lk) {d : Nat} (hd : sOnly l = some d) (hj : 1 < (sCuts l).length) (X B : Int32) : MDo τ w lk (sMove w s d) (fm_canDo τ (nI 1) X B) := by
  have h30 := hl.1
  have hR12 := hw.1.2.1
  obtain ⟨h1, h2⟩ := sPt_in hj
  obtain ⟨e1, e2⟩ := hR.2 1 _ (sPt_e hj)
  unfold sOnly at hd
  by_cases z : (sPt l 1).2 - (sPt l 1).1 = 1
  case neg => rw [if_neg z] at hd; cases hd
  rw [if_pos z] at hd
  obtain ⟨hd6, -⟩ := sDir_lt hd
  have c1 : (nI 1).toNatClampNeg = 1 := rfl
  have c2 : (nI (sPt l 1).1).toNatClampNeg = (sPt l 1).1 := jCl (by omega)
  have x1 : ¬ 30 ≤ (sPt l 1).1 := by omega
  have e3 := hX.2 (sPt l 1).1 (by omega)
  have g3 := getD_tx hl (show (sPt l 1).1 < l.length by omega)
  have y : ∀ a, a < 100000 → (nI a < (0 : Int32) ∨ False) = False := fun a ha => by
    rw [n0, jLt ha (by omega)]
    simp
  have hr := hs.1
  unfold fm_canDo
  rw [if_pos (show nI 1 = (1 : Int32) from rfl)]
  simp only [n1, c1, e1, show (31 ≤ 1) = False from eq_false (by decide), y 1 (by omega), if_false, c2, x1, y (sPt l 1).1 (by omega), e3, fm_directionOf_s (show l.getD (sPt l 1).1 0 < 100000 by omega), Option.bind_some, hd, hm.1]
  rw [show oI (some d) = nI d from rfl, fm_isFree_s hw hW hs hm hr hd6, Option.bind_some, bI_if]
  unfold sMove
  cases e : sFree w s (6 * s.rm + d) with
  | none => exact MDo.no
  | some r =>
    have hex : w.ex (6 * s.rm + d) = some r := by
      unfold sFree at e
      split at e
      · exact e
      · split at e
        · exact e
        · cases e
    have hr2 := (hw.2.2.2.1 _ r hex).2
    have e7 := (hW.2.2.2.2.1 (6 * s.rm + d) (by omega)).1
    rw [hex] at e7
    have e7 : τ.2.2.1 7 (6 * s.rm + d) = nI r := e7
    have x2 : ¬ 72 ≤ 6 * s.rm + d := by omega
    simp only [n6, jMul, jAdd, hm.1, jCl (show 6 * s.rm + d < 100000 by omega), x2, y (6 * s.rm + d) (by omega), if_false, e7, Option.isSome_some, if_true, jz1]
    exact ⟨_, rfl, fun s' h => by
      have := Option.some.inj h
      subst this
      exact ⟨hm.uRm r, hlk⟩, mFr.I (by decide)⟩
theorem fm_canDo_any {v : Nat} (h10 : 10 ≤ v) (hv : v < 1000) {lk : Int64} (hm : MSt τ w.T s) (hlk : τ.2.1 39 = lk) (X B : Int32) : MDo τ w lk (some s) (fm_canDo τ (nI v) X B) := by
  unfold fm_canDo
  rw [if_neg (show ¬ nI v = (1 : Int32) from fun h => by have := (jEq (b := 1) (by omega) (by omega)).mp h; omega), if_neg (show ¬ nI v < (10 : Int32) from fun h => by have := (jLt (b := 10) (by omega) (by omega)).mp h; omega), if_pos (by decide)]
  exact ⟨τ, rfl, fun s' h => by
    have := Option.some.inj h
    subst this
    exact ⟨hm, hlk⟩, mFr.rf _ _⟩
theorem fm_canDo_m2 {v : Nat} (h1 : 2 ≤ v) (h9 : v ≤ 9) {lk : Int64} (B : Int32) : MDo τ w lk none (fm_canDo τ (nI v) (-nI 2) B) := by
  unfold fm_canDo fm_canDo_77
  rw [if_neg (show ¬ nI v = (1 : Int32) from fun h => by have := (jEq (b := 1) (by omega) (by omega)).mp h; omega), if_pos (show nI v < (10 : Int32) from (jLt (b := 10) (by omega) (by omega)).mpr (by omega)), if_pos (by decide), if_pos (by decide)]
  exact MDo.no
theorem fm_canDo_p2 (hw : Wd.ok w) (hW : MWd τ w) (hs : St.ok w s) (hm : MSt τ w.T s) {x : Nat} (hx : x < w.T) {lk : Int64} : MDo τ w lk none (fm_canDo τ (nI 9) (nI x) (-nI 2)) := by
  have hT := hw.1.2.2.1
  unfold fm_canDo fm_canDo_77 fm_canDo_234
  rw [if_neg (show ¬ nI 9 = (1 : Int32) by decide), if_pos (show nI 9 < (10 : Int32) by decide), if_neg (show ¬ nI x < (0 : Int32) from nI_pos (by omega)), fm_canReach_s hw hW hs hm hx, Option.bind_some, bI_if, if_neg (show ¬ nI 9 = (8 : Int32) by decide), if_neg (show ¬ nI 9 = (2 : Int32) by decide), if_neg (show ¬ nI 9 = (3 : Int32) by decide), if_pos (show nI 9 = (9 : Int32) from rfl), if_pos (show (-nI 2) < (0 : Int32) by decide)]
  split
  · exact MDo.no
  · exact MDo.no
/-- the sign that the reference tells, and what it makes -/
def sTry (w : Wd) (K : Int64) (s : St) (q : Cm) : Nat × Option St := if sKnw K q = true then (match sDo w s q with | none => (110, none) | some s' => (111, some s')) else (119, none)
def MTo (τ : mS) (w : Wd) (lk : Int64) (r : Nat × Option St) (f : Option (Int32 × mS)) : Prop := ∃ τ', f = fm_say_122 τ' (nI r.1) ∧ (∀ s', r.2 = some s' → MSt τ' w.T s' ∧ τ'.2.1 39 = lk) ∧ mFr [35, 36, 37, 39] τ τ'
theorem say_79 {v : Nat} {X B : Int32} (hv : 0 < v) (hv2 : v < 1000) (hX : ¬ X = (-1 : Int32)) (hB : ¬ B = (-1 : Int32)) {b : Bool} {τ' : mS} (h : fm_canDo τ (nI v) X B = some (bI b, τ')) : fm_say_79 τ (nI v) (111 : Int32) X B = fm_say_122 τ' (nI (if b = true then 111 else 110)) := by
  unfold fm_say_79
  rw [if_neg (show ¬ nI v = (0 : Int32) from fun z => by have := (jEq (b := 0) (by omega) (by omega)).mp z; omega), if_neg hX, if_neg hB, h, Option.bind_some, bI_if]
  cases b with
  | false => rw [if_neg Bool.false_ne_true, if_neg Bool.false_ne_true, show (110 : Int32) = nI 110 from rfl]
  | true => rw [if_pos rfl, if_pos rfl, show (111 : Int32) = nI 111 from rfl]
theorem MTo.of {lk : Int64} {K : Int64} {q : Cm} {v : Nat} {X B : Int32} (hk : sKnw K q = true) (hv : 0 < v) (hv2 : v < 1000) (hX : ¬ X = (-1 : Int32)) (hB : ¬ B = (-1 : Int32)) (h : MDo τ w lk (sDo w s q) (fm_canDo τ (nI v) X B)) : MTo τ w lk (sTry w K s q) (fm_say_79 τ (nI v) (111 : Int32) X B) := by
  obtain ⟨τ', h1, h2, h3⟩ := h
  have e1 : (sTry w K s q).1 = if (sDo w s q).isSome = true then 111 else 110 := by
    unfold sTry
    rw [if_pos hk]
    cases sDo w s q <;> rfl
  have e2 : (sTry w K s q).2 = sDo w s q := by
    unfold sTry
    rw [if_pos hk]
    cases sDo w s q <;> rfl
  refine ⟨τ', ?_, fun s' z => h2 s' (by rw [← e2]; exact z), h3⟩
  rw [say_79 hv hv2 hX hB h1, e1]
theorem MTo.wd {lk : Int64} {K : Int64} {q : Cm} (hk : ¬ sKnw K q = true) : MTo τ w lk (sTry w K s q) (fm_say_122 τ (119 : Int32)) := by
  have e1 : sTry w K s q = (119, none) := if_neg hk
  rw [e1]
  refine ⟨τ, ?_, (fun s' z => by cases z), mFr.rf _ _⟩
  rw [show (119 : Int32) = nI 119 from rfl]
theorem fm_try_s (hw : Wd.ok w) (hW : MWd τ w) (hs : St.ok w s) (hm : MSt τ w.T s) (ht : Tr.ok w t) (hM : MTr τ w t) (h0 : 0 < t.N) (hl : isTx l) (hX : MTx τ l) (hR : MRc τ (sCuts l)) (hlk : τ.2.1 39 = 0) (hv : sVerb l ≠ 0) (tc : Nat → Int64) : MTo τ w (sBes w tc (sCmd w l (sVerb l))) (sTry w (sKn t t.now) s (sCmd w l (sVerb l))) (if nI (sVerb l) = (9 : Int32) then fm_say_54 τ (nI (sVerb l)) (111 : Int32) else if nI (sVerb l) ≤ (1 : Int32) then fm_say_62 τ (nI (sVerb l)) (111 : Int32) else if (9 : Int32) ≤ nI (sVerb l) then fm_say_62 τ (nI (sVerb l)) (111 : Int32) else fm_say_54 τ (nI (sVerb l)) (111 : Int32)) := by
  have hT := hw.1.2.2.1
  have hWl := hw.1.1
  have K : ∃ K, K = sKn t t.now := ⟨_, rfl⟩
  have TA := fun j (hj : j < (sCuts l).length) => fm_thingAt_s (τ := τ) hw hW ht hM h0 hl hX hR hj
  -- what the verb says of the parts
  have hlen : (sVerb l = 1 → 1 < (sCuts l).length ∧ sOnly l ≠ none) ∧ (2 ≤ sVerb l → sVerb l ≤ 8 → 1 < (sCuts l).length) ∧ (sVerb l = 9 → 3 < (sCuts l).length) ∧ sVerb l ≤ 11 := by
    unfold sVerb
    split
    · omega
    · split
      · split
        · omega
        · split <;> omega
      · split
        · split
          · split <;> omega
          · omega
        · split
          · split
            · split
              · omega
              · next h => exact ⟨fun _ => ⟨by omega, h⟩, by omega, by omega, by omega⟩
            · repeat' split
              all_goals omega
          · omega
  obtain ⟨L1, L2, L9, L11⟩ := hlen
  have nm1 : ∀ x, x < 100000 → ¬ nI x = (-1 : Int32) := fun x hx h => (jM1 hx).mp h
  have nm2 : ¬ (-nI 2) = (-1 : Int32) := by decide
  generalize sVerb l = v at *
  by_cases v1 : v = 1
  · subst v1
    obtain ⟨k1, k2⟩ := L1 rfl
    obtain ⟨d, hd⟩ := Option.ne_none_iff_exists'.mp k2
    rw [if_neg (by decide), if_pos (by decide)]
    have e : sCmd w l 1 = (1, sOnly l, none) := rfl
    rw [e, hd]
    have eb : sBes w tc (1, some d, none) = 0 := rfl
    rw [eb]
    unfold fm_say_62 fm_say_63
    rw [if_neg (by decide)]
    refine MTo.of rfl (by omega) (by omega) (by decide) (by decide) ?_
    exact fm_canDo_go hw hW hs hm hl hX hR hlk hd k1 0 0
  by_cases v9 : v = 9
  · subst v9
    have k3 := L9 rfl
    rw [if_pos (by decide)]
    have e : sCmd w l 9 = (9, sWord w (sPart l 1), sWord w (sPart l 3)) := rfl
    have eb : ∀ a b, sBes w tc (9, a, b) = 0 := fun a b => rfl
    rw [e, eb]
    unfold fm_say_54 fm_say_63
    rw [show (1 : Int32) = nI 1 from rfl, TA 1 (by omega), Option.bind_some, if_pos (by decide), show (3 : Int32) = nI 3 from rfl, TA 3 (by omega), Option.bind_some]
    generalize ha : sWord w (sPart l 1) = oa
    generalize hb : sWord w (sPart l 3) = ob
    have la : ∀ a, oa = some a → a < w.W := fun a h => by rw [h] at ha; exact (sWord_lt ha).1
    have lb : ∀ a, ob = some a → a < w.W := fun a h => by rw [h] at hb; exact (sWord_lt hb).1
    have knw : sKnw (sKn t t.now) (9, oa, ob) = (oHas (sKn t t.now) oa && oHas (sKn t t.now) ob) := rfl
    have bad1 : ¬ sKnw (sKn t t.now) (9, oa, ob) = true → (thA w (sKn t t.now) oa = (-1 : Int32) ∨ thA w (sKn t t.now) ob = (-1 : Int32)) := by
      intro h
      rw [knw] at h
      cases oa with
      | none => exact Or.inl rfl
      | some a =>
        by_cases qa : sHas (sKn t t.now) a = true
        · cases ob with
          | none => exact Or.inr rfl
          | some b =>
            by_cases qb : sHas (sKn t t.now) b = true
            · exact absurd (by show (sHas _ a && sHas _ b) = true; rw [qa, qb]; rfl) h
            · exact Or.inr (if_neg qb)
        · exact Or.inl (if_neg qa)
    by_cases hk : sKnw (sKn t t.now) (9, oa, ob) = true
    · rw [knw, Bool.and_eq_true] at hk
      obtain ⟨a, rfl⟩ : ∃ a, oa = some a := by
        cases oa with
        | none => exact absurd hk.1 Bool.false_ne_true
        | some a => exact ⟨a, rfl⟩
      obtain ⟨b, rfl⟩ : ∃ a, ob = some a := by
        cases ob with
        | none => exact absurd hk.2 Bool.false_ne_true
        | some a => exact ⟨a, rfl⟩
      have ea : thA w (sKn t t.now) (some a) = (match sThing w a with | none => -nI 2 | some x => nI x) := if_pos hk.1
      have eb2 : thA w (sKn t t.now) (some b) = (match sThing w b with | none => -nI 2 | some x => nI x) := if_pos hk.2
      have hk' : sKnw (sKn t t.now) (9, some a, some b) = true := by rw [knw, Bool.and_eq_true]; exact hk
      have ed : sDo w s (9, some a, some b) = (sThing w a).bind fun x => if sReach s (sLight w s) x then ((sThing w b).bind fun y => if sReach s (sLight w s) y then sStow w s x y else none) else none := rfl
      rw [ea, eb2]
      cases e1 : sThing w a with
      | none =>
        refine MTo.of hk' (by omega) (by omega) nm2 ?_ ?_
        · cases e2 : sThing w b with
          | none => exact nm2
          | some y => exact nm1 y (by have := sThing_T e2; omega)
        · rw [ed, e1]
          exact fm_canDo_m2 (by omega) (by omega) _
      | some x =>
        have hx := sThing_T e1
        cases e2 : sThing w b with
        | none =>
          refine MTo.of hk' (by omega) (by omega) (nm1 x (by omega)) nm2 ?_
          have : sDo w s (9, some a, some b) = none := by
            rw [ed, e1, e2]
            show (if sReach s (sLight w s) x then none else none) = none
            rw [ite_self]
          rw [this]
          exact fm_canDo_p2 hw hW hs hm hx
        | some y =>
          have hy := sThing_T e2
          refine MTo.of hk' (by omega) (by omega) (nm1 x (by omega)) (nm1 y (by omega)) ?_
          rw [ed, e1, e2]
          exact fm_canDo_put hw hW hs hm hx hy hlk
    · have : fm_say_79 τ (nI 9) 111 (thA w (sKn t t.now) oa) (thA w (sKn t t.now) ob) = fm_say_122 τ 119 := by
        unfold fm_say_79 fm_say_102
        rw [if_neg (by decide)]
        rcases bad1 hk with h | h
        · rw [if_pos h]
        · by_cases z : thA w (sKn t t.now) oa = (-1 : Int32)
          · rw [if_pos z]
          · rw [if_neg z, if_pos h]
      rw [this]
      exact MTo.wd hk
  by_cases v8 : v ≤ 8
  · have k1 := L2 (by omega) v8
    have e : sCmd w l v = (v, sWord w (sPart l 1), none) := by
      unfold sCmd
      rw [if_neg v1, if_neg v9, if_neg (by omega)]
    rw [if_neg (show ¬ nI v = (9 : Int32) from fun z => v9 ((jEq (b := 9) (by omega) (by omega)).mp z)), if_neg (show ¬ nI v ≤ (1 : Int32) from fun z => by have := (jLe (b := 1) (by omega) (by omega)).mp z; omega), if_neg (show ¬ (9 : Int32) ≤ nI v from fun z => by have := (jLe (a := 9) (by omega) (by omega)).mp z; omega), e]
    unfold fm_say_54 fm_say_63
    rw [show (1 : Int32) = nI 1 from rfl, TA 1 k1, Option.bind_some, if_neg (show ¬ nI v = (9 : Int32) from fun z => v9 ((jEq (b := 9) (by omega) (by omega)).mp z))]
    generalize ha : sWord w (sPart l 1) = oa
    have knw : sKnw (sKn t t.now) (v, oa, none) = oHas (sKn t t.now) oa := by
      unfold sKnw
      rw [if_pos (show 2 ≤ v ∧ v ≤ 9 by omega), if_neg (show ¬ v = 9 from v9), Bool.and_true]
      rfl
    by_cases hk : sKnw (sKn t t.now) (v, oa, none) = true
    · have hk0 := hk
      rw [knw] at hk
      obtain ⟨a, rfl⟩ : ∃ a, oa = some a := by
        cases oa with
        | none => exact absurd hk Bool.false_ne_true
        | some a => exact ⟨a, rfl⟩
      have hk : sHas (sKn t t.now) a = true := hk
      have ea : thA w (sKn t t.now) (some a) = (match sThing w a with | none => -nI 2 | some x => nI x) := if_pos hk
      have ed : sDo w s (v, some a, none) = (sThing w a).bind fun x => if sReach s (sLight w s) x then sOne w s v x else none := by
        unfold sDo
        rw [if_neg (show ¬ v = 1 from v1), if_neg (show ¬ (v = 10 ∨ v = 11) by omega)]
        show ((sThing w a).bind fun x => if sReach s (sLight w s) x then (if v = 9 then ((none : Option Nat).bind (sThing w)).bind fun y => if sReach s (sLight w s) y then sStow w s x y else none else sOne w s v x) else none) = _
        simp only [if_neg v9]
      rw [ea]
      cases e1 : sThing w a with
      | none =>
        refine MTo.of hk0 (by omega) (by omega) nm2 (by decide) ?_
        rw [ed, e1]
        exact fm_canDo_m2 (by omega) (by omega) _
      | some x =>
        have hx := sThing_T e1
        refine MTo.of hk0 (by omega) (by omega) (nm1 x (by omega)) (by decide) ?_
        rw [ed, e1]
        have eb : sBes w tc (v, some a, none) = if v = 8 then w.ts x else τ.2.1 39 := by
          unfold sBes
          by_cases q8 : v = 8
          · rw [if_pos (show v = 8 from q8), if_pos q8]
            show (match sThing w a with | some x => w.ts x | none => 0) = _
            rw [e1]
          · rw [if_neg (show ¬ v = 8 from q8), if_neg q8, if_neg (show ¬ (v = 12 ∨ v = 13) by omega), hlk]
        rw [eb]
        exact fm_canDo_one hw hW hs hm hx ⟨by omega, v8⟩
    · have : fm_say_79 τ (nI v) 111 (thA w (sKn t t.now) oa) 0 = fm_say_122 τ 119 := by
        have h : thA w (sKn t t.now) oa = (-1 : Int32) := by
          rw [knw] at hk
          cases oa with
          | none => rfl
          | some a => exact if_neg hk
        unfold fm_say_79 fm_say_102
        rw [if_neg (show ¬ nI v = (0 : Int32) from fun z => hv ((jEq (b := 0) (by omega) (by omega)).mp z)), if_pos h]
      rw [this]
      exact MTo.wd hk
  · have e : sCmd w l v = (v, none, none) := by
      unfold sCmd
      rw [if_neg v1, if_neg v9, if_pos (by omega)]
    rw [if_neg (show ¬ nI v = (9 : Int32) from fun z => v9 ((jEq (b := 9) (by omega) (by omega)).mp z)), if_neg (show ¬ nI v ≤ (1 : Int32) from fun z => by have := (jLe (b := 1) (by omega) (by omega)).mp z; omega), if_pos (show (9 : Int32) ≤ nI v from (jLe (a := 9) (by omega) (by omega)).mpr (by omega)), e]
    unfold fm_say_62 fm_say_63
    rw [if_neg (show ¬ nI v = (9 : Int32) from fun z => v9 ((jEq (b := 9) (by omega) (by omega)).mp z))]
    have eb : sBes w tc (v, none, none) = 0 := by
      unfold sBes
      rw [if_neg (show ¬ v = 8 by omega), if_neg (show ¬ (v = 12 ∨ v = 13) by omega)]
    have hk : sKnw (sKn t t.now) (v, none, none) = true := by
      unfold sKnw
      rw [if_neg (show ¬ (2 ≤ v ∧ v ≤ 9) by omega), if_neg (show ¬ v = 9 from v9)]
      rfl
    rw [eb]
    refine MTo.of hk (by omega) (by omega) (by decide) (by decide) ?_
    have ed : sDo w s (v, none, none) = some s := by
      unfold sDo
      rw [if_neg (show ¬ v = 1 from v1), if_pos (show v = 10 ∨ v = 11 by omega)]
    rw [ed]
    exact fm_canDo_any (by omega) (by omega) hm hlk 0 0
end G18
