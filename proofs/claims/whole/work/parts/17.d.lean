/-! What is typed, understood: the class's side. -/
theorem ch128 : ∀ c, c < 128 → (nI c).toUInt32.toUInt16.toUInt32.toInt32 = nI c := by decide +kernel
theorem RCm.fr {ps : List (Nat × Nat)} {σ σ' : cS} {c : Nat} {q : Cm} (h : RCm σ c q) (hf : cFr ps σ σ') (hp : (8, c) ∉ ps) : RCm σ' c q := by
  obtain ⟨h1, h2, h3, h4⟩ := h
  obtain ⟨g1, -, g2⟩ := (hf.2 8 c h1).2.2 hp
  exact ⟨Nat.lt_of_lt_of_le h1 (hf.1 8), by rw [g2]; exact h2, by rw [g1]; exact h3, by rw [g1]; exact h4⟩
theorem fc_newCmd {σ : cS} {v : Nat} {a b : Int32} {x y : Option Nat} (h18 : 15 ≤ cn σ 18) (hv : v < 15) (ha : a = oI x) (hb : b = oI y) : ∃ σ', fc_X1_init (uN σ 8 0 0) (some (cn σ 8)) (some v) a b = some σ' ∧ RCm σ' (cn σ 8) (v, x, y) ∧ (∀ ps, cFr ps σ σ') ∧ (∀ k, cn σ' k = if k = 8 then cn σ 8 + 1 else cn σ k) := by
  have c8 : cn (uN σ 8 0 0) 8 = cn σ 8 + 1 := by rw [cn_uN, if_pos rfl]
  have d : dr (uN σ 8 0 0) 8 (some (cn σ 8)) = some (cn σ 8) := dr_mk (by rw [c8]; omega)
  have l : (¬ lvq (uN σ 8 0 0) 18 (some v) = true) ↔ False := lvq_mk (Nat.lt_of_lt_of_le hv h18)
  refine ⟨uI (uI (uR (uN σ 8 0 0) 8 (cn σ 8) 0 (some v)) 8 (cn σ 8) 1 a) 8 (cn σ 8) 2 b, ?_, ?_, ?_, ?_⟩
  · unfold fc_X1_init
    rw [d, Option.bind_some]
    simp only [l, if_false]
  · refine ⟨?_, ?_, ?_, ?_⟩
    · show cn σ 8 < cn (uN σ 8 0 0) 8
      rw [c8]; omega
    · exact if_pos ⟨rfl, rfl, rfl⟩
    · rw [uI_at, if_neg (by decide), uI_at, if_pos rfl, ha]
    · rw [uI_at, if_pos rfl, hb]
  · intro ps
    have key : ∀ (σ1 σ2 : cS), cFr [(8, cn σ 8)] σ1 σ2 → cFr [] σ σ1 → cFr ps σ σ2 := by
      intro σ1 σ2 h1 h2
      refine ⟨fun k => Nat.le_trans (h2.1 k) (h1.1 k), fun k i hi => ?_⟩
      have hi' : i < cn σ1 k := Nat.lt_of_lt_of_le hi (h2.1 k)
      obtain ⟨p1, p2, p3⟩ := h1.2 k i hi'
      obtain ⟨q1, q2, q3⟩ := h2.2 k i hi
      have ne : (k, i) ∉ [(8, cn σ 8)] := by
        intro h
        rw [List.mem_singleton] at h
        obtain ⟨rfl, rfl⟩ := Prod.mk.inj h
        exact Nat.lt_irrefl _ hi
      obtain ⟨r1, r2, r3⟩ := p3 ne
      obtain ⟨s1, s2, s3⟩ := q3 (by intro h; cases h)
      exact ⟨p1.trans q1, fun z => (p2 z).trans (q2 z), fun _ => ⟨r1.trans s1, r2.trans s2, r3.trans s3⟩⟩
    exact key (uN σ 8 0 0) _ (((cFr.R List.mem_cons_self).tr (cFr.I List.mem_cons_self)).tr (cFr.I List.mem_cons_self)) cFr.N
  · intro k
    exact cn_uN (n := 0) (t := 0)
def vPn : List Nat := [0, 2, 2, 2, 2, 2, 2, 2, 2, 4, 1, 1, 0, 0, 0]
theorem vPn_e : ∀ i, i < 15 → vP.getD i (nI 0) = nI (vPn.getD i 0) ∧ vT.getD i 0 < 17 ∧ vPn.getD i 0 < 5 := by decide +kernel
def sV0 (l : List Nat) (i : Nat) : Bool := decide (0 < sDiv (sCuts l) ∧ vPn.getD i 0 = sDiv (sCuts l) ∧ sPart l 0 = tN (vT.getD i 0))
def sCmd (w : Wd) (l : List Nat) (v : Nat) : Cm := if v = 1 then (1, sOnly l, none) else if v = 9 then (9, sWord w (sPart l 1), sWord w (sPart l 3)) else if 10 ≤ v then (v, none, none) else (v, sWord w (sPart l 1), none)
section D17
variable {l : List Nat} {σ : cS} {w : Wd}
theorem div_len {l : List Nat} (h : 0 < sDiv (sCuts l)) : cutOk (sCuts l) = true ∧ (sCuts l).length ≤ 4 ∧ sDiv (sCuts l) = (sCuts l).length := by
  unfold sDiv at h ⊢
  by_cases q : cutOk (sCuts l) = true ∧ (sCuts l).length ≤ 4
  · rw [if_pos q]; exact ⟨q.1, q.2, rfl⟩
  · rw [if_neg q] at h; exact absurd h (Nat.lt_irrefl _)
theorem fc_isPt (hl : isTx l) (hX : CTx σ l) (hR : CRc σ (sCuts l)) {j i : Nat} (hj : j < (sCuts l).length) (h4 : (sCuts l).length ≤ 4) (hi : i < 17) : fc_X7_isPart σ (nI j) (some i) = some (bI (decide (sPart l j = tN i)), σ) := by
  obtain ⟨h1, h2⟩ := sPt_in hj
  obtain ⟨e1, e2⟩ := hR j _ (sPt_e hj)
  exact fc_isPart_s hl hX (by omega) hi e1 e2 h1 h2
theorem fc_und_l (hl : isTx l) (hX : CTx σ l) (hR : 0 < sDiv (sCuts l) → CRc σ (sCuts l)) : ∀ (d i f : Nat), i + d = 15 → d < f → fc_X11_understood_10 f σ (nI (sDiv (sCuts l))) (nI i) = match (List.range' i d).find? (sV0 l) with | none => some (none, σ) | some v => (fc_X11_completed σ (some v)).bind fun r => some (r.1, r.2) := by
  have hd4 : sDiv (sCuts l) ≤ 4 := by
    unfold sDiv
    split
    · omega
    · omega
  intro d
  induction d with
  | zero =>
    intro i f hi hf
    obtain ⟨f, rfl⟩ : ∃ k, f = k + 1 := ⟨f - 1, by omega⟩
    obtain rfl : i = 15 := by omega
    rw [fc_X11_understood_10, if_pos (by decide)]
    rfl
  | succ d ih =>
    intro i f hi hf
    obtain ⟨f, rfl⟩ : ∃ k, f = k + 1 := ⟨f - 1, by omega⟩
    have x1 : ¬ 15 ≤ i := by omega
    have c1 : (nI i).toNatClampNeg = i := jCl (by omega)
    obtain ⟨v1, v2, v3⟩ := vPn_e i (by omega)
    rw [fc_X11_understood_10, List.range'_succ, List.find?_cons]
    unfold fc_X11_understood_57
    simp (disch := omega) only [show ((15 : Int32) = nI 15) from rfl, n0, n1, jLe, jLt, x1, c1, Nat.not_lt_zero, or_self, not_false_eq_true, not_true_eq_false, if_false, dv_mk, Option.bind_some, jAdd]
    by_cases q : sDiv (sCuts l) ≤ 0
    · rw [if_pos q, show sV0 l i = false from decide_eq_false (fun h => by omega)]
      exact ih (i + 1) f (by omega) (by omega)
    · obtain ⟨g1, g2, g3⟩ := div_len (l := l) (by omega)
      rw [if_neg q]
      rw [v1]
      by_cases q2 : vPn.getD i 0 = sDiv (sCuts l)
      · rw [if_pos (by rw [q2]), fc_isPt hl hX (hR (by omega)) (j := 0) (by omega) g2 v2, Option.bind_some, bI_if0]
        simp only [decide_eq_true_eq]
        by_cases q3 : sPart l 0 = tN (vT.getD i 0)
        · rw [if_pos q3, show sV0 l i = true from decide_eq_true ⟨by omega, q2, q3⟩]
        · rw [if_neg q3, show sV0 l i = false from decide_eq_false (fun h => q3 h.2.2)]
          exact ih (i + 1) f (by omega) (by omega)
      · rw [if_neg (fun h => q2 ((jEq (by omega) (by omega)).mp h)), show sV0 l i = false from decide_eq_false (fun h => q2 h.2.1)]
        exact ih (i + 1) f (by omega) (by omega)
theorem fc_onlySign_s (hl : isTx l) (hX : CTx σ l) (hR : CRc σ (sCuts l)) (hj : 1 < (sCuts l).length) : fc_X7_onlySign σ 1 = some (nI (if (sPt l 1).2 - (sPt l 1).1 = 1 then l.getD (sPt l 1).1 0 else 32), σ) := by
  obtain ⟨h1, h2⟩ := sPt_in hj
  obtain ⟨e1, e2⟩ := hR 1 _ (sPt_e hj)
  have h30 := hl.1
  have c1 : (nI 1).toNatClampNeg = 1 := rfl
  have y : ∀ a, a < 100000 → (nI a < (0 : Int32) ∨ False) = False := fun a ha => by
    rw [n0, jLt ha (by omega)]
    simp
  unfold fc_X7_onlySign fc_X7_onlySign_33
  simp (disch := omega) only [n1, c1, e1, e2, show (4 ≤ 1) = False from eq_false (by decide), y, if_false, jSub, jEq]
  by_cases a2 : (sPt l 1).2 - (sPt l 1).1 = 1
  · have x1 : ¬ 30 ≤ (sPt l 1).1 := by omega
    have c2 : (nI (sPt l 1).1).toNatClampNeg = (sPt l 1).1 := jCl (by omega)
    have e3 := hX.2 (sPt l 1).1 (by omega)
    have g3 := getD_tx hl (show (sPt l 1).1 < l.length by omega)
    rw [if_pos a2, if_pos a2, c2]
    simp (disch := omega) only [x1, y, if_false, e3, ch128, if_true]
  · rw [if_neg a2, if_neg a2]
    rfl
theorem fc_letters_s (hl : isTx l) (hX : CTx σ l) (hR : CRc σ (sCuts l)) {j : Nat} (hj : j < (sCuts l).length) (h4 : (sCuts l).length ≤ 4) : fc_X7_lettersOfPart σ (nI j) = some (sP8 (sPart l j), σ) := by
  obtain ⟨h1, h2⟩ := sPt_in hj
  obtain ⟨e1, e2⟩ := hR j _ (sPt_e hj)
  have c1 : (nI j).toNatClampNeg = j := jCl (by omega)
  have x1 : ¬ 4 ≤ j := by omega
  unfold fc_X7_lettersOfPart
  simp (disch := omega) only [n0, jLt, Nat.not_lt_zero, false_or, x1, c1, if_false, e1, e2, fc_packed_s hl hX h1 h2, Option.bind_some]
  rfl
theorem part_ch (hl : isTx l) (j : Nat) : ∀ c ∈ sPart l j, c = 32 ∨ (97 ≤ c ∧ c ≤ 122) := fun c hc => hl.2 c (sSeg_mem hc)
/-- what the class makes of a verb -/
def COut (σ : cS) (r : Option Cm) (f : Option (Option Nat × cS)) : Prop := match r with
  | none => f = some (none, σ)
  | some q => ∃ σ', f = some (some (cn σ 8), σ') ∧ RCm σ' (cn σ 8) q ∧ (∀ ps, cFr ps σ σ') ∧ ∀ k, cn σ' k = if k = 8 then cn σ 8 + 1 else cn σ k
theorem oI_le {x : Option Nat} (h : ∀ b, x = some b → b < 100000) : (0 : Int32) ≤ oI x ↔ x.isSome = true := by
  cases x with
  | none => exact iff_of_false (show ¬ (0 : Int32) ≤ -nI 1 by decide) Bool.false_ne_true
  | some b =>
    refine iff_of_true ?_ rfl
    show nI 0 ≤ nI b
    rw [jLe (by omega) (h b rfl)]
    exact Nat.zero_le _
theorem fc_comp_go (hl : isTx l) (hX : CTx σ l) (hR : CRc σ (sCuts l)) (hj : 1 < (sCuts l).length) (h18 : 15 ≤ cn σ 18) : COut σ (if sOnly l = none then none else some (1, sOnly l, none)) (fc_X11_completed σ (some 1)) := by
  have h30 := hl.1
  obtain ⟨h1, h2⟩ := sPt_in hj
  have hd : sDir (if (sPt l 1).2 - (sPt l 1).1 = 1 then l.getD (sPt l 1).1 0 else 32) = sOnly l := by
    unfold sOnly
    by_cases q : (sPt l 1).2 - (sPt l 1).1 = 1
    · rw [if_pos q, if_pos q]
    · rw [if_neg q, if_neg q]; rfl
  have hlt : (if (sPt l 1).2 - (sPt l 1).1 = 1 then l.getD (sPt l 1).1 0 else 32) < 100000 := by
    split
    · have := getD_tx hl (show (sPt l 1).1 < l.length by omega); omega
    · omega
  have ho : ∀ b, sOnly l = some b → b < 100000 := fun b hb => by
    rw [← hd] at hb
    have := (sDir_lt hb).1
    omega
  unfold fc_X11_completed fc_X11_completed_40
  rw [if_neg (show ¬ ¬ lvv (some 1) = true from fun h => h rfl), if_pos rfl, fc_onlySign_s hl hX hR hj]
  simp only [Option.bind_some, fc_indexOf_s hlt, hd]
  have hle := oI_le ho
  cases e : sOnly l with
  | none =>
    rw [e] at hle
    rw [if_neg (fun h => Bool.false_ne_true (hle.mp h)), if_pos rfl]
    exact rfl
  | some d =>
    rw [e] at hle
    rw [if_pos (hle.mpr rfl), if_neg (fun h => by cases h)]
    obtain ⟨σ', e1, e2, e3, e4⟩ := fc_newCmd (v := 1) (a := oI (some d)) (b := -1) (x := some d) (y := none) h18 (by omega) rfl rfl
    have c8 : cn (uN σ 8 0 0) 8 = cn σ 8 + 1 := by rw [cn_uN, if_pos rfl]
    rw [dr_mk (show cn σ 8 < cn (uN σ 8 0 0) 8 by rw [c8]; omega), Option.bind_some, e1, Option.bind_some]
    exact ⟨σ', rfl, e2, e3, e4⟩
theorem fc_comp_118 {v : Nat} {a b : Int32} {x y : Option Nat} (h18 : 15 ≤ cn σ 18) (hv : v < 15) (ha : a = oI x) (hb : b = oI y) : COut σ (some (v, x, y)) (fc_X11_completed_118 σ (some v) a b) := by
  obtain ⟨σ', e1, e2, e3, e4⟩ := fc_newCmd h18 hv ha hb
  have c8 : cn (uN σ 8 0 0) 8 = cn σ 8 + 1 := by rw [cn_uN, if_pos rfl]
  unfold fc_X11_completed_118
  rw [dr_mk (show cn σ 8 < cn (uN σ 8 0 0) 8 by rw [c8]; omega), Option.bind_some, e1, Option.bind_some]
  exact ⟨σ', rfl, e2, e3, e4⟩
theorem fc_comp_64 (hw : Wd.ok w) (hW : CWd σ w) (hl : isTx l) (hX : CTx σ l) (hR : CRc σ (sCuts l)) (h4 : (sCuts l).length ≤ 4) (h18 : 15 ≤ cn σ 18) {v : Nat} (hv1 : 2 ≤ v) (hv2 : v ≤ 11) (hlen : vPn.getD v 0 = (sCuts l).length) : COut σ (some (sCmd w l v)) (fc_X11_completed_64 σ (some v)) := by
  have w1 := fun h : 1 < (sCuts l).length => fc_letters_s hl hX hR (j := 1) h h4
  have w3 := fun h : 3 < (sCuts l).length => fc_letters_s hl hX hR (j := 3) h h4
  have u1 := fc_wordOf_s (σ := σ) hw hW (part_ch hl 1)
  have u3 := fc_wordOf_s (σ := σ) hw hW (part_ch hl 3)
  unfold fc_X11_completed_64 fc_X11_completed_90
  rw [dv_mk (by omega), Option.bind_some, Option.bind_some]
  have hv : v = 2 ∨ v = 3 ∨ v = 4 ∨ v = 5 ∨ v = 6 ∨ v = 7 ∨ v = 8 ∨ v = 9 ∨ v = 10 ∨ v = 11 := by omega
  have one : ∀ v, 2 ≤ v → v ≤ 8 → vQ.getD v (0 : Int32) = 1 → sCmd w l v = (v, sWord w (sPart l 1), none) → 1 < (sCuts l).length → COut σ (some (sCmd w l v)) (if vQ.getD v (0 : Int32) ≤ 0 then if vQ.getD v (0 : Int32) ≤ 1 then fc_X11_completed_118 σ (some v) (-1) (-1) else (fc_X7_lettersOfPart σ 3).bind fun r_2 => (fc_X10_wordOf r_2.2 r_2.1).bind fun r_3 => fc_X11_completed_118 r_3.2 (some v) (-1) r_3.1 else (fc_X7_lettersOfPart σ 1).bind fun r_2 => (fc_X10_wordOf r_2.2 r_2.1).bind fun r_3 => (dv (some v)).bind fun i_1 => if vQ.getD i_1 (0 : Int32) ≤ 1 then fc_X11_completed_118 r_3.2 (some v) r_3.1 (-1) else (fc_X7_lettersOfPart r_3.2 3).bind fun r_2 => (fc_X10_wordOf r_2.2 r_2.1).bind fun r_3_1 => fc_X11_completed_118 r_3_1.2 (some v) r_3.1 r_3_1.1) := by
    intro v h1 h2 hq hc hlen
    rw [hq, if_neg (by decide), show ((1 : Int32)) = nI 1 from rfl, w1 hlen]
    simp only [Option.bind_some, u1, dv_mk (show v < 15 by omega), hq]
    rw [if_pos (by decide), hc]
    exact fc_comp_118 h18 (by omega) rfl rfl
  rcases hv with rfl | rfl | rfl | rfl | rfl | rfl | rfl | rfl | rfl | rfl
  · exact one 2 (by omega) (by omega) rfl rfl (by have : vPn.getD 2 0 = 2 := rfl; omega)
  · exact one 3 (by omega) (by omega) rfl rfl (by have : vPn.getD 3 0 = 2 := rfl; omega)
  · exact one 4 (by omega) (by omega) rfl rfl (by have : vPn.getD 4 0 = 2 := rfl; omega)
  · exact one 5 (by omega) (by omega) rfl rfl (by have : vPn.getD 5 0 = 2 := rfl; omega)
  · exact one 6 (by omega) (by omega) rfl rfl (by have : vPn.getD 6 0 = 2 := rfl; omega)
  · exact one 7 (by omega) (by omega) rfl rfl (by have : vPn.getD 7 0 = 2 := rfl; omega)
  · exact one 8 (by omega) (by omega) rfl rfl (by have : vPn.getD 8 0 = 2 := rfl; omega)
  · have h9 : vPn.getD 9 0 = 4 := rfl
    rw [show vQ.getD 9 (0 : Int32) = 2 from rfl, if_neg (by decide), show ((1 : Int32)) = nI 1 from rfl, w1 (by omega)]
    simp only [Option.bind_some, u1, dv_mk (show 9 < 15 by omega), show vQ.getD 9 (0 : Int32) = 2 from rfl]
    rw [if_neg (by decide), show ((3 : Int32)) = nI 3 from rfl, w3 (by omega)]
    simp only [Option.bind_some, u3]
    exact fc_comp_118 h18 (by omega) rfl rfl
  · rw [show vQ.getD 10 (0 : Int32) = 0 from rfl, if_pos (by decide), if_pos (by decide)]
    exact fc_comp_118 h18 (by omega) rfl rfl
  · rw [show vQ.getD 11 (0 : Int32) = 0 from rfl, if_pos (by decide), if_pos (by decide)]
    exact fc_comp_118 h18 (by omega) rfl rfl
end D17
