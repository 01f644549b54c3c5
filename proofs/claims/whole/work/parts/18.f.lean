/-! To follow a command: the class's side. -/
def sBes (w : Wd) (tc : Nat → Int64) (q : Cm) : Int64 := if q.1 = 8 then (match q.2.1 with | some k => (match sThing w k with | some x => w.ts x | none => 0) | none => 0) else if q.1 = 12 ∨ q.1 = 13 then tc (q.2.1.getD 0) else 0
def sFol (w : Wd) (tc : Nat → Int64) (t : Tr) (s : St) (q : Cm) : Tr := match sChd t q with
  | some n => tAt t n
  | none => tAdd t (sBurn w s) (sShown w (sBurn w s) ||| sBes w tc q) q
theorem sThing_T {w : Wd} {k x : Nat} (h : sThing w k = some x) : x < w.T := (sThing_lt h).1
section F18
variable {w : Wd} {t : Tr} {σ : cS} {s : St} {q : Cm} {c : Nat} {tc : Nat → Int64}
theorem fc_beside_s (hw : Wd.ok w) (hW : CWd σ w) (hq : cmQ w q) (hh : 12 ≤ q.1 → q.1 ≤ 13 → ∀ b, q.2.1 = some b → b < 12) (htc : ∀ h, h < 12 → cJ σ 15 3 h = tc h) (hc : RCm σ c q) : fc_X11_wordsBeside σ (some c) = some (sBes w tc q, σ) := by
  have hT := hw.1.2.2.1
  have hWd := hw.1.1
  obtain ⟨c1, c2, c3, c4⟩ := hc
  have vm : ∀ v, v < 15 → ¬ (¬ ¬ ((nI v) < 0 ∨ 15 ≤ (nI v).toNatClampNeg)) := by decide +kernel
  have vt : ∀ v, v < 15 → (vM.getD (nI v).toNatClampNeg (0 : Int32) = 7 ↔ v = 8) ∧ (vM.getD (nI v).toNatClampNeg (0 : Int32) = 8 ↔ v = 12) ∧ (vM.getD (nI v).toNatClampNeg (0 : Int32) = 9 ↔ v = 13) := by decide +kernel
  have lq := (cmQ_b hw hq).1
  obtain ⟨t1, t2, t3⟩ := vt q.1 lq
  unfold fc_X11_wordsBeside fc_X11_wordsBeside_66 sBes
  rw [dr_mk c1, Option.bind_some, c2, dv_mk lq, Option.bind_some, if_neg (fun h => h (by have := vm q.1 lq; exact Decidable.not_not.mp this))]
  simp only [t1, t2, t3, c3]
  by_cases q8 : q.1 = 8
  · rw [if_pos q8, if_pos q8]
    rcases hq with (⟨d, hd, rfl⟩ | rfl | rfl | ⟨v, k, h1, h2, hk, rfl⟩ | ⟨a, b, ha, hb, rfl⟩) | ⟨v, h, h1, h2, h3, rfl⟩
    · exact absurd q8 (by show ¬ 1 = 8; omega)
    · exact absurd q8 (by show ¬ 10 = 8; omega)
    · exact absurd q8 (by show ¬ 11 = 8; omega)
    · show (fc_X10_thingOf σ (nI k)).bind _ = some ((match sThing w k with | some x => w.ts x | none => 0), σ)
      rw [fc_thingOf_s hw hW (by omega), Option.bind_some]
      cases e : sThing w k with
      | none => exact if_pos (show oI none = (-1 : Int32) from rfl)
      | some x =>
        have hx := sThing_T e
        have x1 : ¬ 12 ≤ x := by omega
        have y : (nI x < (0 : Int32) ∨ False) = False := by
          rw [n0, jLt (by omega) (by omega)]
          simp
        rw [if_neg (show ¬ oI (some x) = (-1 : Int32) from fun h => (jM1 (a := x) (by omega)).mp h)]
        show (if nI x < 0 ∨ 12 ≤ (nI x).toNatClampNeg then none else some (cJ σ 15 2 (nI x).toNatClampNeg, σ)) = _
        simp only [jCl (show x < 100000 by omega), x1, y, if_false]
        rw [(hW.2.2.2.1 x (by omega)).2]
    · exact absurd q8 (by show ¬ 9 = 8; omega)
    · exact absurd q8 (by show ¬ v = 8; omega)
  · rw [if_neg q8, if_neg q8]
    by_cases q12 : q.1 = 12 ∨ q.1 = 13
    · rcases hq with hq | ⟨v, h, h1, h2, h3, rfl⟩
      · have := tyQ_lt hq
        omega
      · have hb := hh (by show 12 ≤ v; omega) (by show v ≤ 13; have : v = 12 ∨ v = 13 := q12; omega) h rfl
        have x1 : ¬ 12 ≤ h := by omega
        have y : (nI h < (0 : Int32) ∨ False) = False := by
          rw [n0, jLt (by omega) (by omega)]
          simp
        have e : (if nI h < (0 : Int32) ∨ 12 ≤ (nI h).toNatClampNeg then none else some (cJ σ 15 3 (nI h).toNatClampNeg, σ)) = some (tc h, σ) := by
          simp only [jCl (show h < 100000 by omega), x1, y, if_false]
          rw [htc h hb]
        rw [if_pos q12]
        show (if v = 12 then (if nI h < (0 : Int32) ∨ 12 ≤ (nI h).toNatClampNeg then none else some (cJ σ 15 3 (nI h).toNatClampNeg, σ)) else if v = 13 then (if nI h < (0 : Int32) ∨ 12 ≤ (nI h).toNatClampNeg then none else some (cJ σ 15 3 (nI h).toNatClampNeg, σ)) else some (0, σ)) = some (tc h, σ)
        rw [e]
        have q12 : v = 12 ∨ v = 13 := q12
        rcases q12 with z | z
        · rw [if_pos z]
        · rw [if_neg (by omega), if_pos z]
    · rw [if_neg q12, if_neg (fun z => q12 (Or.inl z)), if_neg (fun z => q12 (Or.inr z))]
theorem CTr.at_ {m : Nat} (h : CTr σ t) : CTr (uI σ 4 0 2 (nI m)) (tAt t m) := by
  obtain ⟨⟨C1, C2, C3, C4, C5, C6⟩, CN, CP⟩ := h
  have hf : cFr [(4, 0)] σ (uI σ 4 0 2 (nI m)) := cFr.I (List.mem_singleton.mpr rfl)
  refine ⟨⟨?_, ?_, C3, C4, C5, C6⟩, ?_, ?_⟩
  · rw [uI_at, if_pos rfl]; rfl
  · exact (C2.fr hf (by simp) (fun e _ => by simp)).1
  · intro n hn
    obtain ⟨r0, r1, r2, r3, r4, r5, c', r6, r7⟩ := CN n hn
    refine ⟨?_, r1, r2, r3, r4, r5.fr hf (fun q hq => by rw [List.mem_singleton] at hq; rw [hq]; unfold cSc; simp), c', r6, r7.fr hf (by simp)⟩
    rw [uI_ne _ _ _ (by omega)]; exact r0
  · intro k hk
    rw [uI_ne _ _ _ (by omega)]
    exact CP k hk
theorem CTr.fr {ps : List (Nat × Nat)} {σ' : cS} (h : CTr σ t) (hf : cFr ps σ σ') (hL : cLbs σ) (hp : ∀ q ∈ ps, q ∈ cSc 0 ∨ (q.1 = 8 ∧ cn σ 8 ≤ q.2) ∨ q = (12, 0) ∨ q = (12, 1) ∨ q = (1, 0) ∨ q = (14, 0) ∨ q = (5, 0) ∨ q = (12, 12) ∨ q = (15, 3) ∨ q.1 = 9 ∨ q = (12, 10) ∨ q.1 = 11 ∨ q.1 = 16) (h6 : cn σ' 6 = cn σ 6) (h7 : cn σ' 7 = cn σ 7) (h12 : cn σ' 12 = cn σ 12) (h13 : cn σ' 13 = cn σ 13) : CTr σ' t := by
  obtain ⟨⟨C1, C2, C3, C4, C5, C6⟩, CN, CP⟩ := h
  have no : ∀ k i, (k = 4 ∨ k = 10 ∨ k = 17 ∨ k = 7 ∨ (k = 12 ∧ i = 11)) → (k, i) ∉ ps := by
    intro k i hk hq
    have := hp _ hq
    unfold cSc at this
    simp at this
    omega
  refine ⟨⟨?_, (C2.fr hf (no 10 0 (by omega)) (fun e _ => no 17 e (by omega))).1, h7.trans C3, h6.trans C4, h12.trans C5, h13.trans C6⟩, ?_, ?_⟩
  · rw [((hf.2 4 0 (Nat.lt_of_lt_of_le (by decide) (hL 4 (by decide)))).2.2 (no 4 0 (by omega))).1]; exact C1
  · intro n hn
    obtain ⟨r0, r1, r2, r3, r4, r5, c', r6, r7⟩ := CN n hn
    obtain ⟨a1, a2, a3⟩ := (hf.2 7 n (by rw [C3]; exact hn)).2.2 (no 7 n (by omega))
    rw [a1, a2, a3]
    refine ⟨r0, r1, r2, r3, r4, r5.fr hf (fun q hq hq2 => ?_), c', r6, r7.fr hf (fun hq => ?_)⟩
    · have := hp q hq
      unfold cSc at this hq2
      simp at this hq2
      rcases hq2 with rfl | rfl | rfl | rfl <;> simp at this <;> omega
    · have := hp _ hq
      have := r7.1
      simp [cSc] at *
      omega
  · intro k hk
    rw [((hf.2 12 11 (Nat.lt_of_lt_of_le (by decide) (hL 12 (by decide)))).2.2 (no 12 11 (by omega))).1]
    exact CP k hk
theorem CEx.fr {ps : List (Nat × Nat)} {σ' : cS} (h : CEx σ) (hf : cFr ps σ σ') (hL : cLbs σ) (h0 : (10, 0) ∉ ps) (h1 : (10, 1) ∉ ps) : CEx σ' := by
  obtain ⟨E1, E2, E3⟩ := h
  have a0 := ((hf.2 10 0 (Nat.lt_of_lt_of_le (by decide) (hL 10 (by decide)))).2.2 h0).2.2
  have a1 := ((hf.2 10 1 (Nat.lt_of_lt_of_le (by decide) (hL 10 (by decide)))).2.2 h1).2.2
  refine ⟨by rw [(hf.2 17 0 (Nat.lt_of_lt_of_le (by decide) (hL 17 (by decide)))).1]; exact E1, fun e => by rw [a0, a1]; exact E2 e, fun e => ?_⟩
  rw [a1]
  exact fun h => Nat.lt_of_lt_of_le (E3 e h) (hf.1 17)
theorem fc_follow_s (hw : Wd.ok w) (hW : CWd σ w) (ht : Tr.ok w t) (hC : CTr σ t) (hL : cLbs σ) (hE : CEx σ) (h18 : 15 ≤ cn σ 18) (h0 : 0 < t.N) (hQ : ∀ n, 0 < n → n < t.N → cmQ w (t.cm n)) (hq : cmQ w q) (hh : 12 ≤ q.1 → q.1 ≤ 13 → ∀ b, q.2.1 = some b → b < 12) (htc : ∀ h, h < 12 → cJ σ 15 3 h = tc h) (hc : RCm σ c q) (hs : St.ok w s) (h6 : RSt σ 0 s) (hN : sChd t q = none → t.N < 80) : ∃ σ', fc_X11_follow σ (some c) = some σ' ∧ CTr σ' (sFol w tc t s q) ∧ CEx σ' ∧ (∃ e, cR σ 10 1 1 ≠ some e ∧ cFr ([(4, 0), (10, 0), (17, e), (12, 11)] ++ cSc 0) σ σ') ∧ (∀ k, k ∉ ([6, 7, 12, 13, 17] : List Nat) → cn σ' k = cn σ k) ∧ ∃ s', RSt σ' 0 s' := by
  obtain ⟨lq, bq, bq2⟩ := cmQ_b hw hq
  have hn := ht.1.2.1 h0
  have h80 := ht.1.1
  unfold fc_X11_follow fc_X11_follow_58 sFol
  rw [fc_childBy_s hw ht hC hQ h18 h0 hc lq bq bq2, Option.bind_some]
  cases e : sChd t q with
  | some n =>
    have hnN : n < t.N := by
      have := List.mem_of_find?_eq_some e
      rw [List.mem_range'_1] at this
      omega
    rw [if_neg (show ¬ oI (some n) = (-1 : Int32) from fun h => (jM1 (a := n) (by omega)).mp h)]
    have hf : ∀ ps, (4, 0) ∈ ps → cFr ps σ (uI σ 4 0 2 (nI n)) := fun ps h => cFr.I h
    refine ⟨_, rfl, hC.at_, hE.fr (hf [(4, 0)] (by simp)) hL (by simp) (by simp), ⟨cn σ 17, fun h => Nat.lt_irrefl _ (hE.2.2 _ h), hf _ (by simp)⟩, fun _ _ => rfl, s, h6.fr (hf [(4, 0)] (by simp)) (fun q hq => by rw [List.mem_singleton] at hq; rw [hq]; unfold cSc; simp)⟩
  | none =>
    rw [if_pos (show oI none = (-1 : Int32) from rfl)]
    obtain ⟨σ1, b1, b2, b3, b4⟩ := fc_burn_s hw hW hL hs h6
    have hs1 := sBurn_ok hs
    have hW1 := hW.fr hL b3 (cSc_W 0)
    have hL1 := hL.fr b3
    have hC1 : CTr σ1 t := hC.fr b3 hL (fun q hq => Or.inl hq) (by rw [b4]) (by rw [b4]) (by rw [b4]) (by rw [b4])
    have hE1 := hE.fr b3 hL (by unfold cSc; simp) (by unfold cSc; simp)
    have hc1 := hc.fr b3 (by unfold cSc; simp)
    have htc1 : ∀ h, h < 12 → cJ σ1 15 3 h = tc h := by
      intro h hh
      rw [((b3.2 15 3 (Nat.lt_of_lt_of_le (by decide) (hL 15 (by decide)))).2.2 (by unfold cSc; simp)).2.1]
      exact htc h hh
    rw [b1, Option.bind_some, fc_wordsShown_s hw hW1 hs1 b2, Option.bind_some, fc_beside_s hw hW1 hq hh htc1 hc1, Option.bind_some]
    obtain ⟨σ2, a1, a2, a3, ⟨e2, ne, a4⟩, a5⟩ := fc_add_s (sg := sShown w (sBurn w s) ||| sBes w tc q) ht hC1 hL1 hE1 (hN e) hc1 b2
    have d2 : dr σ2 7 (some t.N) = some t.N := dr_mk (by rw [a2.1.2.2.1]; show t.N < t.N + 1; omega)
    have num : cI σ2 7 t.N 0 = nI t.N := (a2.2.1 t.N (by show t.N < t.N + 1; omega)).1
    rw [a1, Option.bind_some, d2, Option.bind_some, num]
    have R1 : cR σ1 10 1 = cR σ 10 1 := ((b3.2 10 1 (Nat.lt_of_lt_of_le (by decide) (hL 10 (by decide)))).2.2 (by unfold cSc; simp)).2.2
    have f2 : cFr [(10, 0), (17, e2), (12, 11), (4, 0)] σ1 (uI σ2 4 0 2 (nI t.N)) := (a4.wk (fun q hq => by simp at hq ⊢; rcases hq with h | h | h <;> simp [h])).tr (cFr.I (by simp))
    refine ⟨_, rfl, ?_, a3.fr (cFr.I (List.mem_singleton.mpr rfl)) (hL1.fr a4) (by simp) (by simp), ⟨e2, by rw [← R1]; exact ne, ?_⟩, ?_, sBurn w s, ?_⟩
    · have := a2.at_ (m := t.N)
      exact this
    · exact (b3.wk (fun q hq => List.mem_append_right _ hq)).tr (f2.wk (fun q hq => by simp at hq ⊢; rcases hq with h | h | h | h <;> simp [h]))
    · intro k hk
      show cn σ2 k = _
      rw [a5 k hk, b4]
    · exact b2.fr f2 (fun q hq => by simp at hq; rcases hq with rfl | rfl | rfl | rfl <;> unfold cSc <;> simp)
end F18
